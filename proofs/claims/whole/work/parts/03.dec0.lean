theorem dX0_init_0 : decode cX0_init 0 = .ok (.aload_n 0, 1) := by decide +kernel
theorem dX0_init_1 : decode cX0_init 1 = .ok (.invokespecial 3, 3) := by decide +kernel
theorem dX0_init_4 : decode cX0_init 4 = .ok (.aload_n 0, 1) := by decide +kernel
theorem dX0_init_5 : decode cX0_init 5 = .ok (.bipush 8, 2) := by decide +kernel
theorem dX0_init_7 : decode cX0_init 7 = .ok (.newarray .int, 2) := by decide +kernel
theorem dX0_init_9 : decode cX0_init 9 = .ok (.putfield 9, 3) := by decide +kernel
theorem dX0_init_12 : decode cX0_init 12 = .ok (.aload_n 0, 1) := by decide +kernel
theorem dX0_init_13 : decode cX0_init 13 = .ok (.bipush 64, 2) := by decide +kernel
theorem dX0_init_15 : decode cX0_init 15 = .ok (.newarray .byte, 2) := by decide +kernel
theorem dX0_init_17 : decode cX0_init 17 = .ok (.putfield 15, 3) := by decide +kernel
theorem dX0_init_20 : decode cX0_init 20 = .ok (.aload_n 0, 1) := by decide +kernel
theorem dX0_init_21 : decode cX0_init 21 = .ok (.bipush 64, 2) := by decide +kernel
theorem dX0_init_23 : decode cX0_init 23 = .ok (.newarray .char, 2) := by decide +kernel
theorem dX0_init_25 : decode cX0_init 25 = .ok (.putfield 19, 3) := by decide +kernel
theorem dX0_init_28 : decode cX0_init 28 = .ok (.aload_n 0, 1) := by decide +kernel
theorem dX0_init_29 : decode cX0_init 29 = .ok (.bipush 64, 2) := by decide +kernel
theorem dX0_init_31 : decode cX0_init 31 = .ok (.newarray .short, 2) := by decide +kernel
theorem dX0_init_33 : decode cX0_init 33 = .ok (.putfield 23, 3) := by decide +kernel
theorem dX0_init_36 : decode cX0_init 36 = .ok (.aload_n 0, 1) := by decide +kernel
theorem dX0_init_37 : decode cX0_init 37 = .ok (.bipush 64, 2) := by decide +kernel
theorem dX0_init_39 : decode cX0_init 39 = .ok (.newarray .int, 2) := by decide +kernel
theorem dX0_init_41 : decode cX0_init 41 = .ok (.putfield 27, 3) := by decide +kernel
theorem dX0_init_44 : decode cX0_init 44 = .ok (.aload_n 0, 1) := by decide +kernel
theorem dX0_init_45 : decode cX0_init 45 = .ok (.bipush 64, 2) := by decide +kernel
theorem dX0_init_47 : decode cX0_init 47 = .ok (.newarray .long, 2) := by decide +kernel
theorem dX0_init_49 : decode cX0_init 49 = .ok (.putfield 30, 3) := by decide +kernel
theorem dX0_init_52 : decode cX0_init 52 = .ok (.aload_n 0, 1) := by decide +kernel
theorem dX0_init_53 : decode cX0_init 53 = .ok (.bipush 64, 2) := by decide +kernel
theorem dX0_init_55 : decode cX0_init 55 = .ok (.newarray .float, 2) := by decide +kernel
theorem dX0_init_57 : decode cX0_init 57 = .ok (.putfield 34, 3) := by decide +kernel
theorem dX0_init_60 : decode cX0_init 60 = .ok (.aload_n 0, 1) := by decide +kernel
theorem dX0_init_61 : decode cX0_init 61 = .ok (.bipush 64, 2) := by decide +kernel
theorem dX0_init_63 : decode cX0_init 63 = .ok (.newarray .double, 2) := by decide +kernel
theorem dX0_init_65 : decode cX0_init 65 = .ok (.putfield 38, 3) := by decide +kernel
theorem dX0_init_68 : decode cX0_init 68 = .ok (.aload_n 0, 1) := by decide +kernel
theorem dX0_init_69 : decode cX0_init 69 = .ok (.bipush 64, 2) := by decide +kernel
theorem dX0_init_71 : decode cX0_init 71 = .ok (.newarray .boolean, 2) := by decide +kernel
theorem dX0_init_73 : decode cX0_init 73 = .ok (.putfield 42, 3) := by decide +kernel
theorem dX0_init_76 : decode cX0_init 76 = .ok (.iconst 0, 1) := by decide +kernel
theorem dX0_init_77 : decode cX0_init 77 = .ok (.istore_n 1, 1) := by decide +kernel
theorem dX0_init_78 : decode cX0_init 78 = .ok (.iload_n 1, 1) := by decide +kernel
theorem dX0_init_79 : decode cX0_init 79 = .ok (.bipush 8, 2) := by decide +kernel
theorem dX0_init_81 : decode cX0_init 81 = .ok (.if_icmp .ge 16, 3) := by decide +kernel
theorem dX0_init_84 : decode cX0_init 84 = .ok (.aload_n 0, 1) := by decide +kernel
theorem dX0_init_85 : decode cX0_init 85 = .ok (.getfield 9, 3) := by decide +kernel
theorem dX0_init_88 : decode cX0_init 88 = .ok (.iload_n 1, 1) := by decide +kernel
theorem dX0_init_89 : decode cX0_init 89 = .ok (.iconst (-1), 1) := by decide +kernel
theorem dX0_init_90 : decode cX0_init 90 = .ok (.iastore, 1) := by decide +kernel
theorem dX0_init_91 : decode cX0_init 91 = .ok (.iinc 1 1, 3) := by decide +kernel
theorem dX0_init_94 : decode cX0_init 94 = .ok (.goto (-16), 3) := by decide +kernel
theorem dX0_init_97 : decode cX0_init 97 = .ok (.return_, 1) := by decide +kernel
theorem dX0_isOpen_0 : decode cX0_isOpen 0 = .ok (.aload_n 0, 1) := by decide +kernel
theorem dX0_isOpen_1 : decode cX0_isOpen 1 = .ok (.getfield 9, 3) := by decide +kernel
theorem dX0_isOpen_4 : decode cX0_isOpen 4 = .ok (.iload_n 1, 1) := by decide +kernel
theorem dX0_isOpen_5 : decode cX0_isOpen 5 = .ok (.iaload, 1) := by decide +kernel
theorem dX0_isOpen_6 : decode cX0_isOpen 6 = .ok (.ifCond .lt 7, 3) := by decide +kernel
theorem dX0_isOpen_9 : decode cX0_isOpen 9 = .ok (.iconst 1, 1) := by decide +kernel
theorem dX0_isOpen_10 : decode cX0_isOpen 10 = .ok (.goto 4, 3) := by decide +kernel
theorem dX0_isOpen_13 : decode cX0_isOpen 13 = .ok (.iconst 0, 1) := by decide +kernel
theorem dX0_isOpen_14 : decode cX0_isOpen 14 = .ok (.ireturn, 1) := by decide +kernel
theorem dX0_has_0 : decode cX0_has 0 = .ok (.iload_n 2, 1) := by decide +kernel
theorem dX0_has_1 : decode cX0_has 1 = .ok (.ifCond .lt 17, 3) := by decide +kernel
theorem dX0_has_4 : decode cX0_has 4 = .ok (.iload_n 2, 1) := by decide +kernel
theorem dX0_has_5 : decode cX0_has 5 = .ok (.aload_n 0, 1) := by decide +kernel
theorem dX0_has_6 : decode cX0_has 6 = .ok (.getfield 9, 3) := by decide +kernel
theorem dX0_has_9 : decode cX0_has 9 = .ok (.iload_n 1, 1) := by decide +kernel
theorem dX0_has_10 : decode cX0_has 10 = .ok (.iaload, 1) := by decide +kernel
theorem dX0_has_11 : decode cX0_has 11 = .ok (.if_icmp .ge 7, 3) := by decide +kernel
theorem dX0_has_14 : decode cX0_has 14 = .ok (.iconst 1, 1) := by decide +kernel
theorem dX0_has_15 : decode cX0_has 15 = .ok (.goto 4, 3) := by decide +kernel
theorem dX0_has_18 : decode cX0_has 18 = .ok (.iconst 0, 1) := by decide +kernel
theorem dX0_has_19 : decode cX0_has 19 = .ok (.ireturn, 1) := by decide +kernel
theorem dX0_open_0 : decode cX0_open 0 = .ok (.aload_n 0, 1) := by decide +kernel
theorem dX0_open_1 : decode cX0_open 1 = .ok (.getfield 9, 3) := by decide +kernel
theorem dX0_open_4 : decode cX0_open 4 = .ok (.iload_n 1, 1) := by decide +kernel
theorem dX0_open_5 : decode cX0_open 5 = .ok (.iload_n 2, 1) := by decide +kernel
theorem dX0_open_6 : decode cX0_open 6 = .ok (.iastore, 1) := by decide +kernel
theorem dX0_open_7 : decode cX0_open 7 = .ok (.iconst 0, 1) := by decide +kernel
theorem dX0_open_8 : decode cX0_open 8 = .ok (.istore_n 3, 1) := by decide +kernel
theorem dX0_open_9 : decode cX0_open 9 = .ok (.iload_n 3, 1) := by decide +kernel
theorem dX0_open_10 : decode cX0_open 10 = .ok (.iload_n 2, 1) := by decide +kernel
theorem dX0_open_11 : decode cX0_open 11 = .ok (.if_icmp .ge 16, 3) := by decide +kernel
theorem dX0_open_14 : decode cX0_open 14 = .ok (.aload_n 0, 1) := by decide +kernel
theorem dX0_open_15 : decode cX0_open 15 = .ok (.iload_n 1, 1) := by decide +kernel
theorem dX0_open_16 : decode cX0_open 16 = .ok (.iload_n 3, 1) := by decide +kernel
theorem dX0_open_17 : decode cX0_open 17 = .ok (.lconst 0, 1) := by decide +kernel
theorem dX0_open_18 : decode cX0_open 18 = .ok (.invokevirtual 46, 3) := by decide +kernel
theorem dX0_open_21 : decode cX0_open 21 = .ok (.iinc 3 1, 3) := by decide +kernel
theorem dX0_open_24 : decode cX0_open 24 = .ok (.goto (-15), 3) := by decide +kernel
theorem dX0_open_27 : decode cX0_open 27 = .ok (.return_, 1) := by decide +kernel
theorem dX0_close_0 : decode cX0_close 0 = .ok (.aload_n 0, 1) := by decide +kernel
theorem dX0_close_1 : decode cX0_close 1 = .ok (.iload_n 1, 1) := by decide +kernel
theorem dX0_close_2 : decode cX0_close 2 = .ok (.invokevirtual 50, 3) := by decide +kernel
theorem dX0_close_5 : decode cX0_close 5 = .ok (.istore_n 2, 1) := by decide +kernel
theorem dX0_close_6 : decode cX0_close 6 = .ok (.aload_n 0, 1) := by decide +kernel
theorem dX0_close_7 : decode cX0_close 7 = .ok (.getfield 9, 3) := by decide +kernel
theorem dX0_close_10 : decode cX0_close 10 = .ok (.iload_n 1, 1) := by decide +kernel
theorem dX0_close_11 : decode cX0_close 11 = .ok (.iconst (-1), 1) := by decide +kernel
theorem dX0_close_12 : decode cX0_close 12 = .ok (.iastore, 1) := by decide +kernel
theorem dX0_close_13 : decode cX0_close 13 = .ok (.iload_n 2, 1) := by decide +kernel
theorem dX0_close_14 : decode cX0_close 14 = .ok (.ireturn, 1) := by decide +kernel
theorem dX0_opened_0 : decode cX0_opened 0 = .ok (.iconst 0, 1) := by decide +kernel
theorem dX0_opened_1 : decode cX0_opened 1 = .ok (.istore_n 1, 1) := by decide +kernel
theorem dX0_opened_2 : decode cX0_opened 2 = .ok (.iconst 0, 1) := by decide +kernel
theorem dX0_opened_3 : decode cX0_opened 3 = .ok (.istore_n 2, 1) := by decide +kernel
theorem dX0_opened_4 : decode cX0_opened 4 = .ok (.iload_n 2, 1) := by decide +kernel
theorem dX0_opened_5 : decode cX0_opened 5 = .ok (.bipush 8, 2) := by decide +kernel
theorem dX0_opened_7 : decode cX0_opened 7 = .ok (.if_icmp .ge 20, 3) := by decide +kernel
theorem dX0_opened_10 : decode cX0_opened 10 = .ok (.aload_n 0, 1) := by decide +kernel
theorem dX0_opened_11 : decode cX0_opened 11 = .ok (.iload_n 2, 1) := by decide +kernel
theorem dX0_opened_12 : decode cX0_opened 12 = .ok (.invokevirtual 50, 3) := by decide +kernel
theorem dX0_opened_15 : decode cX0_opened 15 = .ok (.ifCond .eq 6, 3) := by decide +kernel
theorem dX0_opened_18 : decode cX0_opened 18 = .ok (.iinc 1 1, 3) := by decide +kernel
theorem dX0_opened_21 : decode cX0_opened 21 = .ok (.iinc 2 1, 3) := by decide +kernel
theorem dX0_opened_24 : decode cX0_opened 24 = .ok (.goto (-20), 3) := by decide +kernel
theorem dX0_opened_27 : decode cX0_opened 27 = .ok (.iload_n 1, 1) := by decide +kernel
theorem dX0_opened_28 : decode cX0_opened 28 = .ok (.ireturn, 1) := by decide +kernel
theorem dX0_put_0 : decode cX0_put 0 = .ok (.iload_n 1, 1) := by decide +kernel
theorem dX0_put_1 : decode cX0_put 1 = .ok (.tableswitch 129 0 6 #[43, 55, 67, 79, 90, 100, 114], 43) := by decide +kernel
theorem dX0_put_44 : decode cX0_put 44 = .ok (.aload_n 0, 1) := by decide +kernel
theorem dX0_put_45 : decode cX0_put 45 = .ok (.getfield 15, 3) := by decide +kernel
theorem dX0_put_48 : decode cX0_put 48 = .ok (.iload_n 2, 1) := by decide +kernel
theorem dX0_put_49 : decode cX0_put 49 = .ok (.lload_n 3, 1) := by decide +kernel
theorem dX0_put_50 : decode cX0_put 50 = .ok (.l2i, 1) := by decide +kernel
theorem dX0_put_51 : decode cX0_put 51 = .ok (.i2b, 1) := by decide +kernel
theorem dX0_put_52 : decode cX0_put 52 = .ok (.bastore, 1) := by decide +kernel
theorem dX0_put_53 : decode cX0_put 53 = .ok (.goto 96, 3) := by decide +kernel
theorem dX0_put_56 : decode cX0_put 56 = .ok (.aload_n 0, 1) := by decide +kernel
theorem dX0_put_57 : decode cX0_put 57 = .ok (.getfield 19, 3) := by decide +kernel
theorem dX0_put_60 : decode cX0_put 60 = .ok (.iload_n 2, 1) := by decide +kernel
theorem dX0_put_61 : decode cX0_put 61 = .ok (.lload_n 3, 1) := by decide +kernel
theorem dX0_put_62 : decode cX0_put 62 = .ok (.l2i, 1) := by decide +kernel
theorem dX0_put_63 : decode cX0_put 63 = .ok (.i2c, 1) := by decide +kernel
theorem dX0_put_64 : decode cX0_put 64 = .ok (.castore, 1) := by decide +kernel
theorem dX0_put_65 : decode cX0_put 65 = .ok (.goto 84, 3) := by decide +kernel
theorem dX0_put_68 : decode cX0_put 68 = .ok (.aload_n 0, 1) := by decide +kernel
theorem dX0_put_69 : decode cX0_put 69 = .ok (.getfield 23, 3) := by decide +kernel
theorem dX0_put_72 : decode cX0_put 72 = .ok (.iload_n 2, 1) := by decide +kernel
theorem dX0_put_73 : decode cX0_put 73 = .ok (.lload_n 3, 1) := by decide +kernel
theorem dX0_put_74 : decode cX0_put 74 = .ok (.l2i, 1) := by decide +kernel
theorem dX0_put_75 : decode cX0_put 75 = .ok (.i2s, 1) := by decide +kernel
theorem dX0_put_76 : decode cX0_put 76 = .ok (.sastore, 1) := by decide +kernel
theorem dX0_put_77 : decode cX0_put 77 = .ok (.goto 72, 3) := by decide +kernel
theorem dX0_put_80 : decode cX0_put 80 = .ok (.aload_n 0, 1) := by decide +kernel
theorem dX0_put_81 : decode cX0_put 81 = .ok (.getfield 27, 3) := by decide +kernel
theorem dX0_put_84 : decode cX0_put 84 = .ok (.iload_n 2, 1) := by decide +kernel
theorem dX0_put_85 : decode cX0_put 85 = .ok (.lload_n 3, 1) := by decide +kernel
theorem dX0_put_86 : decode cX0_put 86 = .ok (.l2i, 1) := by decide +kernel
theorem dX0_put_87 : decode cX0_put 87 = .ok (.iastore, 1) := by decide +kernel
theorem dX0_put_88 : decode cX0_put 88 = .ok (.goto 61, 3) := by decide +kernel
theorem dX0_put_91 : decode cX0_put 91 = .ok (.aload_n 0, 1) := by decide +kernel
theorem dX0_put_92 : decode cX0_put 92 = .ok (.getfield 30, 3) := by decide +kernel
theorem dX0_put_95 : decode cX0_put 95 = .ok (.iload_n 2, 1) := by decide +kernel
theorem dX0_put_96 : decode cX0_put 96 = .ok (.lload_n 3, 1) := by decide +kernel
theorem dX0_put_97 : decode cX0_put 97 = .ok (.lastore, 1) := by decide +kernel
theorem dX0_put_98 : decode cX0_put 98 = .ok (.goto 51, 3) := by decide +kernel
theorem dX0_put_101 : decode cX0_put 101 = .ok (.aload_n 0, 1) := by decide +kernel
theorem dX0_put_102 : decode cX0_put 102 = .ok (.getfield 34, 3) := by decide +kernel
theorem dX0_put_105 : decode cX0_put 105 = .ok (.iload_n 2, 1) := by decide +kernel
theorem dX0_put_106 : decode cX0_put 106 = .ok (.lload_n 3, 1) := by decide +kernel
theorem dX0_put_107 : decode cX0_put 107 = .ok (.l2f, 1) := by decide +kernel
theorem dX0_put_108 : decode cX0_put 108 = .ok (.ldc 54, 2) := by decide +kernel
theorem dX0_put_110 : decode cX0_put 110 = .ok (.fmul, 1) := by decide +kernel
theorem dX0_put_111 : decode cX0_put 111 = .ok (.fastore, 1) := by decide +kernel
theorem dX0_put_112 : decode cX0_put 112 = .ok (.goto 37, 3) := by decide +kernel
theorem dX0_put_115 : decode cX0_put 115 = .ok (.aload_n 0, 1) := by decide +kernel
theorem dX0_put_116 : decode cX0_put 116 = .ok (.getfield 38, 3) := by decide +kernel
theorem dX0_put_119 : decode cX0_put 119 = .ok (.iload_n 2, 1) := by decide +kernel
theorem dX0_put_120 : decode cX0_put 120 = .ok (.lload_n 3, 1) := by decide +kernel
theorem dX0_put_121 : decode cX0_put 121 = .ok (.l2d, 1) := by decide +kernel
theorem dX0_put_122 : decode cX0_put 122 = .ok (.ldc2_w 55, 3) := by decide +kernel
theorem dX0_put_125 : decode cX0_put 125 = .ok (.dmul, 1) := by decide +kernel
theorem dX0_put_126 : decode cX0_put 126 = .ok (.dastore, 1) := by decide +kernel
theorem dX0_put_127 : decode cX0_put 127 = .ok (.goto 22, 3) := by decide +kernel
theorem dX0_put_130 : decode cX0_put 130 = .ok (.aload_n 0, 1) := by decide +kernel
theorem dX0_put_131 : decode cX0_put 131 = .ok (.getfield 42, 3) := by decide +kernel
theorem dX0_put_134 : decode cX0_put 134 = .ok (.iload_n 2, 1) := by decide +kernel
theorem dX0_put_135 : decode cX0_put 135 = .ok (.lload_n 3, 1) := by decide +kernel
theorem dX0_put_136 : decode cX0_put 136 = .ok (.lconst 1, 1) := by decide +kernel
theorem dX0_put_137 : decode cX0_put 137 = .ok (.land, 1) := by decide +kernel
theorem dX0_put_138 : decode cX0_put 138 = .ok (.lconst 0, 1) := by decide +kernel
theorem dX0_put_139 : decode cX0_put 139 = .ok (.lcmp, 1) := by decide +kernel
theorem dX0_put_140 : decode cX0_put 140 = .ok (.ifCond .eq 7, 3) := by decide +kernel
theorem dX0_put_143 : decode cX0_put 143 = .ok (.iconst 1, 1) := by decide +kernel
theorem dX0_put_144 : decode cX0_put 144 = .ok (.goto 4, 3) := by decide +kernel
theorem dX0_put_147 : decode cX0_put 147 = .ok (.iconst 0, 1) := by decide +kernel
theorem dX0_put_148 : decode cX0_put 148 = .ok (.bastore, 1) := by decide +kernel
theorem dX0_put_149 : decode cX0_put 149 = .ok (.return_, 1) := by decide +kernel
theorem dX0_get_0 : decode cX0_get 0 = .ok (.iload_n 1, 1) := by decide +kernel
theorem dX0_get_1 : decode cX0_get 1 = .ok (.tableswitch 105 0 6 #[43, 51, 59, 67, 75, 82, 93], 43) := by decide +kernel
theorem dX0_get_44 : decode cX0_get 44 = .ok (.aload_n 0, 1) := by decide +kernel
theorem dX0_get_45 : decode cX0_get 45 = .ok (.getfield 15, 3) := by decide +kernel
theorem dX0_get_48 : decode cX0_get 48 = .ok (.iload_n 2, 1) := by decide +kernel
theorem dX0_get_49 : decode cX0_get 49 = .ok (.baload, 1) := by decide +kernel
theorem dX0_get_50 : decode cX0_get 50 = .ok (.i2l, 1) := by decide +kernel
theorem dX0_get_51 : decode cX0_get 51 = .ok (.lreturn, 1) := by decide +kernel
theorem dX0_get_52 : decode cX0_get 52 = .ok (.aload_n 0, 1) := by decide +kernel
theorem dX0_get_53 : decode cX0_get 53 = .ok (.getfield 19, 3) := by decide +kernel
theorem dX0_get_56 : decode cX0_get 56 = .ok (.iload_n 2, 1) := by decide +kernel
theorem dX0_get_57 : decode cX0_get 57 = .ok (.caload, 1) := by decide +kernel
theorem dX0_get_58 : decode cX0_get 58 = .ok (.i2l, 1) := by decide +kernel
theorem dX0_get_59 : decode cX0_get 59 = .ok (.lreturn, 1) := by decide +kernel
theorem dX0_get_60 : decode cX0_get 60 = .ok (.aload_n 0, 1) := by decide +kernel
theorem dX0_get_61 : decode cX0_get 61 = .ok (.getfield 23, 3) := by decide +kernel
theorem dX0_get_64 : decode cX0_get 64 = .ok (.iload_n 2, 1) := by decide +kernel
theorem dX0_get_65 : decode cX0_get 65 = .ok (.saload, 1) := by decide +kernel
theorem dX0_get_66 : decode cX0_get 66 = .ok (.i2l, 1) := by decide +kernel
theorem dX0_get_67 : decode cX0_get 67 = .ok (.lreturn, 1) := by decide +kernel
theorem dX0_get_68 : decode cX0_get 68 = .ok (.aload_n 0, 1) := by decide +kernel
theorem dX0_get_69 : decode cX0_get 69 = .ok (.getfield 27, 3) := by decide +kernel
theorem dX0_get_72 : decode cX0_get 72 = .ok (.iload_n 2, 1) := by decide +kernel
theorem dX0_get_73 : decode cX0_get 73 = .ok (.iaload, 1) := by decide +kernel
theorem dX0_get_74 : decode cX0_get 74 = .ok (.i2l, 1) := by decide +kernel
theorem dX0_get_75 : decode cX0_get 75 = .ok (.lreturn, 1) := by decide +kernel
theorem dX0_get_76 : decode cX0_get 76 = .ok (.aload_n 0, 1) := by decide +kernel
theorem dX0_get_77 : decode cX0_get 77 = .ok (.getfield 30, 3) := by decide +kernel
theorem dX0_get_80 : decode cX0_get 80 = .ok (.iload_n 2, 1) := by decide +kernel
theorem dX0_get_81 : decode cX0_get 81 = .ok (.laload, 1) := by decide +kernel
theorem dX0_get_82 : decode cX0_get 82 = .ok (.lreturn, 1) := by decide +kernel
theorem dX0_get_83 : decode cX0_get 83 = .ok (.aload_n 0, 1) := by decide +kernel
theorem dX0_get_84 : decode cX0_get 84 = .ok (.getfield 34, 3) := by decide +kernel
theorem dX0_get_87 : decode cX0_get 87 = .ok (.iload_n 2, 1) := by decide +kernel
theorem dX0_get_88 : decode cX0_get 88 = .ok (.faload, 1) := by decide +kernel
theorem dX0_get_89 : decode cX0_get 89 = .ok (.ldc 57, 2) := by decide +kernel
theorem dX0_get_91 : decode cX0_get 91 = .ok (.fmul, 1) := by decide +kernel
theorem dX0_get_92 : decode cX0_get 92 = .ok (.f2l, 1) := by decide +kernel
theorem dX0_get_93 : decode cX0_get 93 = .ok (.lreturn, 1) := by decide +kernel
theorem dX0_get_94 : decode cX0_get 94 = .ok (.aload_n 0, 1) := by decide +kernel
theorem dX0_get_95 : decode cX0_get 95 = .ok (.getfield 38, 3) := by decide +kernel
theorem dX0_get_98 : decode cX0_get 98 = .ok (.iload_n 2, 1) := by decide +kernel
theorem dX0_get_99 : decode cX0_get 99 = .ok (.daload, 1) := by decide +kernel
theorem dX0_get_100 : decode cX0_get 100 = .ok (.ldc2_w 58, 3) := by decide +kernel
theorem dX0_get_103 : decode cX0_get 103 = .ok (.dmul, 1) := by decide +kernel
theorem dX0_get_104 : decode cX0_get 104 = .ok (.d2l, 1) := by decide +kernel
theorem dX0_get_105 : decode cX0_get 105 = .ok (.lreturn, 1) := by decide +kernel
theorem dX0_get_106 : decode cX0_get 106 = .ok (.aload_n 0, 1) := by decide +kernel
theorem dX0_get_107 : decode cX0_get 107 = .ok (.getfield 42, 3) := by decide +kernel
theorem dX0_get_110 : decode cX0_get 110 = .ok (.iload_n 2, 1) := by decide +kernel
theorem dX0_get_111 : decode cX0_get 111 = .ok (.baload, 1) := by decide +kernel
theorem dX0_get_112 : decode cX0_get 112 = .ok (.ifCond .eq 7, 3) := by decide +kernel
theorem dX0_get_115 : decode cX0_get 115 = .ok (.lconst 1, 1) := by decide +kernel
theorem dX0_get_116 : decode cX0_get 116 = .ok (.goto 4, 3) := by decide +kernel
theorem dX0_get_119 : decode cX0_get 119 = .ok (.lconst 0, 1) := by decide +kernel
theorem dX0_get_120 : decode cX0_get 120 = .ok (.lreturn, 1) := by decide +kernel
theorem dX1_init_0 : decode cX1_init 0 = .ok (.aload_n 0, 1) := by decide +kernel
theorem dX1_init_1 : decode cX1_init 1 = .ok (.invokespecial 3, 3) := by decide +kernel
theorem dX1_init_4 : decode cX1_init 4 = .ok (.aload_n 0, 1) := by decide +kernel
theorem dX1_init_5 : decode cX1_init 5 = .ok (.aconst_null, 1) := by decide +kernel
theorem dX1_init_6 : decode cX1_init 6 = .ok (.putfield 9, 3) := by decide +kernel
theorem dX1_init_9 : decode cX1_init 9 = .ok (.aload_n 0, 1) := by decide +kernel
theorem dX1_init_10 : decode cX1_init 10 = .ok (.aconst_null, 1) := by decide +kernel
theorem dX1_init_11 : decode cX1_init 11 = .ok (.putfield 15, 3) := by decide +kernel
theorem dX1_init_14 : decode cX1_init 14 = .ok (.aload_n 0, 1) := by decide +kernel
theorem dX1_init_15 : decode cX1_init 15 = .ok (.iload_n 1, 1) := by decide +kernel
theorem dX1_init_16 : decode cX1_init 16 = .ok (.putfield 19, 3) := by decide +kernel
theorem dX1_init_19 : decode cX1_init 19 = .ok (.aload_n 0, 1) := by decide +kernel
theorem dX1_init_20 : decode cX1_init 20 = .ok (.iload_n 2, 1) := by decide +kernel
theorem dX1_init_21 : decode cX1_init 21 = .ok (.putfield 23, 3) := by decide +kernel
theorem dX1_init_24 : decode cX1_init 24 = .ok (.return_, 1) := by decide +kernel
theorem dX1_at_0 : decode cX1_at 0 = .ok (.aload_n 0, 1) := by decide +kernel
theorem dX1_at_1 : decode cX1_at 1 = .ok (.getfield 9, 3) := by decide +kernel
theorem dX1_at_4 : decode cX1_at 4 = .ok (.ifnonnull 11, 3) := by decide +kernel
theorem dX1_at_7 : decode cX1_at 7 = .ok (.aload_n 0, 1) := by decide +kernel
theorem dX1_at_8 : decode cX1_at 8 = .ok (.iload_n 1, 1) := by decide +kernel
theorem dX1_at_9 : decode cX1_at 9 = .ok (.invokevirtual 26, 3) := by decide +kernel
theorem dX1_at_12 : decode cX1_at 12 = .ok (.goto 9, 3) := by decide +kernel
theorem dX1_at_15 : decode cX1_at 15 = .ok (.aload_n 0, 1) := by decide +kernel
theorem dX1_at_16 : decode cX1_at 16 = .ok (.getfield 9, 3) := by decide +kernel
theorem dX1_at_19 : decode cX1_at 19 = .ok (.iload_n 1, 1) := by decide +kernel
theorem dX1_at_20 : decode cX1_at 20 = .ok (.iaload, 1) := by decide +kernel
theorem dX1_at_21 : decode cX1_at 21 = .ok (.ireturn, 1) := by decide +kernel
theorem dX1_filled_0 : decode cX1_filled 0 = .ok (.aload_n 0, 1) := by decide +kernel
theorem dX1_filled_1 : decode cX1_filled 1 = .ok (.getfield 9, 3) := by decide +kernel
theorem dX1_filled_4 : decode cX1_filled 4 = .ok (.ifnonnull 41, 3) := by decide +kernel
theorem dX1_filled_7 : decode cX1_filled 7 = .ok (.aload_n 0, 1) := by decide +kernel
theorem dX1_filled_8 : decode cX1_filled 8 = .ok (.invokevirtual 30, 3) := by decide +kernel
theorem dX1_filled_11 : decode cX1_filled 11 = .ok (.sipush 4096, 3) := by decide +kernel
theorem dX1_filled_14 : decode cX1_filled 14 = .ok (.newarray .int, 2) := by decide +kernel
theorem dX1_filled_16 : decode cX1_filled 16 = .ok (.astore_n 1, 1) := by decide +kernel
theorem dX1_filled_17 : decode cX1_filled 17 = .ok (.iconst 0, 1) := by decide +kernel
theorem dX1_filled_18 : decode cX1_filled 18 = .ok (.istore_n 2, 1) := by decide +kernel
theorem dX1_filled_19 : decode cX1_filled 19 = .ok (.iload_n 2, 1) := by decide +kernel
theorem dX1_filled_20 : decode cX1_filled 20 = .ok (.sipush 4096, 3) := by decide +kernel
theorem dX1_filled_23 : decode cX1_filled 23 = .ok (.if_icmp .ge 17, 3) := by decide +kernel
theorem dX1_filled_26 : decode cX1_filled 26 = .ok (.aload_n 1, 1) := by decide +kernel
theorem dX1_filled_27 : decode cX1_filled 27 = .ok (.iload_n 2, 1) := by decide +kernel
theorem dX1_filled_28 : decode cX1_filled 28 = .ok (.aload_n 0, 1) := by decide +kernel
theorem dX1_filled_29 : decode cX1_filled 29 = .ok (.iload_n 2, 1) := by decide +kernel
theorem dX1_filled_30 : decode cX1_filled 30 = .ok (.invokevirtual 26, 3) := by decide +kernel
theorem dX1_filled_33 : decode cX1_filled 33 = .ok (.iastore, 1) := by decide +kernel
theorem dX1_filled_34 : decode cX1_filled 34 = .ok (.iinc 2 1, 3) := by decide +kernel
theorem dX1_filled_37 : decode cX1_filled 37 = .ok (.goto (-18), 3) := by decide +kernel
theorem dX1_filled_40 : decode cX1_filled 40 = .ok (.aload_n 0, 1) := by decide +kernel
theorem dX1_filled_41 : decode cX1_filled 41 = .ok (.aload_n 1, 1) := by decide +kernel
theorem dX1_filled_42 : decode cX1_filled 42 = .ok (.putfield 9, 3) := by decide +kernel
theorem dX1_filled_45 : decode cX1_filled 45 = .ok (.aload_n 0, 1) := by decide +kernel
theorem dX1_filled_46 : decode cX1_filled 46 = .ok (.getfield 9, 3) := by decide +kernel
theorem dX1_filled_49 : decode cX1_filled 49 = .ok (.areturn, 1) := by decide +kernel
theorem dX1_formed_0 : decode cX1_formed 0 = .ok (.aload_n 0, 1) := by decide +kernel
theorem dX1_formed_1 : decode cX1_formed 1 = .ok (.getfield 15, 3) := by decide +kernel
theorem dX1_formed_4 : decode cX1_formed 4 = .ok (.ifnonnull 18, 3) := by decide +kernel
theorem dX1_formed_7 : decode cX1_formed 7 = .ok (.aload_n 0, 1) := by decide +kernel
theorem dX1_formed_8 : decode cX1_formed 8 = .ok (.new 33, 3) := by decide +kernel
theorem dX1_formed_11 : decode cX1_formed 11 = .ok (.dup, 1) := by decide +kernel
theorem dX1_formed_12 : decode cX1_formed 12 = .ok (.aload_n 0, 1) := by decide +kernel
theorem dX1_formed_13 : decode cX1_formed 13 = .ok (.invokevirtual 35, 3) := by decide +kernel
theorem dX1_formed_16 : decode cX1_formed 16 = .ok (.invokespecial 39, 3) := by decide +kernel
theorem dX1_formed_19 : decode cX1_formed 19 = .ok (.putfield 15, 3) := by decide +kernel
theorem dX1_formed_22 : decode cX1_formed 22 = .ok (.aload_n 0, 1) := by decide +kernel
theorem dX1_formed_23 : decode cX1_formed 23 = .ok (.getfield 15, 3) := by decide +kernel
theorem dX1_formed_26 : decode cX1_formed 26 = .ok (.areturn, 1) := by decide +kernel
theorem dX2_init_0 : decode cX2_init 0 = .ok (.aload_n 0, 1) := by decide +kernel
theorem dX2_init_1 : decode cX2_init 1 = .ok (.invokespecial 3, 3) := by decide +kernel
theorem dX2_init_4 : decode cX2_init 4 = .ok (.aload_n 0, 1) := by decide +kernel
theorem dX2_init_5 : decode cX2_init 5 = .ok (.aconst_null, 1) := by decide +kernel
theorem dX2_init_6 : decode cX2_init 6 = .ok (.putfield 9, 3) := by decide +kernel
theorem dX2_init_9 : decode cX2_init 9 = .ok (.aload_n 1, 1) := by decide +kernel
theorem dX2_init_10 : decode cX2_init 10 = .ok (.iconst 0, 1) := by decide +kernel
theorem dX2_init_11 : decode cX2_init 11 = .ok (.iaload, 1) := by decide +kernel
theorem dX2_init_12 : decode cX2_init 12 = .ok (.istore_n 2, 1) := by decide +kernel
theorem dX2_init_13 : decode cX2_init 13 = .ok (.aload_n 1, 1) := by decide +kernel
theorem dX2_init_14 : decode cX2_init 14 = .ok (.iconst 0, 1) := by decide +kernel
theorem dX2_init_15 : decode cX2_init 15 = .ok (.iaload, 1) := by decide +kernel
theorem dX2_init_16 : decode cX2_init 16 = .ok (.istore_n 3, 1) := by decide +kernel
theorem dX2_init_17 : decode cX2_init 17 = .ok (.iconst 0, 1) := by decide +kernel
theorem dX2_init_18 : decode cX2_init 18 = .ok (.istore 4, 2) := by decide +kernel
theorem dX2_init_20 : decode cX2_init 20 = .ok (.iconst 0, 1) := by decide +kernel
theorem dX2_init_21 : decode cX2_init 21 = .ok (.istore 5, 2) := by decide +kernel
theorem dX2_init_23 : decode cX2_init 23 = .ok (.iconst 1, 1) := by decide +kernel
theorem dX2_init_24 : decode cX2_init 24 = .ok (.istore 6, 2) := by decide +kernel
theorem dX2_init_26 : decode cX2_init 26 = .ok (.iload 6, 2) := by decide +kernel
theorem dX2_init_28 : decode cX2_init 28 = .ok (.sipush 4096, 3) := by decide +kernel
theorem dX2_init_31 : decode cX2_init 31 = .ok (.if_icmp .ge 77, 3) := by decide +kernel
theorem dX2_init_34 : decode cX2_init 34 = .ok (.iload 4, 2) := by decide +kernel
theorem dX2_init_36 : decode cX2_init 36 = .ok (.ifCond .ne 16, 3) := by decide +kernel
theorem dX2_init_39 : decode cX2_init 39 = .ok (.aload_n 1, 1) := by decide +kernel
theorem dX2_init_40 : decode cX2_init 40 = .ok (.iload 6, 2) := by decide +kernel
theorem dX2_init_42 : decode cX2_init 42 = .ok (.iaload, 1) := by decide +kernel
theorem dX2_init_43 : decode cX2_init 43 = .ok (.aload_n 1, 1) := by decide +kernel
theorem dX2_init_44 : decode cX2_init 44 = .ok (.iload 6, 2) := by decide +kernel
theorem dX2_init_46 : decode cX2_init 46 = .ok (.iconst 1, 1) := by decide +kernel
theorem dX2_init_47 : decode cX2_init 47 = .ok (.isub, 1) := by decide +kernel
theorem dX2_init_48 : decode cX2_init 48 = .ok (.iaload, 1) := by decide +kernel
theorem dX2_init_49 : decode cX2_init 49 = .ok (.if_icmp .le 7, 3) := by decide +kernel
theorem dX2_init_52 : decode cX2_init 52 = .ok (.iconst 1, 1) := by decide +kernel
theorem dX2_init_53 : decode cX2_init 53 = .ok (.goto 4, 3) := by decide +kernel
theorem dX2_init_56 : decode cX2_init 56 = .ok (.iconst 0, 1) := by decide +kernel
theorem dX2_init_57 : decode cX2_init 57 = .ok (.istore 4, 2) := by decide +kernel
theorem dX2_init_59 : decode cX2_init 59 = .ok (.iload 5, 2) := by decide +kernel
theorem dX2_init_61 : decode cX2_init 61 = .ok (.ifCond .ne 16, 3) := by decide +kernel
theorem dX2_init_64 : decode cX2_init 64 = .ok (.aload_n 1, 1) := by decide +kernel
theorem dX2_init_65 : decode cX2_init 65 = .ok (.iload 6, 2) := by decide +kernel
theorem dX2_init_67 : decode cX2_init 67 = .ok (.iaload, 1) := by decide +kernel
theorem dX2_init_68 : decode cX2_init 68 = .ok (.aload_n 1, 1) := by decide +kernel
theorem dX2_init_69 : decode cX2_init 69 = .ok (.iload 6, 2) := by decide +kernel
theorem dX2_init_71 : decode cX2_init 71 = .ok (.iconst 1, 1) := by decide +kernel
theorem dX2_init_72 : decode cX2_init 72 = .ok (.isub, 1) := by decide +kernel
theorem dX2_init_73 : decode cX2_init 73 = .ok (.iaload, 1) := by decide +kernel
theorem dX2_init_74 : decode cX2_init 74 = .ok (.if_icmp .ge 7, 3) := by decide +kernel
theorem dX2_init_77 : decode cX2_init 77 = .ok (.iconst 1, 1) := by decide +kernel
theorem dX2_init_78 : decode cX2_init 78 = .ok (.goto 4, 3) := by decide +kernel
theorem dX2_init_81 : decode cX2_init 81 = .ok (.iconst 0, 1) := by decide +kernel
theorem dX2_init_82 : decode cX2_init 82 = .ok (.istore 5, 2) := by decide +kernel
theorem dX2_init_84 : decode cX2_init 84 = .ok (.iload_n 2, 1) := by decide +kernel
theorem dX2_init_85 : decode cX2_init 85 = .ok (.aload_n 1, 1) := by decide +kernel
theorem dX2_init_86 : decode cX2_init 86 = .ok (.iload 6, 2) := by decide +kernel
theorem dX2_init_88 : decode cX2_init 88 = .ok (.iaload, 1) := by decide +kernel
theorem dX2_init_89 : decode cX2_init 89 = .ok (.invokestatic 15, 3) := by decide +kernel
theorem dX2_init_92 : decode cX2_init 92 = .ok (.istore_n 2, 1) := by decide +kernel
theorem dX2_init_93 : decode cX2_init 93 = .ok (.iload_n 3, 1) := by decide +kernel
theorem dX2_init_94 : decode cX2_init 94 = .ok (.aload_n 1, 1) := by decide +kernel
theorem dX2_init_95 : decode cX2_init 95 = .ok (.iload 6, 2) := by decide +kernel
theorem dX2_init_97 : decode cX2_init 97 = .ok (.iaload, 1) := by decide +kernel
theorem dX2_init_98 : decode cX2_init 98 = .ok (.invokestatic 21, 3) := by decide +kernel
theorem dX2_init_101 : decode cX2_init 101 = .ok (.istore_n 3, 1) := by decide +kernel
theorem dX2_init_102 : decode cX2_init 102 = .ok (.iinc 6 1, 3) := by decide +kernel
theorem dX2_init_105 : decode cX2_init 105 = .ok (.goto (-79), 3) := by decide +kernel
theorem dX2_init_108 : decode cX2_init 108 = .ok (.aload_n 0, 1) := by decide +kernel
theorem dX2_init_109 : decode cX2_init 109 = .ok (.aload_n 1, 1) := by decide +kernel
theorem dX2_init_110 : decode cX2_init 110 = .ok (.putfield 24, 3) := by decide +kernel
theorem dX2_init_113 : decode cX2_init 113 = .ok (.aload_n 0, 1) := by decide +kernel
theorem dX2_init_114 : decode cX2_init 114 = .ok (.iload_n 2, 1) := by decide +kernel
theorem dX2_init_115 : decode cX2_init 115 = .ok (.putfield 27, 3) := by decide +kernel
theorem dX2_init_118 : decode cX2_init 118 = .ok (.aload_n 0, 1) := by decide +kernel
theorem dX2_init_119 : decode cX2_init 119 = .ok (.iload_n 3, 1) := by decide +kernel
theorem dX2_init_120 : decode cX2_init 120 = .ok (.putfield 31, 3) := by decide +kernel
theorem dX2_init_123 : decode cX2_init 123 = .ok (.aload_n 0, 1) := by decide +kernel
theorem dX2_init_124 : decode cX2_init 124 = .ok (.iload 4, 2) := by decide +kernel
theorem dX2_init_126 : decode cX2_init 126 = .ok (.ifCond .eq 16, 3) := by decide +kernel
theorem dX2_init_129 : decode cX2_init 129 = .ok (.iload 5, 2) := by decide +kernel
theorem dX2_init_131 : decode cX2_init 131 = .ok (.ifCond .eq 7, 3) := by decide +kernel
theorem dX2_init_134 : decode cX2_init 134 = .ok (.iconst 0, 1) := by decide +kernel
theorem dX2_init_135 : decode cX2_init 135 = .ok (.goto 17, 3) := by decide +kernel
theorem dX2_init_138 : decode cX2_init 138 = .ok (.iconst 1, 1) := by decide +kernel
theorem dX2_init_139 : decode cX2_init 139 = .ok (.goto 13, 3) := by decide +kernel
theorem dX2_init_142 : decode cX2_init 142 = .ok (.iload 5, 2) := by decide +kernel
theorem dX2_init_144 : decode cX2_init 144 = .ok (.ifCond .eq 7, 3) := by decide +kernel
theorem dX2_init_147 : decode cX2_init 147 = .ok (.iconst (-1), 1) := by decide +kernel
theorem dX2_init_148 : decode cX2_init 148 = .ok (.goto 4, 3) := by decide +kernel
theorem dX2_init_151 : decode cX2_init 151 = .ok (.iconst 2, 1) := by decide +kernel
theorem dX2_init_152 : decode cX2_init 152 = .ok (.putfield 34, 3) := by decide +kernel
theorem dX2_init_155 : decode cX2_init 155 = .ok (.aload_n 0, 1) := by decide +kernel
theorem dX2_init_156 : decode cX2_init 156 = .ok (.iload 4, 2) := by decide +kernel
theorem dX2_init_158 : decode cX2_init 158 = .ok (.ifCond .eq 18, 3) := by decide +kernel
theorem dX2_init_161 : decode cX2_init 161 = .ok (.iload 5, 2) := by decide +kernel
theorem dX2_init_163 : decode cX2_init 163 = .ok (.ifCond .eq 13, 3) := by decide +kernel
theorem dX2_init_166 : decode cX2_init 166 = .ok (.aload_n 1, 1) := by decide +kernel
theorem dX2_init_167 : decode cX2_init 167 = .ok (.iconst 0, 1) := by decide +kernel
theorem dX2_init_168 : decode cX2_init 168 = .ok (.newarray .int, 2) := by decide +kernel
theorem dX2_init_170 : decode cX2_init 170 = .ok (.invokestatic 37, 3) := by decide +kernel
theorem dX2_init_173 : decode cX2_init 173 = .ok (.goto 4, 3) := by decide +kernel
theorem dX2_init_176 : decode cX2_init 176 = .ok (.iconst 0, 1) := by decide +kernel
theorem dX2_init_177 : decode cX2_init 177 = .ok (.putfield 41, 3) := by decide +kernel
theorem dX2_init_180 : decode cX2_init 180 = .ok (.return_, 1) := by decide +kernel
theorem dX2_findTurns_0 : decode cX2_findTurns 0 = .ok (.iconst 0, 1) := by decide +kernel
theorem dX2_findTurns_1 : decode cX2_findTurns 1 = .ok (.istore_n 2, 1) := by decide +kernel
theorem dX2_findTurns_2 : decode cX2_findTurns 2 = .ok (.iconst 0, 1) := by decide +kernel
theorem dX2_findTurns_3 : decode cX2_findTurns 3 = .ok (.istore_n 3, 1) := by decide +kernel
theorem dX2_findTurns_4 : decode cX2_findTurns 4 = .ok (.iconst 1, 1) := by decide +kernel
theorem dX2_findTurns_5 : decode cX2_findTurns 5 = .ok (.istore 4, 2) := by decide +kernel
theorem dX2_findTurns_7 : decode cX2_findTurns 7 = .ok (.iload 4, 2) := by decide +kernel
theorem dX2_findTurns_9 : decode cX2_findTurns 9 = .ok (.sipush 4096, 3) := by decide +kernel
theorem dX2_findTurns_12 : decode cX2_findTurns 12 = .ok (.if_icmp .ge 69, 3) := by decide +kernel
theorem dX2_findTurns_15 : decode cX2_findTurns 15 = .ok (.aload_n 0, 1) := by decide +kernel
theorem dX2_findTurns_16 : decode cX2_findTurns 16 = .ok (.iload 4, 2) := by decide +kernel
theorem dX2_findTurns_18 : decode cX2_findTurns 18 = .ok (.iaload, 1) := by decide +kernel
theorem dX2_findTurns_19 : decode cX2_findTurns 19 = .ok (.aload_n 0, 1) := by decide +kernel
theorem dX2_findTurns_20 : decode cX2_findTurns 20 = .ok (.iload 4, 2) := by decide +kernel
theorem dX2_findTurns_22 : decode cX2_findTurns 22 = .ok (.iconst 1, 1) := by decide +kernel
theorem dX2_findTurns_23 : decode cX2_findTurns 23 = .ok (.isub, 1) := by decide +kernel
theorem dX2_findTurns_24 : decode cX2_findTurns 24 = .ok (.iaload, 1) := by decide +kernel
theorem dX2_findTurns_25 : decode cX2_findTurns 25 = .ok (.if_icmp .ne 6, 3) := by decide +kernel
theorem dX2_findTurns_28 : decode cX2_findTurns 28 = .ok (.goto 47, 3) := by decide +kernel
theorem dX2_findTurns_31 : decode cX2_findTurns 31 = .ok (.aload_n 0, 1) := by decide +kernel
theorem dX2_findTurns_32 : decode cX2_findTurns 32 = .ok (.iload 4, 2) := by decide +kernel
theorem dX2_findTurns_34 : decode cX2_findTurns 34 = .ok (.iaload, 1) := by decide +kernel
theorem dX2_findTurns_35 : decode cX2_findTurns 35 = .ok (.aload_n 0, 1) := by decide +kernel
theorem dX2_findTurns_36 : decode cX2_findTurns 36 = .ok (.iload 4, 2) := by decide +kernel
theorem dX2_findTurns_38 : decode cX2_findTurns 38 = .ok (.iconst 1, 1) := by decide +kernel
theorem dX2_findTurns_39 : decode cX2_findTurns 39 = .ok (.isub, 1) := by decide +kernel
theorem dX2_findTurns_40 : decode cX2_findTurns 40 = .ok (.iaload, 1) := by decide +kernel
theorem dX2_findTurns_41 : decode cX2_findTurns 41 = .ok (.if_icmp .le 7, 3) := by decide +kernel
theorem dX2_findTurns_44 : decode cX2_findTurns 44 = .ok (.iconst 1, 1) := by decide +kernel
theorem dX2_findTurns_45 : decode cX2_findTurns 45 = .ok (.goto 4, 3) := by decide +kernel
theorem dX2_findTurns_48 : decode cX2_findTurns 48 = .ok (.iconst (-1), 1) := by decide +kernel
theorem dX2_findTurns_49 : decode cX2_findTurns 49 = .ok (.istore 5, 2) := by decide +kernel
theorem dX2_findTurns_51 : decode cX2_findTurns 51 = .ok (.iload 5, 2) := by decide +kernel
theorem dX2_findTurns_53 : decode cX2_findTurns 53 = .ok (.iload_n 3, 1) := by decide +kernel
theorem dX2_findTurns_54 : decode cX2_findTurns 54 = .ok (.ineg, 1) := by decide +kernel
theorem dX2_findTurns_55 : decode cX2_findTurns 55 = .ok (.if_icmp .ne 17, 3) := by decide +kernel
theorem dX2_findTurns_58 : decode cX2_findTurns 58 = .ok (.iload_n 2, 1) := by decide +kernel
theorem dX2_findTurns_59 : decode cX2_findTurns 59 = .ok (.aload_n 1, 1) := by decide +kernel
theorem dX2_findTurns_60 : decode cX2_findTurns 60 = .ok (.arraylength, 1) := by decide +kernel
theorem dX2_findTurns_61 : decode cX2_findTurns 61 = .ok (.if_icmp .ge 8, 3) := by decide +kernel
theorem dX2_findTurns_64 : decode cX2_findTurns 64 = .ok (.aload_n 1, 1) := by decide +kernel
theorem dX2_findTurns_65 : decode cX2_findTurns 65 = .ok (.iload_n 2, 1) := by decide +kernel
theorem dX2_findTurns_66 : decode cX2_findTurns 66 = .ok (.iload 4, 2) := by decide +kernel
theorem dX2_findTurns_68 : decode cX2_findTurns 68 = .ok (.iastore, 1) := by decide +kernel
theorem dX2_findTurns_69 : decode cX2_findTurns 69 = .ok (.iinc 2 1, 3) := by decide +kernel
theorem dX2_findTurns_72 : decode cX2_findTurns 72 = .ok (.iload 5, 2) := by decide +kernel
theorem dX2_findTurns_74 : decode cX2_findTurns 74 = .ok (.istore_n 3, 1) := by decide +kernel
theorem dX2_findTurns_75 : decode cX2_findTurns 75 = .ok (.iinc 4 1, 3) := by decide +kernel
theorem dX2_findTurns_78 : decode cX2_findTurns 78 = .ok (.goto (-71), 3) := by decide +kernel
theorem dX2_findTurns_81 : decode cX2_findTurns 81 = .ok (.iload_n 2, 1) := by decide +kernel
theorem dX2_findTurns_82 : decode cX2_findTurns 82 = .ok (.ireturn, 1) := by decide +kernel
theorem dX2_turnNumbered_0 : decode cX2_turnNumbered 0 = .ok (.iload_n 1, 1) := by decide +kernel
theorem dX2_turnNumbered_1 : decode cX2_turnNumbered 1 = .ok (.ifCond .lt 11, 3) := by decide +kernel
theorem dX2_turnNumbered_4 : decode cX2_turnNumbered 4 = .ok (.iload_n 1, 1) := by decide +kernel
theorem dX2_turnNumbered_5 : decode cX2_turnNumbered 5 = .ok (.aload_n 0, 1) := by decide +kernel
theorem dX2_turnNumbered_6 : decode cX2_turnNumbered 6 = .ok (.getfield 41, 3) := by decide +kernel
theorem dX2_turnNumbered_9 : decode cX2_turnNumbered 9 = .ok (.if_icmp .lt 5, 3) := by decide +kernel
theorem dX2_turnNumbered_12 : decode cX2_turnNumbered 12 = .ok (.iconst (-1), 1) := by decide +kernel
theorem dX2_turnNumbered_13 : decode cX2_turnNumbered 13 = .ok (.ireturn, 1) := by decide +kernel
theorem dX2_turnNumbered_14 : decode cX2_turnNumbered 14 = .ok (.aload_n 0, 1) := by decide +kernel
theorem dX2_turnNumbered_15 : decode cX2_turnNumbered 15 = .ok (.getfield 9, 3) := by decide +kernel
theorem dX2_turnNumbered_18 : decode cX2_turnNumbered 18 = .ok (.ifnonnull 25, 3) := by decide +kernel
theorem dX2_turnNumbered_21 : decode cX2_turnNumbered 21 = .ok (.aload_n 0, 1) := by decide +kernel
theorem dX2_turnNumbered_22 : decode cX2_turnNumbered 22 = .ok (.aload_n 0, 1) := by decide +kernel
theorem dX2_turnNumbered_23 : decode cX2_turnNumbered 23 = .ok (.getfield 41, 3) := by decide +kernel
theorem dX2_turnNumbered_26 : decode cX2_turnNumbered 26 = .ok (.newarray .int, 2) := by decide +kernel
theorem dX2_turnNumbered_28 : decode cX2_turnNumbered 28 = .ok (.putfield 9, 3) := by decide +kernel
theorem dX2_turnNumbered_31 : decode cX2_turnNumbered 31 = .ok (.aload_n 0, 1) := by decide +kernel
theorem dX2_turnNumbered_32 : decode cX2_turnNumbered 32 = .ok (.getfield 24, 3) := by decide +kernel
theorem dX2_turnNumbered_35 : decode cX2_turnNumbered 35 = .ok (.aload_n 0, 1) := by decide +kernel
theorem dX2_turnNumbered_36 : decode cX2_turnNumbered 36 = .ok (.getfield 9, 3) := by decide +kernel
theorem dX2_turnNumbered_39 : decode cX2_turnNumbered 39 = .ok (.invokestatic 37, 3) := by decide +kernel
theorem dX2_turnNumbered_42 : decode cX2_turnNumbered 42 = .ok (.pop, 1) := by decide +kernel
theorem dX2_turnNumbered_43 : decode cX2_turnNumbered 43 = .ok (.aload_n 0, 1) := by decide +kernel
theorem dX2_turnNumbered_44 : decode cX2_turnNumbered 44 = .ok (.getfield 9, 3) := by decide +kernel
theorem dX2_turnNumbered_47 : decode cX2_turnNumbered 47 = .ok (.iload_n 1, 1) := by decide +kernel
theorem dX2_turnNumbered_48 : decode cX2_turnNumbered 48 = .ok (.iaload, 1) := by decide +kernel
theorem dX2_turnNumbered_49 : decode cX2_turnNumbered 49 = .ok (.ireturn, 1) := by decide +kernel
theorem dX2_nearestTo_0 : decode cX2_nearestTo 0 = .ok (.aload_n 0, 1) := by decide +kernel
theorem dX2_nearestTo_1 : decode cX2_nearestTo 1 = .ok (.getfield 34, 3) := by decide +kernel
theorem dX2_nearestTo_4 : decode cX2_nearestTo 4 = .ok (.ifCond .ne 5, 3) := by decide +kernel
theorem dX2_nearestTo_7 : decode cX2_nearestTo 7 = .ok (.iconst (-1), 1) := by decide +kernel
theorem dX2_nearestTo_8 : decode cX2_nearestTo 8 = .ok (.ireturn, 1) := by decide +kernel
theorem dX2_nearestTo_9 : decode cX2_nearestTo 9 = .ok (.aload_n 0, 1) := by decide +kernel
theorem dX2_nearestTo_10 : decode cX2_nearestTo 10 = .ok (.getfield 34, 3) := by decide +kernel
theorem dX2_nearestTo_13 : decode cX2_nearestTo 13 = .ok (.iconst (-1), 1) := by decide +kernel
theorem dX2_nearestTo_14 : decode cX2_nearestTo 14 = .ok (.if_icmp .ne 9, 3) := by decide +kernel
theorem dX2_nearestTo_17 : decode cX2_nearestTo 17 = .ok (.ldc2_w 44, 3) := by decide +kernel
theorem dX2_nearestTo_20 : decode cX2_nearestTo 20 = .ok (.goto 4, 3) := by decide +kernel
theorem dX2_nearestTo_23 : decode cX2_nearestTo 23 = .ok (.lconst 1, 1) := by decide +kernel
theorem dX2_nearestTo_24 : decode cX2_nearestTo 24 = .ok (.lstore_n 2, 1) := by decide +kernel
theorem dX2_nearestTo_25 : decode cX2_nearestTo 25 = .ok (.lload_n 2, 1) := by decide +kernel
theorem dX2_nearestTo_26 : decode cX2_nearestTo 26 = .ok (.iload_n 1, 1) := by decide +kernel
theorem dX2_nearestTo_27 : decode cX2_nearestTo 27 = .ok (.i2l, 1) := by decide +kernel
theorem dX2_nearestTo_28 : decode cX2_nearestTo 28 = .ok (.lmul, 1) := by decide +kernel
theorem dX2_nearestTo_29 : decode cX2_nearestTo 29 = .ok (.lstore 4, 2) := by decide +kernel
theorem dX2_nearestTo_31 : decode cX2_nearestTo 31 = .ok (.aload_n 0, 1) := by decide +kernel
theorem dX2_nearestTo_32 : decode cX2_nearestTo 32 = .ok (.lload 4, 2) := by decide +kernel
theorem dX2_nearestTo_34 : decode cX2_nearestTo 34 = .ok (.lload_n 2, 1) := by decide +kernel
theorem dX2_nearestTo_35 : decode cX2_nearestTo 35 = .ok (.invokevirtual 46, 3) := by decide +kernel
theorem dX2_nearestTo_38 : decode cX2_nearestTo 38 = .ok (.istore 6, 2) := by decide +kernel
theorem dX2_nearestTo_40 : decode cX2_nearestTo 40 = .ok (.iload 6, 2) := by decide +kernel
theorem dX2_nearestTo_42 : decode cX2_nearestTo 42 = .ok (.ifCond .ne 5, 3) := by decide +kernel
theorem dX2_nearestTo_45 : decode cX2_nearestTo 45 = .ok (.iconst 0, 1) := by decide +kernel
theorem dX2_nearestTo_46 : decode cX2_nearestTo 46 = .ok (.ireturn, 1) := by decide +kernel
theorem dX2_nearestTo_47 : decode cX2_nearestTo 47 = .ok (.lload_n 2, 1) := by decide +kernel
theorem dX2_nearestTo_48 : decode cX2_nearestTo 48 = .ok (.aload_n 0, 1) := by decide +kernel
theorem dX2_nearestTo_49 : decode cX2_nearestTo 49 = .ok (.getfield 24, 3) := by decide +kernel
theorem dX2_nearestTo_52 : decode cX2_nearestTo 52 = .ok (.iload 6, 2) := by decide +kernel
theorem dX2_nearestTo_54 : decode cX2_nearestTo 54 = .ok (.iconst 1, 1) := by decide +kernel
theorem dX2_nearestTo_55 : decode cX2_nearestTo 55 = .ok (.isub, 1) := by decide +kernel
theorem dX2_nearestTo_56 : decode cX2_nearestTo 56 = .ok (.iaload, 1) := by decide +kernel
theorem dX2_nearestTo_57 : decode cX2_nearestTo 57 = .ok (.i2l, 1) := by decide +kernel
theorem dX2_nearestTo_58 : decode cX2_nearestTo 58 = .ok (.lmul, 1) := by decide +kernel
theorem dX2_nearestTo_59 : decode cX2_nearestTo 59 = .ok (.lstore 7, 2) := by decide +kernel
theorem dX2_nearestTo_61 : decode cX2_nearestTo 61 = .ok (.iload 6, 2) := by decide +kernel
theorem dX2_nearestTo_63 : decode cX2_nearestTo 63 = .ok (.sipush 4096, 3) := by decide +kernel
theorem dX2_nearestTo_66 : decode cX2_nearestTo 66 = .ok (.if_icmp .ge 28, 3) := by decide +kernel
theorem dX2_nearestTo_69 : decode cX2_nearestTo 69 = .ok (.lload_n 2, 1) := by decide +kernel
theorem dX2_nearestTo_70 : decode cX2_nearestTo 70 = .ok (.aload_n 0, 1) := by decide +kernel
theorem dX2_nearestTo_71 : decode cX2_nearestTo 71 = .ok (.getfield 24, 3) := by decide +kernel
theorem dX2_nearestTo_74 : decode cX2_nearestTo 74 = .ok (.iload 6, 2) := by decide +kernel
theorem dX2_nearestTo_76 : decode cX2_nearestTo 76 = .ok (.iaload, 1) := by decide +kernel
theorem dX2_nearestTo_77 : decode cX2_nearestTo 77 = .ok (.i2l, 1) := by decide +kernel
theorem dX2_nearestTo_78 : decode cX2_nearestTo 78 = .ok (.lmul, 1) := by decide +kernel
theorem dX2_nearestTo_79 : decode cX2_nearestTo 79 = .ok (.lload 4, 2) := by decide +kernel
theorem dX2_nearestTo_81 : decode cX2_nearestTo 81 = .ok (.lsub, 1) := by decide +kernel
theorem dX2_nearestTo_82 : decode cX2_nearestTo 82 = .ok (.lload 4, 2) := by decide +kernel
theorem dX2_nearestTo_84 : decode cX2_nearestTo 84 = .ok (.lload 7, 2) := by decide +kernel
theorem dX2_nearestTo_86 : decode cX2_nearestTo 86 = .ok (.lsub, 1) := by decide +kernel
theorem dX2_nearestTo_87 : decode cX2_nearestTo 87 = .ok (.lcmp, 1) := by decide +kernel
theorem dX2_nearestTo_88 : decode cX2_nearestTo 88 = .ok (.ifCond .ge 6, 3) := by decide +kernel
theorem dX2_nearestTo_91 : decode cX2_nearestTo 91 = .ok (.iload 6, 2) := by decide +kernel
theorem dX2_nearestTo_93 : decode cX2_nearestTo 93 = .ok (.ireturn, 1) := by decide +kernel
theorem dX2_nearestTo_94 : decode cX2_nearestTo 94 = .ok (.aload_n 0, 1) := by decide +kernel
theorem dX2_nearestTo_95 : decode cX2_nearestTo 95 = .ok (.lload 7, 2) := by decide +kernel
theorem dX2_nearestTo_97 : decode cX2_nearestTo 97 = .ok (.lload_n 2, 1) := by decide +kernel
theorem dX2_nearestTo_98 : decode cX2_nearestTo 98 = .ok (.invokevirtual 46, 3) := by decide +kernel
theorem dX2_nearestTo_101 : decode cX2_nearestTo 101 = .ok (.ireturn, 1) := by decide +kernel
theorem dX2_firstNotBelow_0 : decode cX2_firstNotBelow 0 = .ok (.iconst 0, 1) := by decide +kernel
theorem dX2_firstNotBelow_1 : decode cX2_firstNotBelow 1 = .ok (.istore 5, 2) := by decide +kernel
theorem dX2_firstNotBelow_3 : decode cX2_firstNotBelow 3 = .ok (.sipush 4096, 3) := by decide +kernel
theorem dX2_firstNotBelow_6 : decode cX2_firstNotBelow 6 = .ok (.istore 6, 2) := by decide +kernel
theorem dX2_firstNotBelow_8 : decode cX2_firstNotBelow 8 = .ok (.iload 6, 2) := by decide +kernel
theorem dX2_firstNotBelow_10 : decode cX2_firstNotBelow 10 = .ok (.ifCond .le 50, 3) := by decide +kernel
theorem dX2_firstNotBelow_13 : decode cX2_firstNotBelow 13 = .ok (.iload 5, 2) := by decide +kernel
theorem dX2_firstNotBelow_15 : decode cX2_firstNotBelow 15 = .ok (.iload 6, 2) := by decide +kernel
theorem dX2_firstNotBelow_17 : decode cX2_firstNotBelow 17 = .ok (.iadd, 1) := by decide +kernel
theorem dX2_firstNotBelow_18 : decode cX2_firstNotBelow 18 = .ok (.sipush 4096, 3) := by decide +kernel
theorem dX2_firstNotBelow_21 : decode cX2_firstNotBelow 21 = .ok (.if_icmp .gt 30, 3) := by decide +kernel
theorem dX2_firstNotBelow_24 : decode cX2_firstNotBelow 24 = .ok (.lload_n 3, 1) := by decide +kernel
theorem dX2_firstNotBelow_25 : decode cX2_firstNotBelow 25 = .ok (.aload_n 0, 1) := by decide +kernel
theorem dX2_firstNotBelow_26 : decode cX2_firstNotBelow 26 = .ok (.getfield 24, 3) := by decide +kernel
theorem dX2_firstNotBelow_29 : decode cX2_firstNotBelow 29 = .ok (.iload 5, 2) := by decide +kernel
theorem dX2_firstNotBelow_31 : decode cX2_firstNotBelow 31 = .ok (.iload 6, 2) := by decide +kernel
theorem dX2_firstNotBelow_33 : decode cX2_firstNotBelow 33 = .ok (.iadd, 1) := by decide +kernel
theorem dX2_firstNotBelow_34 : decode cX2_firstNotBelow 34 = .ok (.iconst 1, 1) := by decide +kernel
theorem dX2_firstNotBelow_35 : decode cX2_firstNotBelow 35 = .ok (.isub, 1) := by decide +kernel
theorem dX2_firstNotBelow_36 : decode cX2_firstNotBelow 36 = .ok (.iaload, 1) := by decide +kernel
theorem dX2_firstNotBelow_37 : decode cX2_firstNotBelow 37 = .ok (.i2l, 1) := by decide +kernel
theorem dX2_firstNotBelow_38 : decode cX2_firstNotBelow 38 = .ok (.lmul, 1) := by decide +kernel
theorem dX2_firstNotBelow_39 : decode cX2_firstNotBelow 39 = .ok (.lload_n 1, 1) := by decide +kernel
theorem dX2_firstNotBelow_40 : decode cX2_firstNotBelow 40 = .ok (.lcmp, 1) := by decide +kernel
theorem dX2_firstNotBelow_41 : decode cX2_firstNotBelow 41 = .ok (.ifCond .ge 10, 3) := by decide +kernel
theorem dX2_firstNotBelow_44 : decode cX2_firstNotBelow 44 = .ok (.iload 5, 2) := by decide +kernel
theorem dX2_firstNotBelow_46 : decode cX2_firstNotBelow 46 = .ok (.iload 6, 2) := by decide +kernel
theorem dX2_firstNotBelow_48 : decode cX2_firstNotBelow 48 = .ok (.iadd, 1) := by decide +kernel
theorem dX2_firstNotBelow_49 : decode cX2_firstNotBelow 49 = .ok (.istore 5, 2) := by decide +kernel
theorem dX2_firstNotBelow_51 : decode cX2_firstNotBelow 51 = .ok (.iload 6, 2) := by decide +kernel
theorem dX2_firstNotBelow_53 : decode cX2_firstNotBelow 53 = .ok (.iconst 2, 1) := by decide +kernel
theorem dX2_firstNotBelow_54 : decode cX2_firstNotBelow 54 = .ok (.idiv, 1) := by decide +kernel
theorem dX2_firstNotBelow_55 : decode cX2_firstNotBelow 55 = .ok (.istore 6, 2) := by decide +kernel
theorem dX2_firstNotBelow_57 : decode cX2_firstNotBelow 57 = .ok (.goto (-49), 3) := by decide +kernel
theorem dX2_firstNotBelow_60 : decode cX2_firstNotBelow 60 = .ok (.iload 5, 2) := by decide +kernel
theorem dX2_firstNotBelow_62 : decode cX2_firstNotBelow 62 = .ok (.ireturn, 1) := by decide +kernel
theorem dX3_init_0 : decode cX3_init 0 = .ok (.aload_n 0, 1) := by decide +kernel
theorem dX3_init_1 : decode cX3_init 1 = .ok (.invokespecial 3, 3) := by decide +kernel
theorem dX3_init_4 : decode cX3_init 4 = .ok (.aload_n 0, 1) := by decide +kernel
theorem dX3_init_5 : decode cX3_init 5 = .ok (.bipush 32, 2) := by decide +kernel
theorem dX3_init_7 : decode cX3_init 7 = .ok (.newarray .int, 2) := by decide +kernel
theorem dX3_init_9 : decode cX3_init 9 = .ok (.putfield 9, 3) := by decide +kernel
theorem dX3_init_12 : decode cX3_init 12 = .ok (.aload_n 0, 1) := by decide +kernel
theorem dX3_init_13 : decode cX3_init 13 = .ok (.bipush 32, 2) := by decide +kernel
theorem dX3_init_15 : decode cX3_init 15 = .ok (.newarray .int, 2) := by decide +kernel
theorem dX3_init_17 : decode cX3_init 17 = .ok (.putfield 15, 3) := by decide +kernel
theorem dX3_init_20 : decode cX3_init 20 = .ok (.aload_n 0, 1) := by decide +kernel
theorem dX3_init_21 : decode cX3_init 21 = .ok (.iconst 0, 1) := by decide +kernel
theorem dX3_init_22 : decode cX3_init 22 = .ok (.putfield 18, 3) := by decide +kernel
theorem dX3_init_25 : decode cX3_init 25 = .ok (.return_, 1) := by decide +kernel
theorem dX3_lastCount_0 : decode cX3_lastCount 0 = .ok (.aload_n 0, 1) := by decide +kernel
theorem dX3_lastCount_1 : decode cX3_lastCount 1 = .ok (.getfield 18, 3) := by decide +kernel
theorem dX3_lastCount_4 : decode cX3_lastCount 4 = .ok (.ifCond .ne 7, 3) := by decide +kernel
theorem dX3_lastCount_7 : decode cX3_lastCount 7 = .ok (.iconst (-1), 1) := by decide +kernel
theorem dX3_lastCount_8 : decode cX3_lastCount 8 = .ok (.goto 14, 3) := by decide +kernel
theorem dX3_lastCount_11 : decode cX3_lastCount 11 = .ok (.aload_n 0, 1) := by decide +kernel
theorem dX3_lastCount_12 : decode cX3_lastCount 12 = .ok (.getfield 9, 3) := by decide +kernel
theorem dX3_lastCount_15 : decode cX3_lastCount 15 = .ok (.aload_n 0, 1) := by decide +kernel
theorem dX3_lastCount_16 : decode cX3_lastCount 16 = .ok (.getfield 18, 3) := by decide +kernel
theorem dX3_lastCount_19 : decode cX3_lastCount 19 = .ok (.iconst 1, 1) := by decide +kernel
theorem dX3_lastCount_20 : decode cX3_lastCount 20 = .ok (.isub, 1) := by decide +kernel
theorem dX3_lastCount_21 : decode cX3_lastCount 21 = .ok (.iaload, 1) := by decide +kernel
theorem dX3_lastCount_22 : decode cX3_lastCount 22 = .ok (.ireturn, 1) := by decide +kernel
theorem dX3_add_0 : decode cX3_add 0 = .ok (.aload_n 0, 1) := by decide +kernel
theorem dX3_add_1 : decode cX3_add 1 = .ok (.getfield 9, 3) := by decide +kernel
theorem dX3_add_4 : decode cX3_add 4 = .ok (.aload_n 0, 1) := by decide +kernel
theorem dX3_add_5 : decode cX3_add 5 = .ok (.getfield 18, 3) := by decide +kernel
theorem dX3_add_8 : decode cX3_add 8 = .ok (.iload_n 1, 1) := by decide +kernel
theorem dX3_add_9 : decode cX3_add 9 = .ok (.iastore, 1) := by decide +kernel
theorem dX3_add_10 : decode cX3_add 10 = .ok (.aload_n 0, 1) := by decide +kernel
theorem dX3_add_11 : decode cX3_add 11 = .ok (.getfield 15, 3) := by decide +kernel
theorem dX3_add_14 : decode cX3_add 14 = .ok (.aload_n 0, 1) := by decide +kernel
theorem dX3_add_15 : decode cX3_add 15 = .ok (.getfield 18, 3) := by decide +kernel
theorem dX3_add_18 : decode cX3_add 18 = .ok (.iload_n 2, 1) := by decide +kernel
theorem dX3_add_19 : decode cX3_add 19 = .ok (.iastore, 1) := by decide +kernel
theorem dX3_add_20 : decode cX3_add 20 = .ok (.aload_n 0, 1) := by decide +kernel
theorem dX3_add_21 : decode cX3_add 21 = .ok (.dup, 1) := by decide +kernel
theorem dX3_add_22 : decode cX3_add 22 = .ok (.getfield 18, 3) := by decide +kernel
theorem dX3_add_25 : decode cX3_add 25 = .ok (.iconst 1, 1) := by decide +kernel
theorem dX3_add_26 : decode cX3_add 26 = .ok (.iadd, 1) := by decide +kernel
theorem dX3_add_27 : decode cX3_add 27 = .ok (.putfield 18, 3) := by decide +kernel
theorem dX3_add_30 : decode cX3_add 30 = .ok (.return_, 1) := by decide +kernel
theorem dX3_between_0 : decode cX3_between 0 = .ok (.aload_n 0, 1) := by decide +kernel
theorem dX3_between_1 : decode cX3_between 1 = .ok (.iload_n 1, 1) := by decide +kernel
theorem dX3_between_2 : decode cX3_between 2 = .ok (.invokevirtual 22, 3) := by decide +kernel
theorem dX3_between_5 : decode cX3_between 5 = .ok (.istore_n 2, 1) := by decide +kernel
theorem dX3_between_6 : decode cX3_between 6 = .ok (.iload_n 2, 1) := by decide +kernel
theorem dX3_between_7 : decode cX3_between 7 = .ok (.ifCond .ne 10, 3) := by decide +kernel
theorem dX3_between_10 : decode cX3_between 10 = .ok (.aload_n 0, 1) := by decide +kernel
theorem dX3_between_11 : decode cX3_between 11 = .ok (.getfield 15, 3) := by decide +kernel
theorem dX3_between_14 : decode cX3_between 14 = .ok (.iconst 0, 1) := by decide +kernel
theorem dX3_between_15 : decode cX3_between 15 = .ok (.iaload, 1) := by decide +kernel
theorem dX3_between_16 : decode cX3_between 16 = .ok (.ireturn, 1) := by decide +kernel
theorem dX3_between_17 : decode cX3_between 17 = .ok (.iload_n 2, 1) := by decide +kernel
theorem dX3_between_18 : decode cX3_between 18 = .ok (.aload_n 0, 1) := by decide +kernel
theorem dX3_between_19 : decode cX3_between 19 = .ok (.getfield 18, 3) := by decide +kernel
theorem dX3_between_22 : decode cX3_between 22 = .ok (.if_icmp .ne 12, 3) := by decide +kernel
theorem dX3_between_25 : decode cX3_between 25 = .ok (.aload_n 0, 1) := by decide +kernel
theorem dX3_between_26 : decode cX3_between 26 = .ok (.getfield 15, 3) := by decide +kernel
theorem dX3_between_29 : decode cX3_between 29 = .ok (.iload_n 2, 1) := by decide +kernel
theorem dX3_between_30 : decode cX3_between 30 = .ok (.iconst 1, 1) := by decide +kernel
theorem dX3_between_31 : decode cX3_between 31 = .ok (.isub, 1) := by decide +kernel
theorem dX3_between_32 : decode cX3_between 32 = .ok (.iaload, 1) := by decide +kernel
theorem dX3_between_33 : decode cX3_between 33 = .ok (.ireturn, 1) := by decide +kernel
theorem dX3_between_34 : decode cX3_between 34 = .ok (.aload_n 0, 1) := by decide +kernel
theorem dX3_between_35 : decode cX3_between 35 = .ok (.getfield 9, 3) := by decide +kernel
theorem dX3_between_38 : decode cX3_between 38 = .ok (.iload_n 2, 1) := by decide +kernel
theorem dX3_between_39 : decode cX3_between 39 = .ok (.iaload, 1) := by decide +kernel
theorem dX3_between_40 : decode cX3_between 40 = .ok (.aload_n 0, 1) := by decide +kernel
theorem dX3_between_41 : decode cX3_between 41 = .ok (.getfield 9, 3) := by decide +kernel
theorem dX3_between_44 : decode cX3_between 44 = .ok (.iload_n 2, 1) := by decide +kernel
theorem dX3_between_45 : decode cX3_between 45 = .ok (.iconst 1, 1) := by decide +kernel
theorem dX3_between_46 : decode cX3_between 46 = .ok (.isub, 1) := by decide +kernel
theorem dX3_between_47 : decode cX3_between 47 = .ok (.iaload, 1) := by decide +kernel
theorem dX3_between_48 : decode cX3_between 48 = .ok (.isub, 1) := by decide +kernel
theorem dX3_between_49 : decode cX3_between 49 = .ok (.i2l, 1) := by decide +kernel
theorem dX3_between_50 : decode cX3_between 50 = .ok (.lstore_n 3, 1) := by decide +kernel
theorem dX3_between_51 : decode cX3_between 51 = .ok (.aload_n 0, 1) := by decide +kernel
theorem dX3_between_52 : decode cX3_between 52 = .ok (.getfield 15, 3) := by decide +kernel
theorem dX3_between_55 : decode cX3_between 55 = .ok (.iload_n 2, 1) := by decide +kernel
theorem dX3_between_56 : decode cX3_between 56 = .ok (.iaload, 1) := by decide +kernel
theorem dX3_between_57 : decode cX3_between 57 = .ok (.aload_n 0, 1) := by decide +kernel
theorem dX3_between_58 : decode cX3_between 58 = .ok (.getfield 15, 3) := by decide +kernel
theorem dX3_between_61 : decode cX3_between 61 = .ok (.iload_n 2, 1) := by decide +kernel
theorem dX3_between_62 : decode cX3_between 62 = .ok (.iconst 1, 1) := by decide +kernel
theorem dX3_between_63 : decode cX3_between 63 = .ok (.isub, 1) := by decide +kernel
theorem dX3_between_64 : decode cX3_between 64 = .ok (.iaload, 1) := by decide +kernel
theorem dX3_between_65 : decode cX3_between 65 = .ok (.isub, 1) := by decide +kernel
theorem dX3_between_66 : decode cX3_between 66 = .ok (.i2l, 1) := by decide +kernel
theorem dX3_between_67 : decode cX3_between 67 = .ok (.lstore 5, 2) := by decide +kernel
theorem dX3_between_69 : decode cX3_between 69 = .ok (.aload_n 0, 1) := by decide +kernel
theorem dX3_between_70 : decode cX3_between 70 = .ok (.getfield 15, 3) := by decide +kernel
theorem dX3_between_73 : decode cX3_between 73 = .ok (.iload_n 2, 1) := by decide +kernel
theorem dX3_between_74 : decode cX3_between 74 = .ok (.iconst 1, 1) := by decide +kernel
theorem dX3_between_75 : decode cX3_between 75 = .ok (.isub, 1) := by decide +kernel
theorem dX3_between_76 : decode cX3_between 76 = .ok (.iaload, 1) := by decide +kernel
theorem dX3_between_77 : decode cX3_between 77 = .ok (.i2l, 1) := by decide +kernel
theorem dX3_between_78 : decode cX3_between 78 = .ok (.lload_n 3, 1) := by decide +kernel
theorem dX3_between_79 : decode cX3_between 79 = .ok (.lmul, 1) := by decide +kernel
theorem dX3_between_80 : decode cX3_between 80 = .ok (.lload 5, 2) := by decide +kernel
theorem dX3_between_82 : decode cX3_between 82 = .ok (.iload_n 1, 1) := by decide +kernel
theorem dX3_between_83 : decode cX3_between 83 = .ok (.aload_n 0, 1) := by decide +kernel
theorem dX3_between_84 : decode cX3_between 84 = .ok (.getfield 9, 3) := by decide +kernel
theorem dX3_between_87 : decode cX3_between 87 = .ok (.iload_n 2, 1) := by decide +kernel
theorem dX3_between_88 : decode cX3_between 88 = .ok (.iconst 1, 1) := by decide +kernel
theorem dX3_between_89 : decode cX3_between 89 = .ok (.isub, 1) := by decide +kernel
theorem dX3_between_90 : decode cX3_between 90 = .ok (.iaload, 1) := by decide +kernel
theorem dX3_between_91 : decode cX3_between 91 = .ok (.isub, 1) := by decide +kernel
theorem dX3_between_92 : decode cX3_between 92 = .ok (.i2l, 1) := by decide +kernel
theorem dX3_between_93 : decode cX3_between 93 = .ok (.lmul, 1) := by decide +kernel
theorem dX3_between_94 : decode cX3_between 94 = .ok (.ladd, 1) := by decide +kernel
theorem dX3_between_95 : decode cX3_between 95 = .ok (.lload_n 3, 1) := by decide +kernel
theorem dX3_between_96 : decode cX3_between 96 = .ok (.invokestatic 26, 3) := by decide +kernel
theorem dX3_between_99 : decode cX3_between 99 = .ok (.l2i, 1) := by decide +kernel
theorem dX3_between_100 : decode cX3_between 100 = .ok (.ireturn, 1) := by decide +kernel
theorem dX3_howManyUpTo_0 : decode cX3_howManyUpTo 0 = .ok (.iconst 0, 1) := by decide +kernel
theorem dX3_howManyUpTo_1 : decode cX3_howManyUpTo 1 = .ok (.istore_n 2, 1) := by decide +kernel
theorem dX3_howManyUpTo_2 : decode cX3_howManyUpTo 2 = .ok (.bipush 32, 2) := by decide +kernel
theorem dX3_howManyUpTo_4 : decode cX3_howManyUpTo 4 = .ok (.istore_n 3, 1) := by decide +kernel
theorem dX3_howManyUpTo_5 : decode cX3_howManyUpTo 5 = .ok (.iload_n 3, 1) := by decide +kernel
theorem dX3_howManyUpTo_6 : decode cX3_howManyUpTo 6 = .ok (.ifCond .le 38, 3) := by decide +kernel
theorem dX3_howManyUpTo_9 : decode cX3_howManyUpTo 9 = .ok (.iload_n 2, 1) := by decide +kernel
theorem dX3_howManyUpTo_10 : decode cX3_howManyUpTo 10 = .ok (.iload_n 3, 1) := by decide +kernel
theorem dX3_howManyUpTo_11 : decode cX3_howManyUpTo 11 = .ok (.iadd, 1) := by decide +kernel
theorem dX3_howManyUpTo_12 : decode cX3_howManyUpTo 12 = .ok (.aload_n 0, 1) := by decide +kernel
theorem dX3_howManyUpTo_13 : decode cX3_howManyUpTo 13 = .ok (.getfield 18, 3) := by decide +kernel
theorem dX3_howManyUpTo_16 : decode cX3_howManyUpTo 16 = .ok (.if_icmp .gt 21, 3) := by decide +kernel
theorem dX3_howManyUpTo_19 : decode cX3_howManyUpTo 19 = .ok (.aload_n 0, 1) := by decide +kernel
theorem dX3_howManyUpTo_20 : decode cX3_howManyUpTo 20 = .ok (.getfield 9, 3) := by decide +kernel
theorem dX3_howManyUpTo_23 : decode cX3_howManyUpTo 23 = .ok (.iload_n 2, 1) := by decide +kernel
theorem dX3_howManyUpTo_24 : decode cX3_howManyUpTo 24 = .ok (.iload_n 3, 1) := by decide +kernel
theorem dX3_howManyUpTo_25 : decode cX3_howManyUpTo 25 = .ok (.iadd, 1) := by decide +kernel
theorem dX3_howManyUpTo_26 : decode cX3_howManyUpTo 26 = .ok (.iconst 1, 1) := by decide +kernel
theorem dX3_howManyUpTo_27 : decode cX3_howManyUpTo 27 = .ok (.isub, 1) := by decide +kernel
theorem dX3_howManyUpTo_28 : decode cX3_howManyUpTo 28 = .ok (.iaload, 1) := by decide +kernel
theorem dX3_howManyUpTo_29 : decode cX3_howManyUpTo 29 = .ok (.iload_n 1, 1) := by decide +kernel
theorem dX3_howManyUpTo_30 : decode cX3_howManyUpTo 30 = .ok (.if_icmp .gt 7, 3) := by decide +kernel
theorem dX3_howManyUpTo_33 : decode cX3_howManyUpTo 33 = .ok (.iload_n 2, 1) := by decide +kernel
theorem dX3_howManyUpTo_34 : decode cX3_howManyUpTo 34 = .ok (.iload_n 3, 1) := by decide +kernel
theorem dX3_howManyUpTo_35 : decode cX3_howManyUpTo 35 = .ok (.iadd, 1) := by decide +kernel
theorem dX3_howManyUpTo_36 : decode cX3_howManyUpTo 36 = .ok (.istore_n 2, 1) := by decide +kernel
theorem dX3_howManyUpTo_37 : decode cX3_howManyUpTo 37 = .ok (.iload_n 3, 1) := by decide +kernel
theorem dX3_howManyUpTo_38 : decode cX3_howManyUpTo 38 = .ok (.iconst 2, 1) := by decide +kernel
theorem dX3_howManyUpTo_39 : decode cX3_howManyUpTo 39 = .ok (.idiv, 1) := by decide +kernel
theorem dX3_howManyUpTo_40 : decode cX3_howManyUpTo 40 = .ok (.istore_n 3, 1) := by decide +kernel
theorem dX3_howManyUpTo_41 : decode cX3_howManyUpTo 41 = .ok (.goto (-36), 3) := by decide +kernel
theorem dX3_howManyUpTo_44 : decode cX3_howManyUpTo 44 = .ok (.iload_n 2, 1) := by decide +kernel
theorem dX3_howManyUpTo_45 : decode cX3_howManyUpTo 45 = .ok (.ireturn, 1) := by decide +kernel
theorem dX4_init_0 : decode cX4_init 0 = .ok (.aload_n 0, 1) := by decide +kernel
theorem dX4_init_1 : decode cX4_init 1 = .ok (.iconst 0, 1) := by decide +kernel
theorem dX4_init_2 : decode cX4_init 2 = .ok (.iconst 1, 1) := by decide +kernel
theorem dX4_init_3 : decode cX4_init 3 = .ok (.invokespecial 3, 3) := by decide +kernel
theorem dX4_init_6 : decode cX4_init 6 = .ok (.aload_n 0, 1) := by decide +kernel
theorem dX4_init_7 : decode cX4_init 7 = .ok (.lload_n 1, 1) := by decide +kernel
theorem dX4_init_8 : decode cX4_init 8 = .ok (.putfield 9, 3) := by decide +kernel
theorem dX4_init_11 : decode cX4_init 11 = .ok (.aload_n 0, 1) := by decide +kernel
theorem dX4_init_12 : decode cX4_init 12 = .ok (.lload_n 3, 1) := by decide +kernel
theorem dX4_init_13 : decode cX4_init 13 = .ok (.putfield 15, 3) := by decide +kernel
theorem dX4_init_16 : decode cX4_init 16 = .ok (.aload_n 0, 1) := by decide +kernel
theorem dX4_init_17 : decode cX4_init 17 = .ok (.lload 5, 2) := by decide +kernel
theorem dX4_init_19 : decode cX4_init 19 = .ok (.putfield 18, 3) := by decide +kernel
theorem dX4_init_22 : decode cX4_init 22 = .ok (.return_, 1) := by decide +kernel
theorem dX4_workedOut_0 : decode cX4_workedOut 0 = .ok (.aload_n 0, 1) := by decide +kernel
theorem dX4_workedOut_1 : decode cX4_workedOut 1 = .ok (.getfield 9, 3) := by decide +kernel
theorem dX4_workedOut_4 : decode cX4_workedOut 4 = .ok (.aload_n 0, 1) := by decide +kernel
theorem dX4_workedOut_5 : decode cX4_workedOut 5 = .ok (.getfield 15, 3) := by decide +kernel
theorem dX4_workedOut_8 : decode cX4_workedOut 8 = .ok (.iload_n 1, 1) := by decide +kernel
theorem dX4_workedOut_9 : decode cX4_workedOut 9 = .ok (.i2l, 1) := by decide +kernel
theorem dX4_workedOut_10 : decode cX4_workedOut 10 = .ok (.lmul, 1) := by decide +kernel
theorem dX4_workedOut_11 : decode cX4_workedOut 11 = .ok (.ladd, 1) := by decide +kernel
theorem dX4_workedOut_12 : decode cX4_workedOut 12 = .ok (.aload_n 0, 1) := by decide +kernel
theorem dX4_workedOut_13 : decode cX4_workedOut 13 = .ok (.getfield 18, 3) := by decide +kernel
theorem dX4_workedOut_16 : decode cX4_workedOut 16 = .ok (.invokestatic 21, 3) := by decide +kernel
theorem dX4_workedOut_19 : decode cX4_workedOut 19 = .ok (.invokestatic 25, 3) := by decide +kernel
theorem dX4_workedOut_22 : decode cX4_workedOut 22 = .ok (.ireturn, 1) := by decide +kernel
theorem dX4_makeParts_0 : decode cX4_makeParts 0 = .ok (.return_, 1) := by decide +kernel
theorem dX5_init_0 : decode cX5_init 0 = .ok (.aload_n 0, 1) := by decide +kernel
theorem dX5_init_1 : decode cX5_init 1 = .ok (.iconst 1, 1) := by decide +kernel
theorem dX5_init_2 : decode cX5_init 2 = .ok (.iconst 1, 1) := by decide +kernel
theorem dX5_init_3 : decode cX5_init 3 = .ok (.invokespecial 3, 3) := by decide +kernel
theorem dX5_init_6 : decode cX5_init 6 = .ok (.aload_n 0, 1) := by decide +kernel
theorem dX5_init_7 : decode cX5_init 7 = .ok (.aload_n 1, 1) := by decide +kernel
theorem dX5_init_8 : decode cX5_init 8 = .ok (.putfield 9, 3) := by decide +kernel
theorem dX5_init_11 : decode cX5_init 11 = .ok (.return_, 1) := by decide +kernel
theorem dX5_workedOut_0 : decode cX5_workedOut 0 = .ok (.aload_n 0, 1) := by decide +kernel
theorem dX5_workedOut_1 : decode cX5_workedOut 1 = .ok (.getfield 9, 3) := by decide +kernel
theorem dX5_workedOut_4 : decode cX5_workedOut 4 = .ok (.iload_n 1, 1) := by decide +kernel
theorem dX5_workedOut_5 : decode cX5_workedOut 5 = .ok (.invokevirtual 15, 3) := by decide +kernel
theorem dX5_workedOut_8 : decode cX5_workedOut 8 = .ok (.ireturn, 1) := by decide +kernel
theorem dX5_makeParts_0 : decode cX5_makeParts 0 = .ok (.return_, 1) := by decide +kernel
theorem dX6_init_0 : decode cX6_init 0 = .ok (.aload_n 0, 1) := by decide +kernel
theorem dX6_init_1 : decode cX6_init 1 = .ok (.invokespecial 3, 3) := by decide +kernel
theorem dX6_init_4 : decode cX6_init 4 = .ok (.aload_n 0, 1) := by decide +kernel
theorem dX6_init_5 : decode cX6_init 5 = .ok (.bipush 9, 2) := by decide +kernel
theorem dX6_init_7 : decode cX6_init 7 = .ok (.newarray .int, 2) := by decide +kernel
theorem dX6_init_9 : decode cX6_init 9 = .ok (.putfield 9, 3) := by decide +kernel
theorem dX6_init_12 : decode cX6_init 12 = .ok (.aload_n 0, 1) := by decide +kernel
theorem dX6_init_13 : decode cX6_init 13 = .ok (.bipush 9, 2) := by decide +kernel
theorem dX6_init_15 : decode cX6_init 15 = .ok (.newarray .int, 2) := by decide +kernel
theorem dX6_init_17 : decode cX6_init 17 = .ok (.putfield 15, 3) := by decide +kernel
theorem dX6_init_20 : decode cX6_init 20 = .ok (.aload_n 0, 1) := by decide +kernel
theorem dX6_init_21 : decode cX6_init 21 = .ok (.aconst_null, 1) := by decide +kernel
theorem dX6_init_22 : decode cX6_init 22 = .ok (.putfield 18, 3) := by decide +kernel
theorem dX6_init_25 : decode cX6_init 25 = .ok (.aload_n 0, 1) := by decide +kernel
theorem dX6_init_26 : decode cX6_init 26 = .ok (.iconst 0, 1) := by decide +kernel
theorem dX6_init_27 : decode cX6_init 27 = .ok (.putfield 22, 3) := by decide +kernel
theorem dX6_init_30 : decode cX6_init 30 = .ok (.aload_n 0, 1) := by decide +kernel
theorem dX6_init_31 : decode cX6_init 31 = .ok (.iconst 1, 1) := by decide +kernel
theorem dX6_init_32 : decode cX6_init 32 = .ok (.putfield 26, 3) := by decide +kernel
theorem dX6_init_35 : decode cX6_init 35 = .ok (.aload_n 0, 1) := by decide +kernel
theorem dX6_init_36 : decode cX6_init 36 = .ok (.iconst 0, 1) := by decide +kernel
theorem dX6_init_37 : decode cX6_init 37 = .ok (.putfield 29, 3) := by decide +kernel
theorem dX6_init_40 : decode cX6_init 40 = .ok (.aload_n 0, 1) := by decide +kernel
theorem dX6_init_41 : decode cX6_init 41 = .ok (.iconst 0, 1) := by decide +kernel
theorem dX6_init_42 : decode cX6_init 42 = .ok (.putfield 32, 3) := by decide +kernel
theorem dX6_init_45 : decode cX6_init 45 = .ok (.return_, 1) := by decide +kernel
theorem dX6_begin_0 : decode cX6_begin 0 = .ok (.aload_n 0, 1) := by decide +kernel
theorem dX6_begin_1 : decode cX6_begin 1 = .ok (.aload_n 1, 1) := by decide +kernel
theorem dX6_begin_2 : decode cX6_begin 2 = .ok (.putfield 18, 3) := by decide +kernel
theorem dX6_begin_5 : decode cX6_begin 5 = .ok (.aload_n 0, 1) := by decide +kernel
theorem dX6_begin_6 : decode cX6_begin 6 = .ok (.iload_n 2, 1) := by decide +kernel
theorem dX6_begin_7 : decode cX6_begin 7 = .ok (.putfield 22, 3) := by decide +kernel
theorem dX6_begin_10 : decode cX6_begin 10 = .ok (.aload_n 0, 1) := by decide +kernel
theorem dX6_begin_11 : decode cX6_begin 11 = .ok (.iload_n 3, 1) := by decide +kernel
theorem dX6_begin_12 : decode cX6_begin 12 = .ok (.putfield 26, 3) := by decide +kernel
theorem dX6_begin_15 : decode cX6_begin 15 = .ok (.aload_n 0, 1) := by decide +kernel
theorem dX6_begin_16 : decode cX6_begin 16 = .ok (.iconst 0, 1) := by decide +kernel
theorem dX6_begin_17 : decode cX6_begin 17 = .ok (.putfield 29, 3) := by decide +kernel
theorem dX6_begin_20 : decode cX6_begin 20 = .ok (.return_, 1) := by decide +kernel
theorem dX6_take_0 : decode cX6_take 0 = .ok (.aload_n 0, 1) := by decide +kernel
theorem dX6_take_1 : decode cX6_take 1 = .ok (.getfield 29, 3) := by decide +kernel
theorem dX6_take_4 : decode cX6_take 4 = .ok (.aload_n 0, 1) := by decide +kernel
theorem dX6_take_5 : decode cX6_take 5 = .ok (.getfield 26, 3) := by decide +kernel
theorem dX6_take_8 : decode cX6_take 8 = .ok (.if_icmp .lt 43, 3) := by decide +kernel
theorem dX6_take_11 : decode cX6_take 11 = .ok (.iconst 1, 1) := by decide +kernel
theorem dX6_take_12 : decode cX6_take 12 = .ok (.istore_n 2, 1) := by decide +kernel
theorem dX6_take_13 : decode cX6_take 13 = .ok (.iload_n 2, 1) := by decide +kernel
theorem dX6_take_14 : decode cX6_take 14 = .ok (.aload_n 0, 1) := by decide +kernel
theorem dX6_take_15 : decode cX6_take 15 = .ok (.getfield 29, 3) := by decide +kernel
theorem dX6_take_18 : decode cX6_take 18 = .ok (.if_icmp .ge 23, 3) := by decide +kernel
theorem dX6_take_21 : decode cX6_take 21 = .ok (.aload_n 0, 1) := by decide +kernel
theorem dX6_take_22 : decode cX6_take 22 = .ok (.getfield 9, 3) := by decide +kernel
theorem dX6_take_25 : decode cX6_take 25 = .ok (.iload_n 2, 1) := by decide +kernel
theorem dX6_take_26 : decode cX6_take 26 = .ok (.iconst 1, 1) := by decide +kernel
theorem dX6_take_27 : decode cX6_take 27 = .ok (.isub, 1) := by decide +kernel
theorem dX6_take_28 : decode cX6_take 28 = .ok (.aload_n 0, 1) := by decide +kernel
theorem dX6_take_29 : decode cX6_take 29 = .ok (.getfield 9, 3) := by decide +kernel
theorem dX6_take_32 : decode cX6_take 32 = .ok (.iload_n 2, 1) := by decide +kernel
theorem dX6_take_33 : decode cX6_take 33 = .ok (.iaload, 1) := by decide +kernel
theorem dX6_take_34 : decode cX6_take 34 = .ok (.iastore, 1) := by decide +kernel
theorem dX6_take_35 : decode cX6_take 35 = .ok (.iinc 2 1, 3) := by decide +kernel
theorem dX6_take_38 : decode cX6_take 38 = .ok (.goto (-25), 3) := by decide +kernel
theorem dX6_take_41 : decode cX6_take 41 = .ok (.aload_n 0, 1) := by decide +kernel
theorem dX6_take_42 : decode cX6_take 42 = .ok (.dup, 1) := by decide +kernel
theorem dX6_take_43 : decode cX6_take 43 = .ok (.getfield 29, 3) := by decide +kernel
theorem dX6_take_46 : decode cX6_take 46 = .ok (.iconst 1, 1) := by decide +kernel
theorem dX6_take_47 : decode cX6_take 47 = .ok (.isub, 1) := by decide +kernel
theorem dX6_take_48 : decode cX6_take 48 = .ok (.putfield 29, 3) := by decide +kernel
theorem dX6_take_51 : decode cX6_take 51 = .ok (.aload_n 0, 1) := by decide +kernel
theorem dX6_take_52 : decode cX6_take 52 = .ok (.getfield 9, 3) := by decide +kernel
theorem dX6_take_55 : decode cX6_take 55 = .ok (.aload_n 0, 1) := by decide +kernel
theorem dX6_take_56 : decode cX6_take 56 = .ok (.getfield 29, 3) := by decide +kernel
theorem dX6_take_59 : decode cX6_take 59 = .ok (.iload_n 1, 1) := by decide +kernel
theorem dX6_take_60 : decode cX6_take 60 = .ok (.iastore, 1) := by decide +kernel
theorem dX6_take_61 : decode cX6_take 61 = .ok (.aload_n 0, 1) := by decide +kernel
theorem dX6_take_62 : decode cX6_take 62 = .ok (.dup, 1) := by decide +kernel
theorem dX6_take_63 : decode cX6_take 63 = .ok (.getfield 29, 3) := by decide +kernel
theorem dX6_take_66 : decode cX6_take 66 = .ok (.iconst 1, 1) := by decide +kernel
theorem dX6_take_67 : decode cX6_take 67 = .ok (.iadd, 1) := by decide +kernel
theorem dX6_take_68 : decode cX6_take 68 = .ok (.putfield 29, 3) := by decide +kernel
theorem dX6_take_71 : decode cX6_take 71 = .ok (.aload_n 0, 1) := by decide +kernel
theorem dX6_take_72 : decode cX6_take 72 = .ok (.aload_n 0, 1) := by decide +kernel
theorem dX6_take_73 : decode cX6_take 73 = .ok (.iload_n 1, 1) := by decide +kernel
theorem dX6_take_74 : decode cX6_take 74 = .ok (.invokevirtual 35, 3) := by decide +kernel
theorem dX6_take_77 : decode cX6_take 77 = .ok (.putfield 32, 3) := by decide +kernel
theorem dX6_take_80 : decode cX6_take 80 = .ok (.aload_n 0, 1) := by decide +kernel
theorem dX6_take_81 : decode cX6_take 81 = .ok (.getfield 32, 3) := by decide +kernel
theorem dX6_take_84 : decode cX6_take 84 = .ok (.ireturn, 1) := by decide +kernel
theorem dX6_filtered_0 : decode cX6_filtered 0 = .ok (.aload_n 0, 1) := by decide +kernel
theorem dX6_filtered_1 : decode cX6_filtered 1 = .ok (.getfield 22, 3) := by decide +kernel
theorem dX6_filtered_4 : decode cX6_filtered 4 = .ok (.lookupswitch 38 #[(1, 28), (2, 33)], 28) := by decide +kernel
theorem dX6_filtered_32 : decode cX6_filtered 32 = .ok (.aload_n 0, 1) := by decide +kernel
theorem dX6_filtered_33 : decode cX6_filtered 33 = .ok (.invokevirtual 39, 3) := by decide +kernel
theorem dX6_filtered_36 : decode cX6_filtered 36 = .ok (.ireturn, 1) := by decide +kernel
theorem dX6_filtered_37 : decode cX6_filtered 37 = .ok (.aload_n 0, 1) := by decide +kernel
theorem dX6_filtered_38 : decode cX6_filtered 38 = .ok (.invokevirtual 43, 3) := by decide +kernel
theorem dX6_filtered_41 : decode cX6_filtered 41 = .ok (.ireturn, 1) := by decide +kernel
theorem dX6_filtered_42 : decode cX6_filtered 42 = .ok (.iload_n 1, 1) := by decide +kernel
theorem dX6_filtered_43 : decode cX6_filtered 43 = .ok (.ireturn, 1) := by decide +kernel
theorem dX6_middle_0 : decode cX6_middle 0 = .ok (.iconst 0, 1) := by decide +kernel
theorem dX6_middle_1 : decode cX6_middle 1 = .ok (.istore_n 1, 1) := by decide +kernel
theorem dX6_middle_2 : decode cX6_middle 2 = .ok (.iload_n 1, 1) := by decide +kernel
theorem dX6_middle_3 : decode cX6_middle 3 = .ok (.aload_n 0, 1) := by decide +kernel
theorem dX6_middle_4 : decode cX6_middle 4 = .ok (.getfield 29, 3) := by decide +kernel
theorem dX6_middle_7 : decode cX6_middle 7 = .ok (.if_icmp .ge 70, 3) := by decide +kernel
theorem dX6_middle_10 : decode cX6_middle 10 = .ok (.iload_n 1, 1) := by decide +kernel
theorem dX6_middle_11 : decode cX6_middle 11 = .ok (.istore_n 2, 1) := by decide +kernel
theorem dX6_middle_12 : decode cX6_middle 12 = .ok (.iload_n 1, 1) := by decide +kernel
theorem dX6_middle_13 : decode cX6_middle 13 = .ok (.istore_n 3, 1) := by decide +kernel
theorem dX6_middle_14 : decode cX6_middle 14 = .ok (.iload_n 3, 1) := by decide +kernel
theorem dX6_middle_15 : decode cX6_middle 15 = .ok (.ifCond .le 44, 3) := by decide +kernel
theorem dX6_middle_18 : decode cX6_middle 18 = .ok (.aload_n 0, 1) := by decide +kernel
theorem dX6_middle_19 : decode cX6_middle 19 = .ok (.getfield 15, 3) := by decide +kernel
theorem dX6_middle_22 : decode cX6_middle 22 = .ok (.iload_n 3, 1) := by decide +kernel
theorem dX6_middle_23 : decode cX6_middle 23 = .ok (.iconst 1, 1) := by decide +kernel
theorem dX6_middle_24 : decode cX6_middle 24 = .ok (.isub, 1) := by decide +kernel
theorem dX6_middle_25 : decode cX6_middle 25 = .ok (.iaload, 1) := by decide +kernel
theorem dX6_middle_26 : decode cX6_middle 26 = .ok (.aload_n 0, 1) := by decide +kernel
theorem dX6_middle_27 : decode cX6_middle 27 = .ok (.getfield 9, 3) := by decide +kernel
theorem dX6_middle_30 : decode cX6_middle 30 = .ok (.iload_n 1, 1) := by decide +kernel
theorem dX6_middle_31 : decode cX6_middle 31 = .ok (.iaload, 1) := by decide +kernel
theorem dX6_middle_32 : decode cX6_middle 32 = .ok (.if_icmp .le 27, 3) := by decide +kernel
theorem dX6_middle_35 : decode cX6_middle 35 = .ok (.aload_n 0, 1) := by decide +kernel
theorem dX6_middle_36 : decode cX6_middle 36 = .ok (.getfield 15, 3) := by decide +kernel
theorem dX6_middle_39 : decode cX6_middle 39 = .ok (.iload_n 3, 1) := by decide +kernel
theorem dX6_middle_40 : decode cX6_middle 40 = .ok (.aload_n 0, 1) := by decide +kernel
theorem dX6_middle_41 : decode cX6_middle 41 = .ok (.getfield 15, 3) := by decide +kernel
theorem dX6_middle_44 : decode cX6_middle 44 = .ok (.iload_n 3, 1) := by decide +kernel
theorem dX6_middle_45 : decode cX6_middle 45 = .ok (.iconst 1, 1) := by decide +kernel
theorem dX6_middle_46 : decode cX6_middle 46 = .ok (.isub, 1) := by decide +kernel
theorem dX6_middle_47 : decode cX6_middle 47 = .ok (.iaload, 1) := by decide +kernel
theorem dX6_middle_48 : decode cX6_middle 48 = .ok (.iastore, 1) := by decide +kernel
theorem dX6_middle_49 : decode cX6_middle 49 = .ok (.iload_n 3, 1) := by decide +kernel
theorem dX6_middle_50 : decode cX6_middle 50 = .ok (.iconst 1, 1) := by decide +kernel
theorem dX6_middle_51 : decode cX6_middle 51 = .ok (.isub, 1) := by decide +kernel
theorem dX6_middle_52 : decode cX6_middle 52 = .ok (.istore_n 2, 1) := by decide +kernel
theorem dX6_middle_53 : decode cX6_middle 53 = .ok (.iinc 3 (-1), 3) := by decide +kernel
theorem dX6_middle_56 : decode cX6_middle 56 = .ok (.goto (-42), 3) := by decide +kernel
theorem dX6_middle_59 : decode cX6_middle 59 = .ok (.aload_n 0, 1) := by decide +kernel
theorem dX6_middle_60 : decode cX6_middle 60 = .ok (.getfield 15, 3) := by decide +kernel
theorem dX6_middle_63 : decode cX6_middle 63 = .ok (.iload_n 2, 1) := by decide +kernel
theorem dX6_middle_64 : decode cX6_middle 64 = .ok (.aload_n 0, 1) := by decide +kernel
theorem dX6_middle_65 : decode cX6_middle 65 = .ok (.getfield 9, 3) := by decide +kernel
theorem dX6_middle_68 : decode cX6_middle 68 = .ok (.iload_n 1, 1) := by decide +kernel
theorem dX6_middle_69 : decode cX6_middle 69 = .ok (.iaload, 1) := by decide +kernel
theorem dX6_middle_70 : decode cX6_middle 70 = .ok (.iastore, 1) := by decide +kernel
theorem dX6_middle_71 : decode cX6_middle 71 = .ok (.iinc 1 1, 3) := by decide +kernel
theorem dX6_middle_74 : decode cX6_middle 74 = .ok (.goto (-72), 3) := by decide +kernel
theorem dX6_middle_77 : decode cX6_middle 77 = .ok (.aload_n 0, 1) := by decide +kernel
theorem dX6_middle_78 : decode cX6_middle 78 = .ok (.getfield 15, 3) := by decide +kernel
theorem dX6_middle_81 : decode cX6_middle 81 = .ok (.aload_n 0, 1) := by decide +kernel
theorem dX6_middle_82 : decode cX6_middle 82 = .ok (.getfield 29, 3) := by decide +kernel
theorem dX6_middle_85 : decode cX6_middle 85 = .ok (.iconst 1, 1) := by decide +kernel
theorem dX6_middle_86 : decode cX6_middle 86 = .ok (.isub, 1) := by decide +kernel
theorem dX6_middle_87 : decode cX6_middle 87 = .ok (.iconst 2, 1) := by decide +kernel
theorem dX6_middle_88 : decode cX6_middle 88 = .ok (.idiv, 1) := by decide +kernel
theorem dX6_middle_89 : decode cX6_middle 89 = .ok (.iaload, 1) := by decide +kernel
theorem dX6_middle_90 : decode cX6_middle 90 = .ok (.ireturn, 1) := by decide +kernel
theorem dX6_mean_0 : decode cX6_mean 0 = .ok (.lconst 0, 1) := by decide +kernel
theorem dX6_mean_1 : decode cX6_mean 1 = .ok (.lstore_n 1, 1) := by decide +kernel
theorem dX6_mean_2 : decode cX6_mean 2 = .ok (.iconst 0, 1) := by decide +kernel
theorem dX6_mean_3 : decode cX6_mean 3 = .ok (.istore_n 3, 1) := by decide +kernel
theorem dX6_mean_4 : decode cX6_mean 4 = .ok (.iload_n 3, 1) := by decide +kernel
theorem dX6_mean_5 : decode cX6_mean 5 = .ok (.aload_n 0, 1) := by decide +kernel
theorem dX6_mean_6 : decode cX6_mean 6 = .ok (.getfield 29, 3) := by decide +kernel
theorem dX6_mean_9 : decode cX6_mean 9 = .ok (.if_icmp .ge 19, 3) := by decide +kernel
theorem dX6_mean_12 : decode cX6_mean 12 = .ok (.lload_n 1, 1) := by decide +kernel
theorem dX6_mean_13 : decode cX6_mean 13 = .ok (.aload_n 0, 1) := by decide +kernel
theorem dX6_mean_14 : decode cX6_mean 14 = .ok (.getfield 9, 3) := by decide +kernel
theorem dX6_mean_17 : decode cX6_mean 17 = .ok (.iload_n 3, 1) := by decide +kernel
theorem dX6_mean_18 : decode cX6_mean 18 = .ok (.iaload, 1) := by decide +kernel
theorem dX6_mean_19 : decode cX6_mean 19 = .ok (.i2l, 1) := by decide +kernel
theorem dX6_mean_20 : decode cX6_mean 20 = .ok (.ladd, 1) := by decide +kernel
theorem dX6_mean_21 : decode cX6_mean 21 = .ok (.lstore_n 1, 1) := by decide +kernel
theorem dX6_mean_22 : decode cX6_mean 22 = .ok (.iinc 3 1, 3) := by decide +kernel
theorem dX6_mean_25 : decode cX6_mean 25 = .ok (.goto (-21), 3) := by decide +kernel
theorem dX6_mean_28 : decode cX6_mean 28 = .ok (.lload_n 1, 1) := by decide +kernel
theorem dX6_mean_29 : decode cX6_mean 29 = .ok (.aload_n 0, 1) := by decide +kernel
theorem dX6_mean_30 : decode cX6_mean 30 = .ok (.getfield 29, 3) := by decide +kernel
theorem dX6_mean_33 : decode cX6_mean 33 = .ok (.i2l, 1) := by decide +kernel
theorem dX6_mean_34 : decode cX6_mean 34 = .ok (.invokestatic 46, 3) := by decide +kernel
theorem dX6_mean_37 : decode cX6_mean 37 = .ok (.l2i, 1) := by decide +kernel
theorem dX6_mean_38 : decode cX6_mean 38 = .ok (.ireturn, 1) := by decide +kernel
theorem dX6_told_0 : decode cX6_told 0 = .ok (.aload_n 0, 1) := by decide +kernel
theorem dX6_told_1 : decode cX6_told 1 = .ok (.getfield 18, 3) := by decide +kernel
theorem dX6_told_4 : decode cX6_told 4 = .ok (.ifnull 10, 3) := by decide +kernel
theorem dX6_told_7 : decode cX6_told 7 = .ok (.aload_n 0, 1) := by decide +kernel
theorem dX6_told_8 : decode cX6_told 8 = .ok (.getfield 29, 3) := by decide +kernel
theorem dX6_told_11 : decode cX6_told 11 = .ok (.ifCond .ne 8, 3) := by decide +kernel
theorem dX6_told_14 : decode cX6_told 14 = .ok (.ldc 50, 2) := by decide +kernel
theorem dX6_told_16 : decode cX6_told 16 = .ok (.goto 14, 3) := by decide +kernel
theorem dX6_told_19 : decode cX6_told 19 = .ok (.aload_n 0, 1) := by decide +kernel
theorem dX6_told_20 : decode cX6_told 20 = .ok (.getfield 18, 3) := by decide +kernel
theorem dX6_told_23 : decode cX6_told 23 = .ok (.aload_n 0, 1) := by decide +kernel
theorem dX6_told_24 : decode cX6_told 24 = .ok (.getfield 32, 3) := by decide +kernel
theorem dX6_told_27 : decode cX6_told 27 = .ok (.invokevirtual 51, 3) := by decide +kernel
theorem dX6_told_30 : decode cX6_told 30 = .ok (.ireturn, 1) := by decide +kernel
theorem dX7_init_0 : decode cX7_init 0 = .ok (.aload_n 0, 1) := by decide +kernel
theorem dX7_init_1 : decode cX7_init 1 = .ok (.iload_n 1, 1) := by decide +kernel
theorem dX7_init_2 : decode cX7_init 2 = .ok (.iconst 1, 1) := by decide +kernel
theorem dX7_init_3 : decode cX7_init 3 = .ok (.aload_n 2, 1) := by decide +kernel
theorem dX7_init_4 : decode cX7_init 4 = .ok (.getfield 3, 3) := by decide +kernel
theorem dX7_init_7 : decode cX7_init 7 = .ok (.iadd, 1) := by decide +kernel
theorem dX7_init_8 : decode cX7_init 8 = .ok (.aload_n 3, 1) := by decide +kernel
theorem dX7_init_9 : decode cX7_init 9 = .ok (.ifnonnull 7, 3) := by decide +kernel
theorem dX7_init_12 : decode cX7_init 12 = .ok (.iconst 0, 1) := by decide +kernel
theorem dX7_init_13 : decode cX7_init 13 = .ok (.goto 7, 3) := by decide +kernel
theorem dX7_init_16 : decode cX7_init 16 = .ok (.aload_n 3, 1) := by decide +kernel
theorem dX7_init_17 : decode cX7_init 17 = .ok (.getfield 3, 3) := by decide +kernel
theorem dX7_init_20 : decode cX7_init 20 = .ok (.iadd, 1) := by decide +kernel
theorem dX7_init_21 : decode cX7_init 21 = .ok (.invokespecial 9, 3) := by decide +kernel
theorem dX7_init_24 : decode cX7_init 24 = .ok (.aload_n 0, 1) := by decide +kernel
theorem dX7_init_25 : decode cX7_init 25 = .ok (.iload_n 1, 1) := by decide +kernel
theorem dX7_init_26 : decode cX7_init 26 = .ok (.putfield 13, 3) := by decide +kernel
theorem dX7_init_29 : decode cX7_init 29 = .ok (.aload_n 0, 1) := by decide +kernel
theorem dX7_init_30 : decode cX7_init 30 = .ok (.aload_n 2, 1) := by decide +kernel
theorem dX7_init_31 : decode cX7_init 31 = .ok (.putfield 18, 3) := by decide +kernel
theorem dX7_init_34 : decode cX7_init 34 = .ok (.aload_n 0, 1) := by decide +kernel
theorem dX7_init_35 : decode cX7_init 35 = .ok (.aload_n 3, 1) := by decide +kernel
theorem dX7_init_36 : decode cX7_init 36 = .ok (.putfield 22, 3) := by decide +kernel
theorem dX7_init_39 : decode cX7_init 39 = .ok (.aload_n 0, 1) := by decide +kernel
theorem dX7_init_40 : decode cX7_init 40 = .ok (.iload 4, 2) := by decide +kernel
theorem dX7_init_42 : decode cX7_init 42 = .ok (.putfield 25, 3) := by decide +kernel
theorem dX7_init_45 : decode cX7_init 45 = .ok (.aload_n 0, 1) := by decide +kernel
theorem dX7_init_46 : decode cX7_init 46 = .ok (.iload 5, 2) := by decide +kernel
theorem dX7_init_48 : decode cX7_init 48 = .ok (.putfield 28, 3) := by decide +kernel
theorem dX7_init_51 : decode cX7_init 51 = .ok (.aload_n 0, 1) := by decide +kernel
theorem dX7_init_52 : decode cX7_init 52 = .ok (.iload 6, 2) := by decide +kernel
theorem dX7_init_54 : decode cX7_init 54 = .ok (.putfield 31, 3) := by decide +kernel
theorem dX7_init_57 : decode cX7_init 57 = .ok (.return_, 1) := by decide +kernel
theorem dX7_workedOut_0 : decode cX7_workedOut 0 = .ok (.aload_n 0, 1) := by decide +kernel
theorem dX7_workedOut_1 : decode cX7_workedOut 1 = .ok (.getfield 18, 3) := by decide +kernel
theorem dX7_workedOut_4 : decode cX7_workedOut 4 = .ok (.aload_n 0, 1) := by decide +kernel
theorem dX7_workedOut_5 : decode cX7_workedOut 5 = .ok (.getfield 13, 3) := by decide +kernel
theorem dX7_workedOut_8 : decode cX7_workedOut 8 = .ok (.bipush 6, 2) := by decide +kernel
theorem dX7_workedOut_10 : decode cX7_workedOut 10 = .ok (.if_icmp .ne 11, 3) := by decide +kernel
theorem dX7_workedOut_13 : decode cX7_workedOut 13 = .ok (.sipush 4095, 3) := by decide +kernel
theorem dX7_workedOut_16 : decode cX7_workedOut 16 = .ok (.iload_n 1, 1) := by decide +kernel
theorem dX7_workedOut_17 : decode cX7_workedOut 17 = .ok (.isub, 1) := by decide +kernel
theorem dX7_workedOut_18 : decode cX7_workedOut 18 = .ok (.goto 4, 3) := by decide +kernel
theorem dX7_workedOut_21 : decode cX7_workedOut 21 = .ok (.iload_n 1, 1) := by decide +kernel
theorem dX7_workedOut_22 : decode cX7_workedOut 22 = .ok (.invokevirtual 34, 3) := by decide +kernel
theorem dX7_workedOut_25 : decode cX7_workedOut 25 = .ok (.istore_n 2, 1) := by decide +kernel
theorem dX7_workedOut_26 : decode cX7_workedOut 26 = .ok (.aload_n 0, 1) := by decide +kernel
theorem dX7_workedOut_27 : decode cX7_workedOut 27 = .ok (.getfield 13, 3) := by decide +kernel
theorem dX7_workedOut_30 : decode cX7_workedOut 30 = .ok (.tableswitch 120 2 5 #[30, 46, 71, 94], 30) := by decide +kernel
theorem dX7_workedOut_60 : decode cX7_workedOut 60 = .ok (.aload_n 0, 1) := by decide +kernel
theorem dX7_workedOut_61 : decode cX7_workedOut 61 = .ok (.getfield 25, 3) := by decide +kernel
theorem dX7_workedOut_64 : decode cX7_workedOut 64 = .ok (.aload_n 0, 1) := by decide +kernel
theorem dX7_workedOut_65 : decode cX7_workedOut 65 = .ok (.getfield 28, 3) := by decide +kernel
theorem dX7_workedOut_68 : decode cX7_workedOut 68 = .ok (.iload_n 2, 1) := by decide +kernel
theorem dX7_workedOut_69 : decode cX7_workedOut 69 = .ok (.invokestatic 38, 3) := by decide +kernel
theorem dX7_workedOut_72 : decode cX7_workedOut 72 = .ok (.invokestatic 44, 3) := by decide +kernel
theorem dX7_workedOut_75 : decode cX7_workedOut 75 = .ok (.ireturn, 1) := by decide +kernel
theorem dX7_workedOut_76 : decode cX7_workedOut 76 = .ok (.iload_n 2, 1) := by decide +kernel
theorem dX7_workedOut_77 : decode cX7_workedOut 77 = .ok (.aload_n 0, 1) := by decide +kernel
theorem dX7_workedOut_78 : decode cX7_workedOut 78 = .ok (.getfield 25, 3) := by decide +kernel
theorem dX7_workedOut_81 : decode cX7_workedOut 81 = .ok (.if_icmp .lt 18, 3) := by decide +kernel
theorem dX7_workedOut_84 : decode cX7_workedOut 84 = .ok (.iload_n 2, 1) := by decide +kernel
theorem dX7_workedOut_85 : decode cX7_workedOut 85 = .ok (.aload_n 0, 1) := by decide +kernel
theorem dX7_workedOut_86 : decode cX7_workedOut 86 = .ok (.getfield 28, 3) := by decide +kernel
theorem dX7_workedOut_89 : decode cX7_workedOut 89 = .ok (.if_icmp .gt 10, 3) := by decide +kernel
theorem dX7_workedOut_92 : decode cX7_workedOut 92 = .ok (.aload_n 0, 1) := by decide +kernel
theorem dX7_workedOut_93 : decode cX7_workedOut 93 = .ok (.getfield 31, 3) := by decide +kernel
theorem dX7_workedOut_96 : decode cX7_workedOut 96 = .ok (.goto 4, 3) := by decide +kernel
theorem dX7_workedOut_99 : decode cX7_workedOut 99 = .ok (.iload_n 2, 1) := by decide +kernel
theorem dX7_workedOut_100 : decode cX7_workedOut 100 = .ok (.ireturn, 1) := by decide +kernel
theorem dX7_workedOut_101 : decode cX7_workedOut 101 = .ok (.aload_n 0, 1) := by decide +kernel
theorem dX7_workedOut_102 : decode cX7_workedOut 102 = .ok (.getfield 22, 3) := by decide +kernel
theorem dX7_workedOut_105 : decode cX7_workedOut 105 = .ok (.ifnonnull 7, 3) := by decide +kernel
theorem dX7_workedOut_108 : decode cX7_workedOut 108 = .ok (.iload_n 2, 1) := by decide +kernel
theorem dX7_workedOut_109 : decode cX7_workedOut 109 = .ok (.goto 14, 3) := by decide +kernel
theorem dX7_workedOut_112 : decode cX7_workedOut 112 = .ok (.aload_n 0, 1) := by decide +kernel
theorem dX7_workedOut_113 : decode cX7_workedOut 113 = .ok (.getfield 22, 3) := by decide +kernel
theorem dX7_workedOut_116 : decode cX7_workedOut 116 = .ok (.iload_n 2, 1) := by decide +kernel
theorem dX7_workedOut_117 : decode cX7_workedOut 117 = .ok (.invokestatic 47, 3) := by decide +kernel
theorem dX7_workedOut_120 : decode cX7_workedOut 120 = .ok (.invokevirtual 34, 3) := by decide +kernel
theorem dX7_workedOut_123 : decode cX7_workedOut 123 = .ok (.ireturn, 1) := by decide +kernel
theorem dX7_workedOut_124 : decode cX7_workedOut 124 = .ok (.iload_n 2, 1) := by decide +kernel
theorem dX7_workedOut_125 : decode cX7_workedOut 125 = .ok (.i2l, 1) := by decide +kernel
theorem dX7_workedOut_126 : decode cX7_workedOut 126 = .ok (.aload_n 0, 1) := by decide +kernel
theorem dX7_workedOut_127 : decode cX7_workedOut 127 = .ok (.getfield 25, 3) := by decide +kernel
theorem dX7_workedOut_130 : decode cX7_workedOut 130 = .ok (.i2l, 1) := by decide +kernel
theorem dX7_workedOut_131 : decode cX7_workedOut 131 = .ok (.lmul, 1) := by decide +kernel
theorem dX7_workedOut_132 : decode cX7_workedOut 132 = .ok (.aload_n 0, 1) := by decide +kernel
theorem dX7_workedOut_133 : decode cX7_workedOut 133 = .ok (.getfield 28, 3) := by decide +kernel
theorem dX7_workedOut_136 : decode cX7_workedOut 136 = .ok (.i2l, 1) := by decide +kernel
theorem dX7_workedOut_137 : decode cX7_workedOut 137 = .ok (.invokestatic 50, 3) := by decide +kernel
theorem dX7_workedOut_140 : decode cX7_workedOut 140 = .ok (.aload_n 0, 1) := by decide +kernel
theorem dX7_workedOut_141 : decode cX7_workedOut 141 = .ok (.getfield 31, 3) := by decide +kernel
theorem dX7_workedOut_144 : decode cX7_workedOut 144 = .ok (.i2l, 1) := by decide +kernel
theorem dX7_workedOut_145 : decode cX7_workedOut 145 = .ok (.ladd, 1) := by decide +kernel
theorem dX7_workedOut_146 : decode cX7_workedOut 146 = .ok (.invokestatic 54, 3) := by decide +kernel
theorem dX7_workedOut_149 : decode cX7_workedOut 149 = .ok (.ireturn, 1) := by decide +kernel
theorem dX7_workedOut_150 : decode cX7_workedOut 150 = .ok (.iload_n 2, 1) := by decide +kernel
theorem dX7_workedOut_151 : decode cX7_workedOut 151 = .ok (.ireturn, 1) := by decide +kernel
theorem dX7_makeParts_0 : decode cX7_makeParts 0 = .ok (.aload_n 0, 1) := by decide +kernel
theorem dX7_makeParts_1 : decode cX7_makeParts 1 = .ok (.getfield 18, 3) := by decide +kernel
theorem dX7_makeParts_4 : decode cX7_makeParts 4 = .ok (.invokevirtual 58, 3) := by decide +kernel
theorem dX7_makeParts_7 : decode cX7_makeParts 7 = .ok (.pop, 1) := by decide +kernel
theorem dX7_makeParts_8 : decode cX7_makeParts 8 = .ok (.aload_n 0, 1) := by decide +kernel
theorem dX7_makeParts_9 : decode cX7_makeParts 9 = .ok (.getfield 22, 3) := by decide +kernel
theorem dX7_makeParts_12 : decode cX7_makeParts 12 = .ok (.ifnull 11, 3) := by decide +kernel
theorem dX7_makeParts_15 : decode cX7_makeParts 15 = .ok (.aload_n 0, 1) := by decide +kernel
theorem dX7_makeParts_16 : decode cX7_makeParts 16 = .ok (.getfield 22, 3) := by decide +kernel
theorem dX7_makeParts_19 : decode cX7_makeParts 19 = .ok (.invokevirtual 58, 3) := by decide +kernel
theorem dX7_makeParts_22 : decode cX7_makeParts 22 = .ok (.pop, 1) := by decide +kernel
theorem dX7_makeParts_23 : decode cX7_makeParts 23 = .ok (.return_, 1) := by decide +kernel
theorem dX8_init_0 : decode cX8_init 0 = .ok (.aload_n 0, 1) := by decide +kernel
theorem dX8_init_1 : decode cX8_init 1 = .ok (.invokespecial 3, 3) := by decide +kernel
theorem dX8_init_4 : decode cX8_init 4 = .ok (.aload_n 0, 1) := by decide +kernel
theorem dX8_init_5 : decode cX8_init 5 = .ok (.bipush 24, 2) := by decide +kernel
theorem dX8_init_7 : decode cX8_init 7 = .ok (.newarray .int, 2) := by decide +kernel
theorem dX8_init_9 : decode cX8_init 9 = .ok (.putfield 9, 3) := by decide +kernel
theorem dX8_init_12 : decode cX8_init 12 = .ok (.aload_n 0, 1) := by decide +kernel
theorem dX8_init_13 : decode cX8_init 13 = .ok (.bipush 24, 2) := by decide +kernel
theorem dX8_init_15 : decode cX8_init 15 = .ok (.newarray .int, 2) := by decide +kernel
theorem dX8_init_17 : decode cX8_init 17 = .ok (.putfield 15, 3) := by decide +kernel
theorem dX8_init_20 : decode cX8_init 20 = .ok (.aload_n 0, 1) := by decide +kernel
theorem dX8_init_21 : decode cX8_init 21 = .ok (.bipush 24, 2) := by decide +kernel
theorem dX8_init_23 : decode cX8_init 23 = .ok (.newarray .int, 2) := by decide +kernel
theorem dX8_init_25 : decode cX8_init 25 = .ok (.putfield 18, 3) := by decide +kernel
theorem dX8_init_28 : decode cX8_init 28 = .ok (.aload_n 0, 1) := by decide +kernel
theorem dX8_init_29 : decode cX8_init 29 = .ok (.iconst 0, 1) := by decide +kernel
theorem dX8_init_30 : decode cX8_init 30 = .ok (.putfield 21, 3) := by decide +kernel
theorem dX8_init_33 : decode cX8_init 33 = .ok (.return_, 1) := by decide +kernel
theorem dX8_has_0 : decode cX8_has 0 = .ok (.iload_n 1, 1) := by decide +kernel
theorem dX8_has_1 : decode cX8_has 1 = .ok (.ifCond .lt 15, 3) := by decide +kernel
theorem dX8_has_4 : decode cX8_has 4 = .ok (.iload_n 1, 1) := by decide +kernel
theorem dX8_has_5 : decode cX8_has 5 = .ok (.aload_n 0, 1) := by decide +kernel
theorem dX8_has_6 : decode cX8_has 6 = .ok (.getfield 21, 3) := by decide +kernel
theorem dX8_has_9 : decode cX8_has 9 = .ok (.if_icmp .ge 7, 3) := by decide +kernel
theorem dX8_has_12 : decode cX8_has 12 = .ok (.iconst 1, 1) := by decide +kernel
theorem dX8_has_13 : decode cX8_has 13 = .ok (.goto 4, 3) := by decide +kernel
theorem dX8_has_16 : decode cX8_has 16 = .ok (.iconst 0, 1) := by decide +kernel
theorem dX8_has_17 : decode cX8_has 17 = .ok (.ireturn, 1) := by decide +kernel
theorem dX8_add_0 : decode cX8_add 0 = .ok (.aload_n 0, 1) := by decide +kernel
theorem dX8_add_1 : decode cX8_add 1 = .ok (.getfield 9, 3) := by decide +kernel
theorem dX8_add_4 : decode cX8_add 4 = .ok (.aload_n 0, 1) := by decide +kernel
theorem dX8_add_5 : decode cX8_add 5 = .ok (.getfield 21, 3) := by decide +kernel
theorem dX8_add_8 : decode cX8_add 8 = .ok (.iload_n 1, 1) := by decide +kernel
theorem dX8_add_9 : decode cX8_add 9 = .ok (.iastore, 1) := by decide +kernel
theorem dX8_add_10 : decode cX8_add 10 = .ok (.aload_n 0, 1) := by decide +kernel
theorem dX8_add_11 : decode cX8_add 11 = .ok (.getfield 15, 3) := by decide +kernel
theorem dX8_add_14 : decode cX8_add 14 = .ok (.aload_n 0, 1) := by decide +kernel
theorem dX8_add_15 : decode cX8_add 15 = .ok (.getfield 21, 3) := by decide +kernel
theorem dX8_add_18 : decode cX8_add 18 = .ok (.iload_n 2, 1) := by decide +kernel
theorem dX8_add_19 : decode cX8_add 19 = .ok (.iastore, 1) := by decide +kernel
theorem dX8_add_20 : decode cX8_add 20 = .ok (.aload_n 0, 1) := by decide +kernel
theorem dX8_add_21 : decode cX8_add 21 = .ok (.getfield 18, 3) := by decide +kernel
theorem dX8_add_24 : decode cX8_add 24 = .ok (.aload_n 0, 1) := by decide +kernel
theorem dX8_add_25 : decode cX8_add 25 = .ok (.getfield 21, 3) := by decide +kernel
theorem dX8_add_28 : decode cX8_add 28 = .ok (.iload_n 3, 1) := by decide +kernel
theorem dX8_add_29 : decode cX8_add 29 = .ok (.iastore, 1) := by decide +kernel
theorem dX8_add_30 : decode cX8_add 30 = .ok (.aload_n 0, 1) := by decide +kernel
theorem dX8_add_31 : decode cX8_add 31 = .ok (.dup, 1) := by decide +kernel
theorem dX8_add_32 : decode cX8_add 32 = .ok (.getfield 21, 3) := by decide +kernel
theorem dX8_add_35 : decode cX8_add 35 = .ok (.iconst 1, 1) := by decide +kernel
theorem dX8_add_36 : decode cX8_add 36 = .ok (.iadd, 1) := by decide +kernel
theorem dX8_add_37 : decode cX8_add 37 = .ok (.putfield 21, 3) := by decide +kernel
theorem dX8_add_40 : decode cX8_add 40 = .ok (.return_, 1) := by decide +kernel
theorem dX8_remove_0 : decode cX8_remove 0 = .ok (.iload_n 1, 1) := by decide +kernel
theorem dX8_remove_1 : decode cX8_remove 1 = .ok (.istore_n 2, 1) := by decide +kernel
theorem dX8_remove_2 : decode cX8_remove 2 = .ok (.iload_n 2, 1) := by decide +kernel
theorem dX8_remove_3 : decode cX8_remove 3 = .ok (.aload_n 0, 1) := by decide +kernel
theorem dX8_remove_4 : decode cX8_remove 4 = .ok (.getfield 21, 3) := by decide +kernel
theorem dX8_remove_7 : decode cX8_remove 7 = .ok (.iconst 1, 1) := by decide +kernel
theorem dX8_remove_8 : decode cX8_remove 8 = .ok (.isub, 1) := by decide +kernel
theorem dX8_remove_9 : decode cX8_remove 9 = .ok (.if_icmp .ge 51, 3) := by decide +kernel
theorem dX8_remove_12 : decode cX8_remove 12 = .ok (.aload_n 0, 1) := by decide +kernel
theorem dX8_remove_13 : decode cX8_remove 13 = .ok (.getfield 9, 3) := by decide +kernel
theorem dX8_remove_16 : decode cX8_remove 16 = .ok (.iload_n 2, 1) := by decide +kernel
theorem dX8_remove_17 : decode cX8_remove 17 = .ok (.aload_n 0, 1) := by decide +kernel
theorem dX8_remove_18 : decode cX8_remove 18 = .ok (.getfield 9, 3) := by decide +kernel
theorem dX8_remove_21 : decode cX8_remove 21 = .ok (.iload_n 2, 1) := by decide +kernel
theorem dX8_remove_22 : decode cX8_remove 22 = .ok (.iconst 1, 1) := by decide +kernel
theorem dX8_remove_23 : decode cX8_remove 23 = .ok (.iadd, 1) := by decide +kernel
theorem dX8_remove_24 : decode cX8_remove 24 = .ok (.iaload, 1) := by decide +kernel
theorem dX8_remove_25 : decode cX8_remove 25 = .ok (.iastore, 1) := by decide +kernel
theorem dX8_remove_26 : decode cX8_remove 26 = .ok (.aload_n 0, 1) := by decide +kernel
theorem dX8_remove_27 : decode cX8_remove 27 = .ok (.getfield 15, 3) := by decide +kernel
theorem dX8_remove_30 : decode cX8_remove 30 = .ok (.iload_n 2, 1) := by decide +kernel
theorem dX8_remove_31 : decode cX8_remove 31 = .ok (.aload_n 0, 1) := by decide +kernel
theorem dX8_remove_32 : decode cX8_remove 32 = .ok (.getfield 15, 3) := by decide +kernel
theorem dX8_remove_35 : decode cX8_remove 35 = .ok (.iload_n 2, 1) := by decide +kernel
theorem dX8_remove_36 : decode cX8_remove 36 = .ok (.iconst 1, 1) := by decide +kernel
theorem dX8_remove_37 : decode cX8_remove 37 = .ok (.iadd, 1) := by decide +kernel
theorem dX8_remove_38 : decode cX8_remove 38 = .ok (.iaload, 1) := by decide +kernel
theorem dX8_remove_39 : decode cX8_remove 39 = .ok (.iastore, 1) := by decide +kernel
theorem dX8_remove_40 : decode cX8_remove 40 = .ok (.aload_n 0, 1) := by decide +kernel
theorem dX8_remove_41 : decode cX8_remove 41 = .ok (.getfield 18, 3) := by decide +kernel
theorem dX8_remove_44 : decode cX8_remove 44 = .ok (.iload_n 2, 1) := by decide +kernel
theorem dX8_remove_45 : decode cX8_remove 45 = .ok (.aload_n 0, 1) := by decide +kernel
theorem dX8_remove_46 : decode cX8_remove 46 = .ok (.getfield 18, 3) := by decide +kernel
theorem dX8_remove_49 : decode cX8_remove 49 = .ok (.iload_n 2, 1) := by decide +kernel
theorem dX8_remove_50 : decode cX8_remove 50 = .ok (.iconst 1, 1) := by decide +kernel
theorem dX8_remove_51 : decode cX8_remove 51 = .ok (.iadd, 1) := by decide +kernel
theorem dX8_remove_52 : decode cX8_remove 52 = .ok (.iaload, 1) := by decide +kernel
theorem dX8_remove_53 : decode cX8_remove 53 = .ok (.iastore, 1) := by decide +kernel
theorem dX8_remove_54 : decode cX8_remove 54 = .ok (.iinc 2 1, 3) := by decide +kernel
theorem dX8_remove_57 : decode cX8_remove 57 = .ok (.goto (-55), 3) := by decide +kernel
theorem dX8_remove_60 : decode cX8_remove 60 = .ok (.aload_n 0, 1) := by decide +kernel
theorem dX8_remove_61 : decode cX8_remove 61 = .ok (.dup, 1) := by decide +kernel
theorem dX8_remove_62 : decode cX8_remove 62 = .ok (.getfield 21, 3) := by decide +kernel
theorem dX8_remove_65 : decode cX8_remove 65 = .ok (.iconst 1, 1) := by decide +kernel
theorem dX8_remove_66 : decode cX8_remove 66 = .ok (.isub, 1) := by decide +kernel
theorem dX8_remove_67 : decode cX8_remove 67 = .ok (.putfield 21, 3) := by decide +kernel
theorem dX8_remove_70 : decode cX8_remove 70 = .ok (.return_, 1) := by decide +kernel
theorem dX8_hasTwoCounts_0 : decode cX8_hasTwoCounts 0 = .ok (.iconst 1, 1) := by decide +kernel
theorem dX8_hasTwoCounts_1 : decode cX8_hasTwoCounts 1 = .ok (.istore_n 1, 1) := by decide +kernel
theorem dX8_hasTwoCounts_2 : decode cX8_hasTwoCounts 2 = .ok (.iload_n 1, 1) := by decide +kernel
theorem dX8_hasTwoCounts_3 : decode cX8_hasTwoCounts 3 = .ok (.aload_n 0, 1) := by decide +kernel
theorem dX8_hasTwoCounts_4 : decode cX8_hasTwoCounts 4 = .ok (.getfield 21, 3) := by decide +kernel
theorem dX8_hasTwoCounts_7 : decode cX8_hasTwoCounts 7 = .ok (.if_icmp .ge 26, 3) := by decide +kernel
theorem dX8_hasTwoCounts_10 : decode cX8_hasTwoCounts 10 = .ok (.aload_n 0, 1) := by decide +kernel
theorem dX8_hasTwoCounts_11 : decode cX8_hasTwoCounts 11 = .ok (.getfield 9, 3) := by decide +kernel
theorem dX8_hasTwoCounts_14 : decode cX8_hasTwoCounts 14 = .ok (.iload_n 1, 1) := by decide +kernel
theorem dX8_hasTwoCounts_15 : decode cX8_hasTwoCounts 15 = .ok (.iaload, 1) := by decide +kernel
theorem dX8_hasTwoCounts_16 : decode cX8_hasTwoCounts 16 = .ok (.aload_n 0, 1) := by decide +kernel
theorem dX8_hasTwoCounts_17 : decode cX8_hasTwoCounts 17 = .ok (.getfield 9, 3) := by decide +kernel
theorem dX8_hasTwoCounts_20 : decode cX8_hasTwoCounts 20 = .ok (.iconst 0, 1) := by decide +kernel
theorem dX8_hasTwoCounts_21 : decode cX8_hasTwoCounts 21 = .ok (.iaload, 1) := by decide +kernel
theorem dX8_hasTwoCounts_22 : decode cX8_hasTwoCounts 22 = .ok (.if_icmp .eq 5, 3) := by decide +kernel
theorem dX8_hasTwoCounts_25 : decode cX8_hasTwoCounts 25 = .ok (.iconst 1, 1) := by decide +kernel
theorem dX8_hasTwoCounts_26 : decode cX8_hasTwoCounts 26 = .ok (.ireturn, 1) := by decide +kernel
theorem dX8_hasTwoCounts_27 : decode cX8_hasTwoCounts 27 = .ok (.iinc 1 1, 3) := by decide +kernel
theorem dX8_hasTwoCounts_30 : decode cX8_hasTwoCounts 30 = .ok (.goto (-28), 3) := by decide +kernel
theorem dX8_hasTwoCounts_33 : decode cX8_hasTwoCounts 33 = .ok (.iconst 0, 1) := by decide +kernel
theorem dX8_hasTwoCounts_34 : decode cX8_hasTwoCounts 34 = .ok (.ireturn, 1) := by decide +kernel
theorem dX8_fitted_0 : decode cX8_fitted 0 = .ok (.lconst 0, 1) := by decide +kernel
theorem dX8_fitted_1 : decode cX8_fitted 1 = .ok (.lstore_n 1, 1) := by decide +kernel
theorem dX8_fitted_2 : decode cX8_fitted 2 = .ok (.lconst 0, 1) := by decide +kernel
theorem dX8_fitted_3 : decode cX8_fitted 3 = .ok (.lstore_n 3, 1) := by decide +kernel
theorem dX8_fitted_4 : decode cX8_fitted 4 = .ok (.lconst 0, 1) := by decide +kernel
theorem dX8_fitted_5 : decode cX8_fitted 5 = .ok (.lstore 5, 2) := by decide +kernel
theorem dX8_fitted_7 : decode cX8_fitted 7 = .ok (.lconst 0, 1) := by decide +kernel
theorem dX8_fitted_8 : decode cX8_fitted 8 = .ok (.lstore 7, 2) := by decide +kernel
theorem dX8_fitted_10 : decode cX8_fitted 10 = .ok (.lconst 0, 1) := by decide +kernel
theorem dX8_fitted_11 : decode cX8_fitted 11 = .ok (.lstore 9, 2) := by decide +kernel
theorem dX8_fitted_13 : decode cX8_fitted 13 = .ok (.iconst 0, 1) := by decide +kernel
theorem dX8_fitted_14 : decode cX8_fitted 14 = .ok (.istore 11, 2) := by decide +kernel
theorem dX8_fitted_16 : decode cX8_fitted 16 = .ok (.iload 11, 2) := by decide +kernel
theorem dX8_fitted_18 : decode cX8_fitted 18 = .ok (.aload_n 0, 1) := by decide +kernel
theorem dX8_fitted_19 : decode cX8_fitted 19 = .ok (.getfield 21, 3) := by decide +kernel
theorem dX8_fitted_22 : decode cX8_fitted 22 = .ok (.if_icmp .ge 90, 3) := by decide +kernel
theorem dX8_fitted_25 : decode cX8_fitted 25 = .ok (.aload_n 0, 1) := by decide +kernel
theorem dX8_fitted_26 : decode cX8_fitted 26 = .ok (.getfield 18, 3) := by decide +kernel
theorem dX8_fitted_29 : decode cX8_fitted 29 = .ok (.iload 11, 2) := by decide +kernel
theorem dX8_fitted_31 : decode cX8_fitted 31 = .ok (.iaload, 1) := by decide +kernel
theorem dX8_fitted_32 : decode cX8_fitted 32 = .ok (.i2l, 1) := by decide +kernel
theorem dX8_fitted_33 : decode cX8_fitted 33 = .ok (.lstore 12, 2) := by decide +kernel
theorem dX8_fitted_35 : decode cX8_fitted 35 = .ok (.aload_n 0, 1) := by decide +kernel
theorem dX8_fitted_36 : decode cX8_fitted 36 = .ok (.getfield 9, 3) := by decide +kernel
theorem dX8_fitted_39 : decode cX8_fitted 39 = .ok (.iload 11, 2) := by decide +kernel
theorem dX8_fitted_41 : decode cX8_fitted 41 = .ok (.iaload, 1) := by decide +kernel
theorem dX8_fitted_42 : decode cX8_fitted 42 = .ok (.i2l, 1) := by decide +kernel
theorem dX8_fitted_43 : decode cX8_fitted 43 = .ok (.lstore 14, 2) := by decide +kernel
theorem dX8_fitted_45 : decode cX8_fitted 45 = .ok (.lload_n 1, 1) := by decide +kernel
theorem dX8_fitted_46 : decode cX8_fitted 46 = .ok (.lload 12, 2) := by decide +kernel
theorem dX8_fitted_48 : decode cX8_fitted 48 = .ok (.ladd, 1) := by decide +kernel
theorem dX8_fitted_49 : decode cX8_fitted 49 = .ok (.lstore_n 1, 1) := by decide +kernel
theorem dX8_fitted_50 : decode cX8_fitted 50 = .ok (.lload_n 3, 1) := by decide +kernel
theorem dX8_fitted_51 : decode cX8_fitted 51 = .ok (.lload 12, 2) := by decide +kernel
theorem dX8_fitted_53 : decode cX8_fitted 53 = .ok (.lload 14, 2) := by decide +kernel
theorem dX8_fitted_55 : decode cX8_fitted 55 = .ok (.lmul, 1) := by decide +kernel
theorem dX8_fitted_56 : decode cX8_fitted 56 = .ok (.ladd, 1) := by decide +kernel
theorem dX8_fitted_57 : decode cX8_fitted 57 = .ok (.lstore_n 3, 1) := by decide +kernel
theorem dX8_fitted_58 : decode cX8_fitted 58 = .ok (.lload 5, 2) := by decide +kernel
theorem dX8_fitted_60 : decode cX8_fitted 60 = .ok (.lload 12, 2) := by decide +kernel
theorem dX8_fitted_62 : decode cX8_fitted 62 = .ok (.lload 14, 2) := by decide +kernel
theorem dX8_fitted_64 : decode cX8_fitted 64 = .ok (.lmul, 1) := by decide +kernel
theorem dX8_fitted_65 : decode cX8_fitted 65 = .ok (.lload 14, 2) := by decide +kernel
theorem dX8_fitted_67 : decode cX8_fitted 67 = .ok (.lmul, 1) := by decide +kernel
theorem dX8_fitted_68 : decode cX8_fitted 68 = .ok (.ladd, 1) := by decide +kernel
theorem dX8_fitted_69 : decode cX8_fitted 69 = .ok (.lstore 5, 2) := by decide +kernel
theorem dX8_fitted_71 : decode cX8_fitted 71 = .ok (.lload 7, 2) := by decide +kernel
theorem dX8_fitted_73 : decode cX8_fitted 73 = .ok (.lload 12, 2) := by decide +kernel
theorem dX8_fitted_75 : decode cX8_fitted 75 = .ok (.aload_n 0, 1) := by decide +kernel
theorem dX8_fitted_76 : decode cX8_fitted 76 = .ok (.getfield 15, 3) := by decide +kernel
theorem dX8_fitted_79 : decode cX8_fitted 79 = .ok (.iload 11, 2) := by decide +kernel
theorem dX8_fitted_81 : decode cX8_fitted 81 = .ok (.iaload, 1) := by decide +kernel
theorem dX8_fitted_82 : decode cX8_fitted 82 = .ok (.i2l, 1) := by decide +kernel
theorem dX8_fitted_83 : decode cX8_fitted 83 = .ok (.lmul, 1) := by decide +kernel
theorem dX8_fitted_84 : decode cX8_fitted 84 = .ok (.ladd, 1) := by decide +kernel
theorem dX8_fitted_85 : decode cX8_fitted 85 = .ok (.lstore 7, 2) := by decide +kernel
theorem dX8_fitted_87 : decode cX8_fitted 87 = .ok (.lload 9, 2) := by decide +kernel
theorem dX8_fitted_89 : decode cX8_fitted 89 = .ok (.lload 12, 2) := by decide +kernel
theorem dX8_fitted_91 : decode cX8_fitted 91 = .ok (.lload 14, 2) := by decide +kernel
theorem dX8_fitted_93 : decode cX8_fitted 93 = .ok (.lmul, 1) := by decide +kernel
theorem dX8_fitted_94 : decode cX8_fitted 94 = .ok (.aload_n 0, 1) := by decide +kernel
theorem dX8_fitted_95 : decode cX8_fitted 95 = .ok (.getfield 15, 3) := by decide +kernel
theorem dX8_fitted_98 : decode cX8_fitted 98 = .ok (.iload 11, 2) := by decide +kernel
theorem dX8_fitted_100 : decode cX8_fitted 100 = .ok (.iaload, 1) := by decide +kernel
theorem dX8_fitted_101 : decode cX8_fitted 101 = .ok (.i2l, 1) := by decide +kernel
theorem dX8_fitted_102 : decode cX8_fitted 102 = .ok (.lmul, 1) := by decide +kernel
theorem dX8_fitted_103 : decode cX8_fitted 103 = .ok (.ladd, 1) := by decide +kernel
theorem dX8_fitted_104 : decode cX8_fitted 104 = .ok (.lstore 9, 2) := by decide +kernel
theorem dX8_fitted_106 : decode cX8_fitted 106 = .ok (.iinc 11 1, 3) := by decide +kernel
theorem dX8_fitted_109 : decode cX8_fitted 109 = .ok (.goto (-93), 3) := by decide +kernel
theorem dX8_fitted_112 : decode cX8_fitted 112 = .ok (.new 25, 3) := by decide +kernel
theorem dX8_fitted_115 : decode cX8_fitted 115 = .ok (.dup, 1) := by decide +kernel
theorem dX8_fitted_116 : decode cX8_fitted 116 = .ok (.lload 5, 2) := by decide +kernel
theorem dX8_fitted_118 : decode cX8_fitted 118 = .ok (.lload 7, 2) := by decide +kernel
theorem dX8_fitted_120 : decode cX8_fitted 120 = .ok (.lmul, 1) := by decide +kernel
theorem dX8_fitted_121 : decode cX8_fitted 121 = .ok (.lload_n 3, 1) := by decide +kernel
theorem dX8_fitted_122 : decode cX8_fitted 122 = .ok (.lload 9, 2) := by decide +kernel
theorem dX8_fitted_124 : decode cX8_fitted 124 = .ok (.lmul, 1) := by decide +kernel
theorem dX8_fitted_125 : decode cX8_fitted 125 = .ok (.lsub, 1) := by decide +kernel
theorem dX8_fitted_126 : decode cX8_fitted 126 = .ok (.lload_n 1, 1) := by decide +kernel
theorem dX8_fitted_127 : decode cX8_fitted 127 = .ok (.lload 9, 2) := by decide +kernel
theorem dX8_fitted_129 : decode cX8_fitted 129 = .ok (.lmul, 1) := by decide +kernel
theorem dX8_fitted_130 : decode cX8_fitted 130 = .ok (.lload_n 3, 1) := by decide +kernel
theorem dX8_fitted_131 : decode cX8_fitted 131 = .ok (.lload 7, 2) := by decide +kernel
theorem dX8_fitted_133 : decode cX8_fitted 133 = .ok (.lmul, 1) := by decide +kernel
theorem dX8_fitted_134 : decode cX8_fitted 134 = .ok (.lsub, 1) := by decide +kernel
theorem dX8_fitted_135 : decode cX8_fitted 135 = .ok (.lload_n 1, 1) := by decide +kernel
theorem dX8_fitted_136 : decode cX8_fitted 136 = .ok (.lload 5, 2) := by decide +kernel
