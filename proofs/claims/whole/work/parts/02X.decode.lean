theorem dX0_init_0 : decode cX0_init 0 = .ok (.aload_n 0, 1) := by decide +kernel
theorem dX0_init_1 : decode cX0_init 1 = .ok (.invokespecial 3, 3) := by decide +kernel
theorem dX0_init_4 : decode cX0_init 4 = .ok (.aload_n 0, 1) := by decide +kernel
theorem dX0_init_5 : decode cX0_init 5 = .ok (.bipush 9, 2) := by decide +kernel
theorem dX0_init_7 : decode cX0_init 7 = .ok (.newarray .int, 2) := by decide +kernel
theorem dX0_init_9 : decode cX0_init 9 = .ok (.putfield 9, 3) := by decide +kernel
theorem dX0_init_12 : decode cX0_init 12 = .ok (.aload_n 0, 1) := by decide +kernel
theorem dX0_init_13 : decode cX0_init 13 = .ok (.bipush 9, 2) := by decide +kernel
theorem dX0_init_15 : decode cX0_init 15 = .ok (.newarray .int, 2) := by decide +kernel
theorem dX0_init_17 : decode cX0_init 17 = .ok (.putfield 15, 3) := by decide +kernel
theorem dX0_init_20 : decode cX0_init 20 = .ok (.return_, 1) := by decide +kernel
theorem dX0_find_0 : decode cX0_find 0 = .ok (.aload_n 0, 1) := by decide +kernel
theorem dX0_find_1 : decode cX0_find 1 = .ok (.iconst 0, 1) := by decide +kernel
theorem dX0_find_2 : decode cX0_find 2 = .ok (.putfield 18, 3) := by decide +kernel
theorem dX0_find_5 : decode cX0_find 5 = .ok (.aload_n 1, 1) := by decide +kernel
theorem dX0_find_6 : decode cX0_find 6 = .ok (.getfield 22, 3) := by decide +kernel
theorem dX0_find_9 : decode cX0_find 9 = .ok (.iconst 0, 1) := by decide +kernel
theorem dX0_find_10 : decode cX0_find 10 = .ok (.iaload, 1) := by decide +kernel
theorem dX0_find_11 : decode cX0_find 11 = .ok (.istore_n 3, 1) := by decide +kernel
theorem dX0_find_12 : decode cX0_find 12 = .ok (.iload_n 3, 1) := by decide +kernel
theorem dX0_find_13 : decode cX0_find 13 = .ok (.ifCond .ne 15, 3) := by decide +kernel
theorem dX0_find_16 : decode cX0_find 16 = .ok (.iload_n 2, 1) := by decide +kernel
theorem dX0_find_17 : decode cX0_find 17 = .ok (.ifCond .ne 11, 3) := by decide +kernel
theorem dX0_find_20 : decode cX0_find 20 = .ok (.aload_n 0, 1) := by decide +kernel
theorem dX0_find_21 : decode cX0_find 21 = .ok (.iconst 0, 1) := by decide +kernel
theorem dX0_find_22 : decode cX0_find 22 = .ok (.sipush 999, 3) := by decide +kernel
theorem dX0_find_25 : decode cX0_find 25 = .ok (.invokevirtual 27, 3) := by decide +kernel
theorem dX0_find_28 : decode cX0_find 28 = .ok (.iconst 0, 1) := by decide +kernel
theorem dX0_find_29 : decode cX0_find 29 = .ok (.istore 4, 2) := by decide +kernel
theorem dX0_find_31 : decode cX0_find 31 = .ok (.iload 4, 2) := by decide +kernel
theorem dX0_find_33 : decode cX0_find 33 = .ok (.iload_n 3, 1) := by decide +kernel
theorem dX0_find_34 : decode cX0_find 34 = .ok (.if_icmp .gt 113, 3) := by decide +kernel
theorem dX0_find_37 : decode cX0_find 37 = .ok (.iload_n 3, 1) := by decide +kernel
theorem dX0_find_38 : decode cX0_find 38 = .ok (.ifCond .le 109, 3) := by decide +kernel
theorem dX0_find_41 : decode cX0_find 41 = .ok (.aload_n 0, 1) := by decide +kernel
theorem dX0_find_42 : decode cX0_find 42 = .ok (.iload 4, 2) := by decide +kernel
theorem dX0_find_44 : decode cX0_find 44 = .ok (.ifCond .ne 7, 3) := by decide +kernel
theorem dX0_find_47 : decode cX0_find 47 = .ok (.lconst 0, 1) := by decide +kernel
theorem dX0_find_48 : decode cX0_find 48 = .ok (.goto 14, 3) := by decide +kernel
theorem dX0_find_51 : decode cX0_find 51 = .ok (.aload_n 1, 1) := by decide +kernel
theorem dX0_find_52 : decode cX0_find 52 = .ok (.iconst 0, 1) := by decide +kernel
theorem dX0_find_53 : decode cX0_find 53 = .ok (.iload 4, 2) := by decide +kernel
theorem dX0_find_55 : decode cX0_find 55 = .ok (.iconst 1, 1) := by decide +kernel
theorem dX0_find_56 : decode cX0_find 56 = .ok (.isub, 1) := by decide +kernel
theorem dX0_find_57 : decode cX0_find 57 = .ok (.iconst 0, 1) := by decide +kernel
theorem dX0_find_58 : decode cX0_find 58 = .ok (.invokevirtual 31, 3) := by decide +kernel
theorem dX0_find_61 : decode cX0_find 61 = .ok (.i2l, 1) := by decide +kernel
theorem dX0_find_62 : decode cX0_find 62 = .ok (.putfield 35, 3) := by decide +kernel
theorem dX0_find_65 : decode cX0_find 65 = .ok (.aload_n 0, 1) := by decide +kernel
theorem dX0_find_66 : decode cX0_find 66 = .ok (.iload 4, 2) := by decide +kernel
theorem dX0_find_68 : decode cX0_find 68 = .ok (.iload_n 3, 1) := by decide +kernel
theorem dX0_find_69 : decode cX0_find 69 = .ok (.if_icmp .ne 9, 3) := by decide +kernel
theorem dX0_find_72 : decode cX0_find 72 = .ok (.ldc2_w 39, 3) := by decide +kernel
theorem dX0_find_75 : decode cX0_find 75 = .ok (.goto 14, 3) := by decide +kernel
theorem dX0_find_78 : decode cX0_find 78 = .ok (.aload_n 1, 1) := by decide +kernel
theorem dX0_find_79 : decode cX0_find 79 = .ok (.iconst 0, 1) := by decide +kernel
theorem dX0_find_80 : decode cX0_find 80 = .ok (.iload 4, 2) := by decide +kernel
theorem dX0_find_82 : decode cX0_find 82 = .ok (.iconst 0, 1) := by decide +kernel
theorem dX0_find_83 : decode cX0_find 83 = .ok (.invokevirtual 31, 3) := by decide +kernel
theorem dX0_find_86 : decode cX0_find 86 = .ok (.iconst 1, 1) := by decide +kernel
theorem dX0_find_87 : decode cX0_find 87 = .ok (.isub, 1) := by decide +kernel
theorem dX0_find_88 : decode cX0_find 88 = .ok (.i2l, 1) := by decide +kernel
theorem dX0_find_89 : decode cX0_find 89 = .ok (.putfield 41, 3) := by decide +kernel
theorem dX0_find_92 : decode cX0_find 92 = .ok (.aload_n 0, 1) := by decide +kernel
theorem dX0_find_93 : decode cX0_find 93 = .ok (.aload_n 1, 1) := by decide +kernel
theorem dX0_find_94 : decode cX0_find 94 = .ok (.iload 4, 2) := by decide +kernel
theorem dX0_find_96 : decode cX0_find 96 = .ok (.iconst 1, 1) := by decide +kernel
theorem dX0_find_97 : decode cX0_find 97 = .ok (.isub, 1) := by decide +kernel
theorem dX0_find_98 : decode cX0_find 98 = .ok (.iconst 0, 1) := by decide +kernel
theorem dX0_find_99 : decode cX0_find 99 = .ok (.invokestatic 44, 3) := by decide +kernel
theorem dX0_find_102 : decode cX0_find 102 = .ok (.iload 4, 2) := by decide +kernel
theorem dX0_find_104 : decode cX0_find 104 = .ok (.iload_n 3, 1) := by decide +kernel
theorem dX0_find_105 : decode cX0_find 105 = .ok (.iconst 1, 1) := by decide +kernel
theorem dX0_find_106 : decode cX0_find 106 = .ok (.isub, 1) := by decide +kernel
theorem dX0_find_107 : decode cX0_find 107 = .ok (.invokestatic 50, 3) := by decide +kernel
theorem dX0_find_110 : decode cX0_find 110 = .ok (.iload_n 2, 1) := by decide +kernel
theorem dX0_find_111 : decode cX0_find 111 = .ok (.i2l, 1) := by decide +kernel
theorem dX0_find_112 : decode cX0_find 112 = .ok (.invokevirtual 53, 3) := by decide +kernel
theorem dX0_find_115 : decode cX0_find 115 = .ok (.aload_n 0, 1) := by decide +kernel
theorem dX0_find_116 : decode cX0_find 116 = .ok (.getfield 35, 3) := by decide +kernel
theorem dX0_find_119 : decode cX0_find 119 = .ok (.aload_n 0, 1) := by decide +kernel
theorem dX0_find_120 : decode cX0_find 120 = .ok (.getfield 41, 3) := by decide +kernel
theorem dX0_find_123 : decode cX0_find 123 = .ok (.lcmp, 1) := by decide +kernel
theorem dX0_find_124 : decode cX0_find 124 = .ok (.ifCond .gt 17, 3) := by decide +kernel
theorem dX0_find_127 : decode cX0_find 127 = .ok (.aload_n 0, 1) := by decide +kernel
theorem dX0_find_128 : decode cX0_find 128 = .ok (.aload_n 0, 1) := by decide +kernel
theorem dX0_find_129 : decode cX0_find 129 = .ok (.getfield 35, 3) := by decide +kernel
theorem dX0_find_132 : decode cX0_find 132 = .ok (.l2i, 1) := by decide +kernel
theorem dX0_find_133 : decode cX0_find 133 = .ok (.aload_n 0, 1) := by decide +kernel
theorem dX0_find_134 : decode cX0_find 134 = .ok (.getfield 41, 3) := by decide +kernel
theorem dX0_find_137 : decode cX0_find 137 = .ok (.l2i, 1) := by decide +kernel
theorem dX0_find_138 : decode cX0_find 138 = .ok (.invokevirtual 27, 3) := by decide +kernel
theorem dX0_find_141 : decode cX0_find 141 = .ok (.iinc 4 1, 3) := by decide +kernel
theorem dX0_find_144 : decode cX0_find 144 = .ok (.goto (-113), 3) := by decide +kernel
theorem dX0_find_147 : decode cX0_find 147 = .ok (.return_, 1) := by decide +kernel
theorem dX0_narrowToNeed_0 : decode cX0_narrowToNeed 0 = .ok (.aload_n 1, 1) := by decide +kernel
theorem dX0_narrowToNeed_1 : decode cX0_narrowToNeed 1 = .ok (.iconst 0, 1) := by decide +kernel
theorem dX0_narrowToNeed_2 : decode cX0_narrowToNeed 2 = .ok (.iload_n 2, 1) := by decide +kernel
theorem dX0_narrowToNeed_3 : decode cX0_narrowToNeed 3 = .ok (.iconst 0, 1) := by decide +kernel
theorem dX0_narrowToNeed_4 : decode cX0_narrowToNeed 4 = .ok (.invokevirtual 31, 3) := by decide +kernel
theorem dX0_narrowToNeed_7 : decode cX0_narrowToNeed 7 = .ok (.istore 6, 2) := by decide +kernel
theorem dX0_narrowToNeed_9 : decode cX0_narrowToNeed 9 = .ok (.aload_n 1, 1) := by decide +kernel
theorem dX0_narrowToNeed_10 : decode cX0_narrowToNeed 10 = .ok (.iconst 0, 1) := by decide +kernel
theorem dX0_narrowToNeed_11 : decode cX0_narrowToNeed 11 = .ok (.iload_n 3, 1) := by decide +kernel
theorem dX0_narrowToNeed_12 : decode cX0_narrowToNeed 12 = .ok (.iconst 0, 1) := by decide +kernel
theorem dX0_narrowToNeed_13 : decode cX0_narrowToNeed 13 = .ok (.invokevirtual 31, 3) := by decide +kernel
theorem dX0_narrowToNeed_16 : decode cX0_narrowToNeed 16 = .ok (.iload 6, 2) := by decide +kernel
theorem dX0_narrowToNeed_18 : decode cX0_narrowToNeed 18 = .ok (.isub, 1) := by decide +kernel
theorem dX0_narrowToNeed_19 : decode cX0_narrowToNeed 19 = .ok (.iconst 1, 1) := by decide +kernel
theorem dX0_narrowToNeed_20 : decode cX0_narrowToNeed 20 = .ok (.invokestatic 44, 3) := by decide +kernel
theorem dX0_narrowToNeed_23 : decode cX0_narrowToNeed 23 = .ok (.i2l, 1) := by decide +kernel
theorem dX0_narrowToNeed_24 : decode cX0_narrowToNeed 24 = .ok (.lstore 7, 2) := by decide +kernel
theorem dX0_narrowToNeed_26 : decode cX0_narrowToNeed 26 = .ok (.aload_n 1, 1) := by decide +kernel
theorem dX0_narrowToNeed_27 : decode cX0_narrowToNeed 27 = .ok (.iconst 0, 1) := by decide +kernel
theorem dX0_narrowToNeed_28 : decode cX0_narrowToNeed 28 = .ok (.iload_n 2, 1) := by decide +kernel
theorem dX0_narrowToNeed_29 : decode cX0_narrowToNeed 29 = .ok (.iconst 1, 1) := by decide +kernel
theorem dX0_narrowToNeed_30 : decode cX0_narrowToNeed 30 = .ok (.invokevirtual 31, 3) := by decide +kernel
theorem dX0_narrowToNeed_33 : decode cX0_narrowToNeed 33 = .ok (.istore 9, 2) := by decide +kernel
theorem dX0_narrowToNeed_35 : decode cX0_narrowToNeed 35 = .ok (.aload_n 1, 1) := by decide +kernel
theorem dX0_narrowToNeed_36 : decode cX0_narrowToNeed 36 = .ok (.iconst 0, 1) := by decide +kernel
theorem dX0_narrowToNeed_37 : decode cX0_narrowToNeed 37 = .ok (.iload_n 2, 1) := by decide +kernel
theorem dX0_narrowToNeed_38 : decode cX0_narrowToNeed 38 = .ok (.iconst 2, 1) := by decide +kernel
theorem dX0_narrowToNeed_39 : decode cX0_narrowToNeed 39 = .ok (.invokevirtual 31, 3) := by decide +kernel
theorem dX0_narrowToNeed_42 : decode cX0_narrowToNeed 42 = .ok (.istore 10, 2) := by decide +kernel
theorem dX0_narrowToNeed_44 : decode cX0_narrowToNeed 44 = .ok (.aload_n 0, 1) := by decide +kernel
theorem dX0_narrowToNeed_45 : decode cX0_narrowToNeed 45 = .ok (.iload 6, 2) := by decide +kernel
theorem dX0_narrowToNeed_47 : decode cX0_narrowToNeed 47 = .ok (.aload_n 1, 1) := by decide +kernel
theorem dX0_narrowToNeed_48 : decode cX0_narrowToNeed 48 = .ok (.iconst 0, 1) := by decide +kernel
theorem dX0_narrowToNeed_49 : decode cX0_narrowToNeed 49 = .ok (.iload_n 3, 1) := by decide +kernel
theorem dX0_narrowToNeed_50 : decode cX0_narrowToNeed 50 = .ok (.iconst 1, 1) := by decide +kernel
theorem dX0_narrowToNeed_51 : decode cX0_narrowToNeed 51 = .ok (.invokevirtual 31, 3) := by decide +kernel
theorem dX0_narrowToNeed_54 : decode cX0_narrowToNeed 54 = .ok (.iload 9, 2) := by decide +kernel
theorem dX0_narrowToNeed_56 : decode cX0_narrowToNeed 56 = .ok (.isub, 1) := by decide +kernel
theorem dX0_narrowToNeed_57 : decode cX0_narrowToNeed 57 = .ok (.lload 4, 2) := by decide +kernel
theorem dX0_narrowToNeed_59 : decode cX0_narrowToNeed 59 = .ok (.lconst 1, 1) := by decide +kernel
theorem dX0_narrowToNeed_60 : decode cX0_narrowToNeed 60 = .ok (.ladd, 1) := by decide +kernel
theorem dX0_narrowToNeed_61 : decode cX0_narrowToNeed 61 = .ok (.iload 9, 2) := by decide +kernel
theorem dX0_narrowToNeed_63 : decode cX0_narrowToNeed 63 = .ok (.i2l, 1) := by decide +kernel
theorem dX0_narrowToNeed_64 : decode cX0_narrowToNeed 64 = .ok (.lsub, 1) := by decide +kernel
theorem dX0_narrowToNeed_65 : decode cX0_narrowToNeed 65 = .ok (.lload 7, 2) := by decide +kernel
theorem dX0_narrowToNeed_67 : decode cX0_narrowToNeed 67 = .ok (.lmul, 1) := by decide +kernel
theorem dX0_narrowToNeed_68 : decode cX0_narrowToNeed 68 = .ok (.invokevirtual 57, 3) := by decide +kernel
theorem dX0_narrowToNeed_71 : decode cX0_narrowToNeed 71 = .ok (.aload_n 0, 1) := by decide +kernel
theorem dX0_narrowToNeed_72 : decode cX0_narrowToNeed 72 = .ok (.iload 6, 2) := by decide +kernel
theorem dX0_narrowToNeed_74 : decode cX0_narrowToNeed 74 = .ok (.iload 10, 2) := by decide +kernel
theorem dX0_narrowToNeed_76 : decode cX0_narrowToNeed 76 = .ok (.aload_n 1, 1) := by decide +kernel
theorem dX0_narrowToNeed_77 : decode cX0_narrowToNeed 77 = .ok (.iconst 0, 1) := by decide +kernel
theorem dX0_narrowToNeed_78 : decode cX0_narrowToNeed 78 = .ok (.iload_n 3, 1) := by decide +kernel
theorem dX0_narrowToNeed_79 : decode cX0_narrowToNeed 79 = .ok (.iconst 2, 1) := by decide +kernel
theorem dX0_narrowToNeed_80 : decode cX0_narrowToNeed 80 = .ok (.invokevirtual 31, 3) := by decide +kernel
theorem dX0_narrowToNeed_83 : decode cX0_narrowToNeed 83 = .ok (.isub, 1) := by decide +kernel
theorem dX0_narrowToNeed_84 : decode cX0_narrowToNeed 84 = .ok (.iload 10, 2) := by decide +kernel
theorem dX0_narrowToNeed_86 : decode cX0_narrowToNeed 86 = .ok (.iconst 1, 1) := by decide +kernel
theorem dX0_narrowToNeed_87 : decode cX0_narrowToNeed 87 = .ok (.iadd, 1) := by decide +kernel
theorem dX0_narrowToNeed_88 : decode cX0_narrowToNeed 88 = .ok (.i2l, 1) := by decide +kernel
theorem dX0_narrowToNeed_89 : decode cX0_narrowToNeed 89 = .ok (.lload 4, 2) := by decide +kernel
theorem dX0_narrowToNeed_91 : decode cX0_narrowToNeed 91 = .ok (.lsub, 1) := by decide +kernel
theorem dX0_narrowToNeed_92 : decode cX0_narrowToNeed 92 = .ok (.lload 7, 2) := by decide +kernel
theorem dX0_narrowToNeed_94 : decode cX0_narrowToNeed 94 = .ok (.lmul, 1) := by decide +kernel
theorem dX0_narrowToNeed_95 : decode cX0_narrowToNeed 95 = .ok (.invokevirtual 57, 3) := by decide +kernel
theorem dX0_narrowToNeed_98 : decode cX0_narrowToNeed 98 = .ok (.return_, 1) := by decide +kernel
theorem dX0_narrow_0 : decode cX0_narrow 0 = .ok (.iload_n 2, 1) := by decide +kernel
theorem dX0_narrow_1 : decode cX0_narrow 1 = .ok (.ifCond .le 28, 3) := by decide +kernel
theorem dX0_narrow_4 : decode cX0_narrow 4 = .ok (.aload_n 0, 1) := by decide +kernel
theorem dX0_narrow_5 : decode cX0_narrow 5 = .ok (.aload_n 0, 1) := by decide +kernel
theorem dX0_narrow_6 : decode cX0_narrow 6 = .ok (.getfield 41, 3) := by decide +kernel
theorem dX0_narrow_9 : decode cX0_narrow 9 = .ok (.iload_n 1, 1) := by decide +kernel
theorem dX0_narrow_10 : decode cX0_narrow 10 = .ok (.i2l, 1) := by decide +kernel
theorem dX0_narrow_11 : decode cX0_narrow 11 = .ok (.lload_n 3, 1) := by decide +kernel
theorem dX0_narrow_12 : decode cX0_narrow 12 = .ok (.lconst 1, 1) := by decide +kernel
theorem dX0_narrow_13 : decode cX0_narrow 13 = .ok (.lsub, 1) := by decide +kernel
theorem dX0_narrow_14 : decode cX0_narrow 14 = .ok (.iload_n 2, 1) := by decide +kernel
theorem dX0_narrow_15 : decode cX0_narrow 15 = .ok (.i2l, 1) := by decide +kernel
theorem dX0_narrow_16 : decode cX0_narrow 16 = .ok (.invokestatic 61, 3) := by decide +kernel
theorem dX0_narrow_19 : decode cX0_narrow 19 = .ok (.ladd, 1) := by decide +kernel
theorem dX0_narrow_20 : decode cX0_narrow 20 = .ok (.invokestatic 65, 3) := by decide +kernel
theorem dX0_narrow_23 : decode cX0_narrow 23 = .ok (.putfield 41, 3) := by decide +kernel
theorem dX0_narrow_26 : decode cX0_narrow 26 = .ok (.goto 50, 3) := by decide +kernel
theorem dX0_narrow_29 : decode cX0_narrow 29 = .ok (.iload_n 2, 1) := by decide +kernel
theorem dX0_narrow_30 : decode cX0_narrow 30 = .ok (.ifCond .ge 30, 3) := by decide +kernel
theorem dX0_narrow_33 : decode cX0_narrow 33 = .ok (.aload_n 0, 1) := by decide +kernel
theorem dX0_narrow_34 : decode cX0_narrow 34 = .ok (.aload_n 0, 1) := by decide +kernel
theorem dX0_narrow_35 : decode cX0_narrow 35 = .ok (.getfield 35, 3) := by decide +kernel
theorem dX0_narrow_38 : decode cX0_narrow 38 = .ok (.iload_n 1, 1) := by decide +kernel
theorem dX0_narrow_39 : decode cX0_narrow 39 = .ok (.i2l, 1) := by decide +kernel
theorem dX0_narrow_40 : decode cX0_narrow 40 = .ok (.lload_n 3, 1) := by decide +kernel
theorem dX0_narrow_41 : decode cX0_narrow 41 = .ok (.lneg, 1) := by decide +kernel
theorem dX0_narrow_42 : decode cX0_narrow 42 = .ok (.iload_n 2, 1) := by decide +kernel
theorem dX0_narrow_43 : decode cX0_narrow 43 = .ok (.i2l, 1) := by decide +kernel
theorem dX0_narrow_44 : decode cX0_narrow 44 = .ok (.lneg, 1) := by decide +kernel
theorem dX0_narrow_45 : decode cX0_narrow 45 = .ok (.invokestatic 61, 3) := by decide +kernel
theorem dX0_narrow_48 : decode cX0_narrow 48 = .ok (.ladd, 1) := by decide +kernel
theorem dX0_narrow_49 : decode cX0_narrow 49 = .ok (.lconst 1, 1) := by decide +kernel
theorem dX0_narrow_50 : decode cX0_narrow 50 = .ok (.ladd, 1) := by decide +kernel
theorem dX0_narrow_51 : decode cX0_narrow 51 = .ok (.invokestatic 67, 3) := by decide +kernel
theorem dX0_narrow_54 : decode cX0_narrow 54 = .ok (.putfield 35, 3) := by decide +kernel
theorem dX0_narrow_57 : decode cX0_narrow 57 = .ok (.goto 19, 3) := by decide +kernel
theorem dX0_narrow_60 : decode cX0_narrow 60 = .ok (.lload_n 3, 1) := by decide +kernel
theorem dX0_narrow_61 : decode cX0_narrow 61 = .ok (.lconst 0, 1) := by decide +kernel
theorem dX0_narrow_62 : decode cX0_narrow 62 = .ok (.lcmp, 1) := by decide +kernel
theorem dX0_narrow_63 : decode cX0_narrow 63 = .ok (.ifCond .gt 13, 3) := by decide +kernel
theorem dX0_narrow_66 : decode cX0_narrow 66 = .ok (.aload_n 0, 1) := by decide +kernel
theorem dX0_narrow_67 : decode cX0_narrow 67 = .ok (.aload_n 0, 1) := by decide +kernel
theorem dX0_narrow_68 : decode cX0_narrow 68 = .ok (.getfield 35, 3) := by decide +kernel
theorem dX0_narrow_71 : decode cX0_narrow 71 = .ok (.lconst 1, 1) := by decide +kernel
theorem dX0_narrow_72 : decode cX0_narrow 72 = .ok (.lsub, 1) := by decide +kernel
theorem dX0_narrow_73 : decode cX0_narrow 73 = .ok (.putfield 41, 3) := by decide +kernel
theorem dX0_narrow_76 : decode cX0_narrow 76 = .ok (.return_, 1) := by decide +kernel
theorem dX0_keep_0 : decode cX0_keep 0 = .ok (.aload_n 0, 1) := by decide +kernel
theorem dX0_keep_1 : decode cX0_keep 1 = .ok (.getfield 18, 3) := by decide +kernel
theorem dX0_keep_4 : decode cX0_keep 4 = .ok (.ifCond .le 35, 3) := by decide +kernel
theorem dX0_keep_7 : decode cX0_keep 7 = .ok (.aload_n 0, 1) := by decide +kernel
theorem dX0_keep_8 : decode cX0_keep 8 = .ok (.getfield 15, 3) := by decide +kernel
theorem dX0_keep_11 : decode cX0_keep 11 = .ok (.aload_n 0, 1) := by decide +kernel
theorem dX0_keep_12 : decode cX0_keep 12 = .ok (.getfield 18, 3) := by decide +kernel
theorem dX0_keep_15 : decode cX0_keep 15 = .ok (.iconst 1, 1) := by decide +kernel
theorem dX0_keep_16 : decode cX0_keep 16 = .ok (.isub, 1) := by decide +kernel
theorem dX0_keep_17 : decode cX0_keep 17 = .ok (.iaload, 1) := by decide +kernel
theorem dX0_keep_18 : decode cX0_keep 18 = .ok (.iconst 1, 1) := by decide +kernel
theorem dX0_keep_19 : decode cX0_keep 19 = .ok (.iadd, 1) := by decide +kernel
theorem dX0_keep_20 : decode cX0_keep 20 = .ok (.iload_n 1, 1) := by decide +kernel
theorem dX0_keep_21 : decode cX0_keep 21 = .ok (.if_icmp .ne 18, 3) := by decide +kernel
theorem dX0_keep_24 : decode cX0_keep 24 = .ok (.aload_n 0, 1) := by decide +kernel
theorem dX0_keep_25 : decode cX0_keep 25 = .ok (.getfield 15, 3) := by decide +kernel
theorem dX0_keep_28 : decode cX0_keep 28 = .ok (.aload_n 0, 1) := by decide +kernel
theorem dX0_keep_29 : decode cX0_keep 29 = .ok (.getfield 18, 3) := by decide +kernel
theorem dX0_keep_32 : decode cX0_keep 32 = .ok (.iconst 1, 1) := by decide +kernel
theorem dX0_keep_33 : decode cX0_keep 33 = .ok (.isub, 1) := by decide +kernel
theorem dX0_keep_34 : decode cX0_keep 34 = .ok (.iload_n 2, 1) := by decide +kernel
theorem dX0_keep_35 : decode cX0_keep 35 = .ok (.iastore, 1) := by decide +kernel
theorem dX0_keep_36 : decode cX0_keep 36 = .ok (.goto 45, 3) := by decide +kernel
theorem dX0_keep_39 : decode cX0_keep 39 = .ok (.aload_n 0, 1) := by decide +kernel
theorem dX0_keep_40 : decode cX0_keep 40 = .ok (.getfield 18, 3) := by decide +kernel
theorem dX0_keep_43 : decode cX0_keep 43 = .ok (.aload_n 0, 1) := by decide +kernel
theorem dX0_keep_44 : decode cX0_keep 44 = .ok (.getfield 9, 3) := by decide +kernel
theorem dX0_keep_47 : decode cX0_keep 47 = .ok (.arraylength, 1) := by decide +kernel
theorem dX0_keep_48 : decode cX0_keep 48 = .ok (.if_icmp .ge 33, 3) := by decide +kernel
theorem dX0_keep_51 : decode cX0_keep 51 = .ok (.aload_n 0, 1) := by decide +kernel
theorem dX0_keep_52 : decode cX0_keep 52 = .ok (.getfield 9, 3) := by decide +kernel
theorem dX0_keep_55 : decode cX0_keep 55 = .ok (.aload_n 0, 1) := by decide +kernel
theorem dX0_keep_56 : decode cX0_keep 56 = .ok (.getfield 18, 3) := by decide +kernel
theorem dX0_keep_59 : decode cX0_keep 59 = .ok (.iload_n 1, 1) := by decide +kernel
theorem dX0_keep_60 : decode cX0_keep 60 = .ok (.iastore, 1) := by decide +kernel
theorem dX0_keep_61 : decode cX0_keep 61 = .ok (.aload_n 0, 1) := by decide +kernel
theorem dX0_keep_62 : decode cX0_keep 62 = .ok (.getfield 15, 3) := by decide +kernel
theorem dX0_keep_65 : decode cX0_keep 65 = .ok (.aload_n 0, 1) := by decide +kernel
theorem dX0_keep_66 : decode cX0_keep 66 = .ok (.getfield 18, 3) := by decide +kernel
theorem dX0_keep_69 : decode cX0_keep 69 = .ok (.iload_n 2, 1) := by decide +kernel
theorem dX0_keep_70 : decode cX0_keep 70 = .ok (.iastore, 1) := by decide +kernel
theorem dX0_keep_71 : decode cX0_keep 71 = .ok (.aload_n 0, 1) := by decide +kernel
theorem dX0_keep_72 : decode cX0_keep 72 = .ok (.dup, 1) := by decide +kernel
theorem dX0_keep_73 : decode cX0_keep 73 = .ok (.getfield 18, 3) := by decide +kernel
theorem dX0_keep_76 : decode cX0_keep 76 = .ok (.iconst 1, 1) := by decide +kernel
theorem dX0_keep_77 : decode cX0_keep 77 = .ok (.iadd, 1) := by decide +kernel
theorem dX0_keep_78 : decode cX0_keep 78 = .ok (.putfield 18, 3) := by decide +kernel
theorem dX0_keep_81 : decode cX0_keep 81 = .ok (.return_, 1) := by decide +kernel
theorem dX1_init_0 : decode cX1_init 0 = .ok (.aload_n 0, 1) := by decide +kernel
theorem dX1_init_1 : decode cX1_init 1 = .ok (.invokespecial 1, 3) := by decide +kernel
theorem dX1_init_4 : decode cX1_init 4 = .ok (.aload_n 0, 1) := by decide +kernel
theorem dX1_init_5 : decode cX1_init 5 = .ok (.sipush 1000, 3) := by decide +kernel
theorem dX1_init_8 : decode cX1_init 8 = .ok (.newarray .int, 2) := by decide +kernel
theorem dX1_init_10 : decode cX1_init 10 = .ok (.putfield 9, 3) := by decide +kernel
theorem dX1_init_13 : decode cX1_init 13 = .ok (.return_, 1) := by decide +kernel
theorem dX2_init_0 : decode cX2_init 0 = .ok (.aload_n 0, 1) := by decide +kernel
theorem dX2_init_1 : decode cX2_init 1 = .ok (.invokespecial 3, 3) := by decide +kernel
theorem dX2_init_4 : decode cX2_init 4 = .ok (.aload_n 0, 1) := by decide +kernel
theorem dX2_init_5 : decode cX2_init 5 = .ok (.bipush 16, 2) := by decide +kernel
theorem dX2_init_7 : decode cX2_init 7 = .ok (.newarray .int, 2) := by decide +kernel
theorem dX2_init_9 : decode cX2_init 9 = .ok (.putfield 9, 3) := by decide +kernel
theorem dX2_init_12 : decode cX2_init 12 = .ok (.aload_n 0, 1) := by decide +kernel
theorem dX2_init_13 : decode cX2_init 13 = .ok (.bipush 16, 2) := by decide +kernel
theorem dX2_init_15 : decode cX2_init 15 = .ok (.newarray .int, 2) := by decide +kernel
theorem dX2_init_17 : decode cX2_init 17 = .ok (.putfield 15, 3) := by decide +kernel
theorem dX2_init_20 : decode cX2_init 20 = .ok (.aload_n 0, 1) := by decide +kernel
theorem dX2_init_21 : decode cX2_init 21 = .ok (.bipush 16, 2) := by decide +kernel
theorem dX2_init_23 : decode cX2_init 23 = .ok (.newarray .int, 2) := by decide +kernel
theorem dX2_init_25 : decode cX2_init 25 = .ok (.putfield 18, 3) := by decide +kernel
theorem dX2_init_28 : decode cX2_init 28 = .ok (.aload_n 0, 1) := by decide +kernel
theorem dX2_init_29 : decode cX2_init 29 = .ok (.bipush 16, 2) := by decide +kernel
theorem dX2_init_31 : decode cX2_init 31 = .ok (.newarray .int, 2) := by decide +kernel
theorem dX2_init_33 : decode cX2_init 33 = .ok (.putfield 21, 3) := by decide +kernel
theorem dX2_init_36 : decode cX2_init 36 = .ok (.aload_n 0, 1) := by decide +kernel
theorem dX2_init_37 : decode cX2_init 37 = .ok (.bipush 16, 2) := by decide +kernel
theorem dX2_init_39 : decode cX2_init 39 = .ok (.newarray .int, 2) := by decide +kernel
theorem dX2_init_41 : decode cX2_init 41 = .ok (.putfield 24, 3) := by decide +kernel
theorem dX2_init_44 : decode cX2_init 44 = .ok (.aload_n 0, 1) := by decide +kernel
theorem dX2_init_45 : decode cX2_init 45 = .ok (.bipush 16, 2) := by decide +kernel
theorem dX2_init_47 : decode cX2_init 47 = .ok (.newarray .int, 2) := by decide +kernel
theorem dX2_init_49 : decode cX2_init 49 = .ok (.putfield 27, 3) := by decide +kernel
theorem dX2_init_52 : decode cX2_init 52 = .ok (.aload_n 0, 1) := by decide +kernel
theorem dX2_init_53 : decode cX2_init 53 = .ok (.bipush 16, 2) := by decide +kernel
theorem dX2_init_55 : decode cX2_init 55 = .ok (.newarray .long, 2) := by decide +kernel
theorem dX2_init_57 : decode cX2_init 57 = .ok (.putfield 30, 3) := by decide +kernel
theorem dX2_init_60 : decode cX2_init 60 = .ok (.aload_n 0, 1) := by decide +kernel
theorem dX2_init_61 : decode cX2_init 61 = .ok (.bipush 16, 2) := by decide +kernel
theorem dX2_init_63 : decode cX2_init 63 = .ok (.newarray .long, 2) := by decide +kernel
theorem dX2_init_65 : decode cX2_init 65 = .ok (.putfield 34, 3) := by decide +kernel
theorem dX2_init_68 : decode cX2_init 68 = .ok (.aload_n 0, 1) := by decide +kernel
theorem dX2_init_69 : decode cX2_init 69 = .ok (.new 37, 3) := by decide +kernel
theorem dX2_init_72 : decode cX2_init 72 = .ok (.dup, 1) := by decide +kernel
theorem dX2_init_73 : decode cX2_init 73 = .ok (.invokespecial 39, 3) := by decide +kernel
theorem dX2_init_76 : decode cX2_init 76 = .ok (.putfield 40, 3) := by decide +kernel
theorem dX2_init_79 : decode cX2_init 79 = .ok (.return_, 1) := by decide +kernel
theorem dX2_settle_0 : decode cX2_settle 0 = .ok (.aload_n 0, 1) := by decide +kernel
theorem dX2_settle_1 : decode cX2_settle 1 = .ok (.aload_n 1, 1) := by decide +kernel
theorem dX2_settle_2 : decode cX2_settle 2 = .ok (.getfield 44, 3) := by decide +kernel
theorem dX2_settle_5 : decode cX2_settle 5 = .ok (.putfield 50, 3) := by decide +kernel
theorem dX2_settle_8 : decode cX2_settle 8 = .ok (.aload_n 0, 1) := by decide +kernel
theorem dX2_settle_9 : decode cX2_settle 9 = .ok (.aload_n 0, 1) := by decide +kernel
theorem dX2_settle_10 : decode cX2_settle 10 = .ok (.getfield 50, 3) := by decide +kernel
theorem dX2_settle_13 : decode cX2_settle 13 = .ok (.ifCond .ne 7, 3) := by decide +kernel
theorem dX2_settle_16 : decode cX2_settle 16 = .ok (.iconst 0, 1) := by decide +kernel
theorem dX2_settle_17 : decode cX2_settle 17 = .ok (.goto 4, 3) := by decide +kernel
theorem dX2_settle_20 : decode cX2_settle 20 = .ok (.iconst 2, 1) := by decide +kernel
theorem dX2_settle_21 : decode cX2_settle 21 = .ok (.putfield 51, 3) := by decide +kernel
theorem dX2_settle_24 : decode cX2_settle 24 = .ok (.iconst 0, 1) := by decide +kernel
theorem dX2_settle_25 : decode cX2_settle 25 = .ok (.istore 4, 2) := by decide +kernel
theorem dX2_settle_27 : decode cX2_settle 27 = .ok (.aload_n 0, 1) := by decide +kernel
theorem dX2_settle_28 : decode cX2_settle 28 = .ok (.getfield 50, 3) := by decide +kernel
theorem dX2_settle_31 : decode cX2_settle 31 = .ok (.iconst 1, 1) := by decide +kernel
theorem dX2_settle_32 : decode cX2_settle 32 = .ok (.isub, 1) := by decide +kernel
theorem dX2_settle_33 : decode cX2_settle 33 = .ok (.istore 5, 2) := by decide +kernel
theorem dX2_settle_35 : decode cX2_settle 35 = .ok (.iload 5, 2) := by decide +kernel
theorem dX2_settle_37 : decode cX2_settle 37 = .ok (.ifCond .lt 184, 3) := by decide +kernel
theorem dX2_settle_40 : decode cX2_settle 40 = .ok (.aload_n 0, 1) := by decide +kernel
theorem dX2_settle_41 : decode cX2_settle 41 = .ok (.getfield 9, 3) := by decide +kernel
theorem dX2_settle_44 : decode cX2_settle 44 = .ok (.iload 5, 2) := by decide +kernel
theorem dX2_settle_46 : decode cX2_settle 46 = .ok (.aload_n 1, 1) := by decide +kernel
theorem dX2_settle_47 : decode cX2_settle 47 = .ok (.iload 5, 2) := by decide +kernel
theorem dX2_settle_49 : decode cX2_settle 49 = .ok (.aload_n 2, 1) := by decide +kernel
theorem dX2_settle_50 : decode cX2_settle 50 = .ok (.invokevirtual 54, 3) := by decide +kernel
theorem dX2_settle_53 : decode cX2_settle 53 = .ok (.iastore, 1) := by decide +kernel
theorem dX2_settle_54 : decode cX2_settle 54 = .ok (.aload_n 0, 1) := by decide +kernel
theorem dX2_settle_55 : decode cX2_settle 55 = .ok (.getfield 15, 3) := by decide +kernel
theorem dX2_settle_58 : decode cX2_settle 58 = .ok (.iload 5, 2) := by decide +kernel
theorem dX2_settle_60 : decode cX2_settle 60 = .ok (.iload 4, 2) := by decide +kernel
theorem dX2_settle_62 : decode cX2_settle 62 = .ok (.aload_n 0, 1) := by decide +kernel
theorem dX2_settle_63 : decode cX2_settle 63 = .ok (.getfield 9, 3) := by decide +kernel
theorem dX2_settle_66 : decode cX2_settle 66 = .ok (.iload 5, 2) := by decide +kernel
theorem dX2_settle_68 : decode cX2_settle 68 = .ok (.iaload, 1) := by decide +kernel
theorem dX2_settle_69 : decode cX2_settle 69 = .ok (.iconst 2, 1) := by decide +kernel
theorem dX2_settle_70 : decode cX2_settle 70 = .ok (.idiv, 1) := by decide +kernel
theorem dX2_settle_71 : decode cX2_settle 71 = .ok (.iadd, 1) := by decide +kernel
theorem dX2_settle_72 : decode cX2_settle 72 = .ok (.iload_n 3, 1) := by decide +kernel
theorem dX2_settle_73 : decode cX2_settle 73 = .ok (.invokestatic 58, 3) := by decide +kernel
theorem dX2_settle_76 : decode cX2_settle 76 = .ok (.iastore, 1) := by decide +kernel
theorem dX2_settle_77 : decode cX2_settle 77 = .ok (.iload 4, 2) := by decide +kernel
theorem dX2_settle_79 : decode cX2_settle 79 = .ok (.aload_n 0, 1) := by decide +kernel
theorem dX2_settle_80 : decode cX2_settle 80 = .ok (.getfield 9, 3) := by decide +kernel
theorem dX2_settle_83 : decode cX2_settle 83 = .ok (.iload 5, 2) := by decide +kernel
theorem dX2_settle_85 : decode cX2_settle 85 = .ok (.iaload, 1) := by decide +kernel
theorem dX2_settle_86 : decode cX2_settle 86 = .ok (.iadd, 1) := by decide +kernel
theorem dX2_settle_87 : decode cX2_settle 87 = .ok (.istore 4, 2) := by decide +kernel
theorem dX2_settle_89 : decode cX2_settle 89 = .ok (.aload_n 0, 1) := by decide +kernel
theorem dX2_settle_90 : decode cX2_settle 90 = .ok (.getfield 40, 3) := by decide +kernel
theorem dX2_settle_93 : decode cX2_settle 93 = .ok (.aload_n 2, 1) := by decide +kernel
theorem dX2_settle_94 : decode cX2_settle 94 = .ok (.aload_n 0, 1) := by decide +kernel
theorem dX2_settle_95 : decode cX2_settle 95 = .ok (.getfield 15, 3) := by decide +kernel
theorem dX2_settle_98 : decode cX2_settle 98 = .ok (.iload 5, 2) := by decide +kernel
theorem dX2_settle_100 : decode cX2_settle 100 = .ok (.iaload, 1) := by decide +kernel
theorem dX2_settle_101 : decode cX2_settle 101 = .ok (.invokevirtual 62, 3) := by decide +kernel
theorem dX2_settle_104 : decode cX2_settle 104 = .ok (.aload_n 0, 1) := by decide +kernel
theorem dX2_settle_105 : decode cX2_settle 105 = .ok (.getfield 18, 3) := by decide +kernel
theorem dX2_settle_108 : decode cX2_settle 108 = .ok (.iload 5, 2) := by decide +kernel
theorem dX2_settle_110 : decode cX2_settle 110 = .ok (.aload_n 0, 1) := by decide +kernel
theorem dX2_settle_111 : decode cX2_settle 111 = .ok (.getfield 40, 3) := by decide +kernel
theorem dX2_settle_114 : decode cX2_settle 114 = .ok (.getfield 66, 3) := by decide +kernel
theorem dX2_settle_117 : decode cX2_settle 117 = .ok (.iastore, 1) := by decide +kernel
theorem dX2_settle_118 : decode cX2_settle 118 = .ok (.aload_n 0, 1) := by decide +kernel
theorem dX2_settle_119 : decode cX2_settle 119 = .ok (.getfield 21, 3) := by decide +kernel
theorem dX2_settle_122 : decode cX2_settle 122 = .ok (.iload 5, 2) := by decide +kernel
theorem dX2_settle_124 : decode cX2_settle 124 = .ok (.aload_n 0, 1) := by decide +kernel
theorem dX2_settle_125 : decode cX2_settle 125 = .ok (.getfield 40, 3) := by decide +kernel
theorem dX2_settle_128 : decode cX2_settle 128 = .ok (.getfield 66, 3) := by decide +kernel
theorem dX2_settle_131 : decode cX2_settle 131 = .ok (.ifCond .ne 7, 3) := by decide +kernel
theorem dX2_settle_134 : decode cX2_settle 134 = .ok (.iconst (-1), 1) := by decide +kernel
theorem dX2_settle_135 : decode cX2_settle 135 = .ok (.goto 12, 3) := by decide +kernel
theorem dX2_settle_138 : decode cX2_settle 138 = .ok (.aload_n 0, 1) := by decide +kernel
theorem dX2_settle_139 : decode cX2_settle 139 = .ok (.getfield 40, 3) := by decide +kernel
theorem dX2_settle_142 : decode cX2_settle 142 = .ok (.getfield 69, 3) := by decide +kernel
theorem dX2_settle_145 : decode cX2_settle 145 = .ok (.iconst 0, 1) := by decide +kernel
theorem dX2_settle_146 : decode cX2_settle 146 = .ok (.iaload, 1) := by decide +kernel
theorem dX2_settle_147 : decode cX2_settle 147 = .ok (.iastore, 1) := by decide +kernel
theorem dX2_settle_148 : decode cX2_settle 148 = .ok (.aload_n 0, 1) := by decide +kernel
theorem dX2_settle_149 : decode cX2_settle 149 = .ok (.getfield 24, 3) := by decide +kernel
theorem dX2_settle_152 : decode cX2_settle 152 = .ok (.iload 5, 2) := by decide +kernel
theorem dX2_settle_154 : decode cX2_settle 154 = .ok (.aload_n 0, 1) := by decide +kernel
theorem dX2_settle_155 : decode cX2_settle 155 = .ok (.getfield 40, 3) := by decide +kernel
theorem dX2_settle_158 : decode cX2_settle 158 = .ok (.getfield 66, 3) := by decide +kernel
theorem dX2_settle_161 : decode cX2_settle 161 = .ok (.ifCond .ne 7, 3) := by decide +kernel
theorem dX2_settle_164 : decode cX2_settle 164 = .ok (.iconst (-1), 1) := by decide +kernel
theorem dX2_settle_165 : decode cX2_settle 165 = .ok (.goto 12, 3) := by decide +kernel
theorem dX2_settle_168 : decode cX2_settle 168 = .ok (.aload_n 0, 1) := by decide +kernel
theorem dX2_settle_169 : decode cX2_settle 169 = .ok (.getfield 40, 3) := by decide +kernel
theorem dX2_settle_172 : decode cX2_settle 172 = .ok (.getfield 72, 3) := by decide +kernel
theorem dX2_settle_175 : decode cX2_settle 175 = .ok (.iconst 0, 1) := by decide +kernel
theorem dX2_settle_176 : decode cX2_settle 176 = .ok (.iaload, 1) := by decide +kernel
theorem dX2_settle_177 : decode cX2_settle 177 = .ok (.iastore, 1) := by decide +kernel
theorem dX2_settle_178 : decode cX2_settle 178 = .ok (.aload_n 0, 1) := by decide +kernel
theorem dX2_settle_179 : decode cX2_settle 179 = .ok (.getfield 40, 3) := by decide +kernel
theorem dX2_settle_182 : decode cX2_settle 182 = .ok (.getfield 66, 3) := by decide +kernel
theorem dX2_settle_185 : decode cX2_settle 185 = .ok (.iconst 1, 1) := by decide +kernel
theorem dX2_settle_186 : decode cX2_settle 186 = .ok (.if_icmp .eq 29, 3) := by decide +kernel
theorem dX2_settle_189 : decode cX2_settle 189 = .ok (.aload_n 0, 1) := by decide +kernel
theorem dX2_settle_190 : decode cX2_settle 190 = .ok (.aload_n 0, 1) := by decide +kernel
theorem dX2_settle_191 : decode cX2_settle 191 = .ok (.getfield 51, 3) := by decide +kernel
theorem dX2_settle_194 : decode cX2_settle 194 = .ok (.aload_n 0, 1) := by decide +kernel
theorem dX2_settle_195 : decode cX2_settle 195 = .ok (.getfield 40, 3) := by decide +kernel
theorem dX2_settle_198 : decode cX2_settle 198 = .ok (.getfield 66, 3) := by decide +kernel
theorem dX2_settle_201 : decode cX2_settle 201 = .ok (.ifCond .ne 7, 3) := by decide +kernel
theorem dX2_settle_204 : decode cX2_settle 204 = .ok (.iconst 0, 1) := by decide +kernel
theorem dX2_settle_205 : decode cX2_settle 205 = .ok (.goto 4, 3) := by decide +kernel
theorem dX2_settle_208 : decode cX2_settle 208 = .ok (.iconst 1, 1) := by decide +kernel
theorem dX2_settle_209 : decode cX2_settle 209 = .ok (.invokestatic 75, 3) := by decide +kernel
theorem dX2_settle_212 : decode cX2_settle 212 = .ok (.putfield 51, 3) := by decide +kernel
theorem dX2_settle_215 : decode cX2_settle 215 = .ok (.iinc 5 (-1), 3) := by decide +kernel
theorem dX2_settle_218 : decode cX2_settle 218 = .ok (.goto (-183), 3) := by decide +kernel
theorem dX2_settle_221 : decode cX2_settle 221 = .ok (.return_, 1) := by decide +kernel
theorem dX2_shine_0 : decode cX2_shine 0 = .ok (.lconst 0, 1) := by decide +kernel
theorem dX2_shine_1 : decode cX2_shine 1 = .ok (.lstore_n 3, 1) := by decide +kernel
theorem dX2_shine_2 : decode cX2_shine 2 = .ok (.lconst 0, 1) := by decide +kernel
theorem dX2_shine_3 : decode cX2_shine 3 = .ok (.lstore 5, 2) := by decide +kernel
theorem dX2_shine_5 : decode cX2_shine 5 = .ok (.iconst 0, 1) := by decide +kernel
theorem dX2_shine_6 : decode cX2_shine 6 = .ok (.istore 7, 2) := by decide +kernel
theorem dX2_shine_8 : decode cX2_shine 8 = .ok (.iload 7, 2) := by decide +kernel
theorem dX2_shine_10 : decode cX2_shine 10 = .ok (.aload_n 0, 1) := by decide +kernel
theorem dX2_shine_11 : decode cX2_shine 11 = .ok (.getfield 50, 3) := by decide +kernel
theorem dX2_shine_14 : decode cX2_shine 14 = .ok (.if_icmp .ge 124, 3) := by decide +kernel
theorem dX2_shine_17 : decode cX2_shine 17 = .ok (.lload_n 3, 1) := by decide +kernel
theorem dX2_shine_18 : decode cX2_shine 18 = .ok (.aload_n 0, 1) := by decide +kernel
theorem dX2_shine_19 : decode cX2_shine 19 = .ok (.aload_n 1, 1) := by decide +kernel
theorem dX2_shine_20 : decode cX2_shine 20 = .ok (.iload 7, 2) := by decide +kernel
theorem dX2_shine_22 : decode cX2_shine 22 = .ok (.aload_n 2, 1) := by decide +kernel
theorem dX2_shine_23 : decode cX2_shine 23 = .ok (.iconst 0, 1) := by decide +kernel
theorem dX2_shine_24 : decode cX2_shine 24 = .ok (.invokevirtual 80, 3) := by decide +kernel
theorem dX2_shine_27 : decode cX2_shine 27 = .ok (.ladd, 1) := by decide +kernel
theorem dX2_shine_28 : decode cX2_shine 28 = .ok (.lstore_n 3, 1) := by decide +kernel
theorem dX2_shine_29 : decode cX2_shine 29 = .ok (.lload 5, 2) := by decide +kernel
theorem dX2_shine_31 : decode cX2_shine 31 = .ok (.aload_n 0, 1) := by decide +kernel
theorem dX2_shine_32 : decode cX2_shine 32 = .ok (.aload_n 1, 1) := by decide +kernel
theorem dX2_shine_33 : decode cX2_shine 33 = .ok (.iload 7, 2) := by decide +kernel
theorem dX2_shine_35 : decode cX2_shine 35 = .ok (.aload_n 2, 1) := by decide +kernel
theorem dX2_shine_36 : decode cX2_shine 36 = .ok (.iconst 1, 1) := by decide +kernel
theorem dX2_shine_37 : decode cX2_shine 37 = .ok (.invokevirtual 80, 3) := by decide +kernel
theorem dX2_shine_40 : decode cX2_shine 40 = .ok (.ladd, 1) := by decide +kernel
theorem dX2_shine_41 : decode cX2_shine 41 = .ok (.lstore 5, 2) := by decide +kernel
theorem dX2_shine_43 : decode cX2_shine 43 = .ok (.aload_n 0, 1) := by decide +kernel
theorem dX2_shine_44 : decode cX2_shine 44 = .ok (.getfield 30, 3) := by decide +kernel
theorem dX2_shine_47 : decode cX2_shine 47 = .ok (.iload 7, 2) := by decide +kernel
theorem dX2_shine_49 : decode cX2_shine 49 = .ok (.lload_n 3, 1) := by decide +kernel
theorem dX2_shine_50 : decode cX2_shine 50 = .ok (.lastore, 1) := by decide +kernel
theorem dX2_shine_51 : decode cX2_shine 51 = .ok (.aload_n 0, 1) := by decide +kernel
theorem dX2_shine_52 : decode cX2_shine 52 = .ok (.getfield 34, 3) := by decide +kernel
theorem dX2_shine_55 : decode cX2_shine 55 = .ok (.iload 7, 2) := by decide +kernel
theorem dX2_shine_57 : decode cX2_shine 57 = .ok (.lload 5, 2) := by decide +kernel
theorem dX2_shine_59 : decode cX2_shine 59 = .ok (.lastore, 1) := by decide +kernel
theorem dX2_shine_60 : decode cX2_shine 60 = .ok (.lload 5, 2) := by decide +kernel
theorem dX2_shine_62 : decode cX2_shine 62 = .ok (.aload_n 0, 1) := by decide +kernel
theorem dX2_shine_63 : decode cX2_shine 63 = .ok (.iload 7, 2) := by decide +kernel
theorem dX2_shine_65 : decode cX2_shine 65 = .ok (.aload_n 2, 1) := by decide +kernel
theorem dX2_shine_66 : decode cX2_shine 66 = .ok (.iconst 1, 1) := by decide +kernel
theorem dX2_shine_67 : decode cX2_shine 67 = .ok (.invokevirtual 84, 3) := by decide +kernel
theorem dX2_shine_70 : decode cX2_shine 70 = .ok (.i2l, 1) := by decide +kernel
theorem dX2_shine_71 : decode cX2_shine 71 = .ok (.lmul, 1) := by decide +kernel
theorem dX2_shine_72 : decode cX2_shine 72 = .ok (.ldc2_w 88, 3) := by decide +kernel
theorem dX2_shine_75 : decode cX2_shine 75 = .ok (.ldiv, 1) := by decide +kernel
theorem dX2_shine_76 : decode cX2_shine 76 = .ok (.aload_n 1, 1) := by decide +kernel
theorem dX2_shine_77 : decode cX2_shine 77 = .ok (.getfield 90, 3) := by decide +kernel
theorem dX2_shine_80 : decode cX2_shine 80 = .ok (.i2l, 1) := by decide +kernel
theorem dX2_shine_81 : decode cX2_shine 81 = .ok (.lcmp, 1) := by decide +kernel
theorem dX2_shine_82 : decode cX2_shine 82 = .ok (.ifCond .gt 14, 3) := by decide +kernel
theorem dX2_shine_85 : decode cX2_shine 85 = .ok (.aload_n 0, 1) := by decide +kernel
theorem dX2_shine_86 : decode cX2_shine 86 = .ok (.getfield 27, 3) := by decide +kernel
theorem dX2_shine_89 : decode cX2_shine 89 = .ok (.iload 7, 2) := by decide +kernel
theorem dX2_shine_91 : decode cX2_shine 91 = .ok (.iconst 0, 1) := by decide +kernel
theorem dX2_shine_92 : decode cX2_shine 92 = .ok (.iastore, 1) := by decide +kernel
theorem dX2_shine_93 : decode cX2_shine 93 = .ok (.goto 39, 3) := by decide +kernel
theorem dX2_shine_96 : decode cX2_shine 96 = .ok (.aload_n 0, 1) := by decide +kernel
theorem dX2_shine_97 : decode cX2_shine 97 = .ok (.getfield 27, 3) := by decide +kernel
theorem dX2_shine_100 : decode cX2_shine 100 = .ok (.iload 7, 2) := by decide +kernel
theorem dX2_shine_102 : decode cX2_shine 102 = .ok (.lload_n 3, 1) := by decide +kernel
theorem dX2_shine_103 : decode cX2_shine 103 = .ok (.aload_n 0, 1) := by decide +kernel
theorem dX2_shine_104 : decode cX2_shine 104 = .ok (.iload 7, 2) := by decide +kernel
theorem dX2_shine_106 : decode cX2_shine 106 = .ok (.aload_n 2, 1) := by decide +kernel
theorem dX2_shine_107 : decode cX2_shine 107 = .ok (.iconst 0, 1) := by decide +kernel
theorem dX2_shine_108 : decode cX2_shine 108 = .ok (.invokevirtual 84, 3) := by decide +kernel
theorem dX2_shine_111 : decode cX2_shine 111 = .ok (.i2l, 1) := by decide +kernel
theorem dX2_shine_112 : decode cX2_shine 112 = .ok (.lmul, 1) := by decide +kernel
theorem dX2_shine_113 : decode cX2_shine 113 = .ok (.ldc2_w 88, 3) := by decide +kernel
theorem dX2_shine_116 : decode cX2_shine 116 = .ok (.ldiv, 1) := by decide +kernel
theorem dX2_shine_117 : decode cX2_shine 117 = .ok (.aload_n 1, 1) := by decide +kernel
theorem dX2_shine_118 : decode cX2_shine 118 = .ok (.getfield 90, 3) := by decide +kernel
theorem dX2_shine_121 : decode cX2_shine 121 = .ok (.i2l, 1) := by decide +kernel
theorem dX2_shine_122 : decode cX2_shine 122 = .ok (.lcmp, 1) := by decide +kernel
theorem dX2_shine_123 : decode cX2_shine 123 = .ok (.ifCond .le 7, 3) := by decide +kernel
theorem dX2_shine_126 : decode cX2_shine 126 = .ok (.iconst 1, 1) := by decide +kernel
theorem dX2_shine_127 : decode cX2_shine 127 = .ok (.goto 4, 3) := by decide +kernel
theorem dX2_shine_130 : decode cX2_shine 130 = .ok (.iconst 2, 1) := by decide +kernel
theorem dX2_shine_131 : decode cX2_shine 131 = .ok (.iastore, 1) := by decide +kernel
theorem dX2_shine_132 : decode cX2_shine 132 = .ok (.iinc 7 1, 3) := by decide +kernel
theorem dX2_shine_135 : decode cX2_shine 135 = .ok (.goto (-127), 3) := by decide +kernel
theorem dX2_shine_138 : decode cX2_shine 138 = .ok (.return_, 1) := by decide +kernel
theorem dX2_made_0 : decode cX2_made 0 = .ok (.lconst 0, 1) := by decide +kernel
theorem dX2_made_1 : decode cX2_made 1 = .ok (.lstore 5, 2) := by decide +kernel
theorem dX2_made_3 : decode cX2_made 3 = .ok (.iconst 0, 1) := by decide +kernel
theorem dX2_made_4 : decode cX2_made 4 = .ok (.istore 7, 2) := by decide +kernel
theorem dX2_made_6 : decode cX2_made 6 = .ok (.iload 7, 2) := by decide +kernel
theorem dX2_made_8 : decode cX2_made 8 = .ok (.iconst 5, 1) := by decide +kernel
theorem dX2_made_9 : decode cX2_made 9 = .ok (.if_icmp .ge 65, 3) := by decide +kernel
theorem dX2_made_12 : decode cX2_made 12 = .ok (.aload_n 3, 1) := by decide +kernel
theorem dX2_made_13 : decode cX2_made 13 = .ok (.iload 7, 2) := by decide +kernel
theorem dX2_made_15 : decode cX2_made 15 = .ok (.invokevirtual 93, 3) := by decide +kernel
theorem dX2_made_18 : decode cX2_made 18 = .ok (.ifCond .eq 50, 3) := by decide +kernel
theorem dX2_made_21 : decode cX2_made 21 = .ok (.aload_n 3, 1) := by decide +kernel
theorem dX2_made_22 : decode cX2_made 22 = .ok (.iconst 2, 1) := by decide +kernel
theorem dX2_made_23 : decode cX2_made 23 = .ok (.iload 7, 2) := by decide +kernel
theorem dX2_made_25 : decode cX2_made 25 = .ok (.iadd, 1) := by decide +kernel
theorem dX2_made_26 : decode cX2_made 26 = .ok (.aload_n 0, 1) := by decide +kernel
theorem dX2_made_27 : decode cX2_made 27 = .ok (.iload_n 2, 1) := by decide +kernel
theorem dX2_made_28 : decode cX2_made 28 = .ok (.invokevirtual 99, 3) := by decide +kernel
theorem dX2_made_31 : decode cX2_made 31 = .ok (.aload_n 0, 1) := by decide +kernel
theorem dX2_made_32 : decode cX2_made 32 = .ok (.iload_n 2, 1) := by decide +kernel
theorem dX2_made_33 : decode cX2_made 33 = .ok (.invokevirtual 103, 3) := by decide +kernel
theorem dX2_made_36 : decode cX2_made 36 = .ok (.iload 4, 2) := by decide +kernel
theorem dX2_made_38 : decode cX2_made 38 = .ok (.invokevirtual 106, 3) := by decide +kernel
theorem dX2_made_41 : decode cX2_made 41 = .ok (.istore 8, 2) := by decide +kernel
theorem dX2_made_43 : decode cX2_made 43 = .ok (.lload 5, 2) := by decide +kernel
theorem dX2_made_45 : decode cX2_made 45 = .ok (.aload_n 1, 1) := by decide +kernel
theorem dX2_made_46 : decode cX2_made 46 = .ok (.iload_n 2, 1) := by decide +kernel
theorem dX2_made_47 : decode cX2_made 47 = .ok (.iload 7, 2) := by decide +kernel
theorem dX2_made_49 : decode cX2_made 49 = .ok (.aload_n 3, 1) := by decide +kernel
theorem dX2_made_50 : decode cX2_made 50 = .ok (.iload 8, 2) := by decide +kernel
theorem dX2_made_52 : decode cX2_made 52 = .ok (.invokevirtual 110, 3) := by decide +kernel
theorem dX2_made_55 : decode cX2_made 55 = .ok (.i2l, 1) := by decide +kernel
theorem dX2_made_56 : decode cX2_made 56 = .ok (.aload_n 3, 1) := by decide +kernel
theorem dX2_made_57 : decode cX2_made 57 = .ok (.iload 7, 2) := by decide +kernel
theorem dX2_made_59 : decode cX2_made 59 = .ok (.iconst 4, 1) := by decide +kernel
theorem dX2_made_60 : decode cX2_made 60 = .ok (.invokevirtual 114, 3) := by decide +kernel
theorem dX2_made_63 : decode cX2_made 63 = .ok (.i2l, 1) := by decide +kernel
theorem dX2_made_64 : decode cX2_made 64 = .ok (.lmul, 1) := by decide +kernel
theorem dX2_made_65 : decode cX2_made 65 = .ok (.ladd, 1) := by decide +kernel
theorem dX2_made_66 : decode cX2_made 66 = .ok (.lstore 5, 2) := by decide +kernel
theorem dX2_made_68 : decode cX2_made 68 = .ok (.iinc 7 1, 3) := by decide +kernel
theorem dX2_made_71 : decode cX2_made 71 = .ok (.goto (-65), 3) := by decide +kernel
theorem dX2_made_74 : decode cX2_made 74 = .ok (.lload 5, 2) := by decide +kernel
theorem dX2_made_76 : decode cX2_made 76 = .ok (.lreturn, 1) := by decide +kernel
theorem dX2_haze_0 : decode cX2_haze 0 = .ok (.aload_n 2, 1) := by decide +kernel
theorem dX2_haze_1 : decode cX2_haze 1 = .ok (.iconst 1, 1) := by decide +kernel
theorem dX2_haze_2 : decode cX2_haze 2 = .ok (.aload_n 0, 1) := by decide +kernel
theorem dX2_haze_3 : decode cX2_haze 3 = .ok (.iload_n 1, 1) := by decide +kernel
theorem dX2_haze_4 : decode cX2_haze 4 = .ok (.invokevirtual 99, 3) := by decide +kernel
theorem dX2_haze_7 : decode cX2_haze 7 = .ok (.aload_n 0, 1) := by decide +kernel
theorem dX2_haze_8 : decode cX2_haze 8 = .ok (.iload_n 1, 1) := by decide +kernel
theorem dX2_haze_9 : decode cX2_haze 9 = .ok (.invokevirtual 103, 3) := by decide +kernel
theorem dX2_haze_12 : decode cX2_haze 12 = .ok (.iload_n 3, 1) := by decide +kernel
theorem dX2_haze_13 : decode cX2_haze 13 = .ok (.invokevirtual 106, 3) := by decide +kernel
theorem dX2_haze_16 : decode cX2_haze 16 = .ok (.ireturn, 1) := by decide +kernel
theorem dX2_spanFrom_0 : decode cX2_spanFrom 0 = .ok (.aload_n 0, 1) := by decide +kernel
theorem dX2_spanFrom_1 : decode cX2_spanFrom 1 = .ok (.getfield 21, 3) := by decide +kernel
theorem dX2_spanFrom_4 : decode cX2_spanFrom 4 = .ok (.iload_n 1, 1) := by decide +kernel
theorem dX2_spanFrom_5 : decode cX2_spanFrom 5 = .ok (.iaload, 1) := by decide +kernel
theorem dX2_spanFrom_6 : decode cX2_spanFrom 6 = .ok (.iconst (-1), 1) := by decide +kernel
theorem dX2_spanFrom_7 : decode cX2_spanFrom 7 = .ok (.if_icmp .ne 7, 3) := by decide +kernel
theorem dX2_spanFrom_10 : decode cX2_spanFrom 10 = .ok (.iconst 0, 1) := by decide +kernel
theorem dX2_spanFrom_11 : decode cX2_spanFrom 11 = .ok (.goto 9, 3) := by decide +kernel
theorem dX2_spanFrom_14 : decode cX2_spanFrom 14 = .ok (.aload_n 0, 1) := by decide +kernel
theorem dX2_spanFrom_15 : decode cX2_spanFrom 15 = .ok (.getfield 21, 3) := by decide +kernel
theorem dX2_spanFrom_18 : decode cX2_spanFrom 18 = .ok (.iload_n 1, 1) := by decide +kernel
theorem dX2_spanFrom_19 : decode cX2_spanFrom 19 = .ok (.iaload, 1) := by decide +kernel
theorem dX2_spanFrom_20 : decode cX2_spanFrom 20 = .ok (.ireturn, 1) := by decide +kernel
theorem dX2_spanTo_0 : decode cX2_spanTo 0 = .ok (.aload_n 0, 1) := by decide +kernel
theorem dX2_spanTo_1 : decode cX2_spanTo 1 = .ok (.getfield 24, 3) := by decide +kernel
theorem dX2_spanTo_4 : decode cX2_spanTo 4 = .ok (.iload_n 1, 1) := by decide +kernel
theorem dX2_spanTo_5 : decode cX2_spanTo 5 = .ok (.iaload, 1) := by decide +kernel
theorem dX2_spanTo_6 : decode cX2_spanTo 6 = .ok (.iconst (-1), 1) := by decide +kernel
theorem dX2_spanTo_7 : decode cX2_spanTo 7 = .ok (.if_icmp .ne 7, 3) := by decide +kernel
theorem dX2_spanTo_10 : decode cX2_spanTo 10 = .ok (.iconst 0, 1) := by decide +kernel
theorem dX2_spanTo_11 : decode cX2_spanTo 11 = .ok (.goto 9, 3) := by decide +kernel
theorem dX2_spanTo_14 : decode cX2_spanTo 14 = .ok (.aload_n 0, 1) := by decide +kernel
theorem dX2_spanTo_15 : decode cX2_spanTo 15 = .ok (.getfield 24, 3) := by decide +kernel
theorem dX2_spanTo_18 : decode cX2_spanTo 18 = .ok (.iload_n 1, 1) := by decide +kernel
theorem dX2_spanTo_19 : decode cX2_spanTo 19 = .ok (.iaload, 1) := by decide +kernel
theorem dX2_spanTo_20 : decode cX2_spanTo 20 = .ok (.ireturn, 1) := by decide +kernel
theorem dX3_init_0 : decode cX3_init 0 = .ok (.aload_n 0, 1) := by decide +kernel
theorem dX3_init_1 : decode cX3_init 1 = .ok (.invokespecial 3, 3) := by decide +kernel
theorem dX3_init_4 : decode cX3_init 4 = .ok (.aload_n 0, 1) := by decide +kernel
theorem dX3_init_5 : decode cX3_init 5 = .ok (.bipush 6, 2) := by decide +kernel
theorem dX3_init_7 : decode cX3_init 7 = .ok (.newarray .int, 2) := by decide +kernel
theorem dX3_init_9 : decode cX3_init 9 = .ok (.putfield 9, 3) := by decide +kernel
theorem dX3_init_12 : decode cX3_init 12 = .ok (.aload_n 0, 1) := by decide +kernel
theorem dX3_init_13 : decode cX3_init 13 = .ok (.bipush 25, 2) := by decide +kernel
theorem dX3_init_15 : decode cX3_init 15 = .ok (.newarray .int, 2) := by decide +kernel
theorem dX3_init_17 : decode cX3_init 17 = .ok (.putfield 15, 3) := by decide +kernel
theorem dX3_init_20 : decode cX3_init 20 = .ok (.aload_n 0, 1) := by decide +kernel
theorem dX3_init_21 : decode cX3_init 21 = .ok (.bipush 7, 2) := by decide +kernel
theorem dX3_init_23 : decode cX3_init 23 = .ok (.newarray .int, 2) := by decide +kernel
theorem dX3_init_25 : decode cX3_init 25 = .ok (.putfield 18, 3) := by decide +kernel
theorem dX3_init_28 : decode cX3_init 28 = .ok (.aload_n 0, 1) := by decide +kernel
theorem dX3_init_29 : decode cX3_init 29 = .ok (.sipush 168, 3) := by decide +kernel
theorem dX3_init_32 : decode cX3_init 32 = .ok (.newarray .int, 2) := by decide +kernel
theorem dX3_init_34 : decode cX3_init 34 = .ok (.putfield 21, 3) := by decide +kernel
theorem dX3_init_37 : decode cX3_init 37 = .ok (.iconst 0, 1) := by decide +kernel
theorem dX3_init_38 : decode cX3_init 38 = .ok (.istore_n 1, 1) := by decide +kernel
theorem dX3_init_39 : decode cX3_init 39 = .ok (.iload_n 1, 1) := by decide +kernel
theorem dX3_init_40 : decode cX3_init 40 = .ok (.bipush 6, 2) := by decide +kernel
theorem dX3_init_42 : decode cX3_init 42 = .ok (.if_icmp .ge 16, 3) := by decide +kernel
theorem dX3_init_45 : decode cX3_init 45 = .ok (.aload_n 0, 1) := by decide +kernel
theorem dX3_init_46 : decode cX3_init 46 = .ok (.getfield 9, 3) := by decide +kernel
theorem dX3_init_49 : decode cX3_init 49 = .ok (.iload_n 1, 1) := by decide +kernel
theorem dX3_init_50 : decode cX3_init 50 = .ok (.iconst 1, 1) := by decide +kernel
theorem dX3_init_51 : decode cX3_init 51 = .ok (.iastore, 1) := by decide +kernel
theorem dX3_init_52 : decode cX3_init 52 = .ok (.iinc 1 1, 3) := by decide +kernel
theorem dX3_init_55 : decode cX3_init 55 = .ok (.goto (-16), 3) := by decide +kernel
theorem dX3_init_58 : decode cX3_init 58 = .ok (.return_, 1) := by decide +kernel
theorem dX3_copyFrom_0 : decode cX3_copyFrom 0 = .ok (.aload_n 1, 1) := by decide +kernel
theorem dX3_copyFrom_1 : decode cX3_copyFrom 1 = .ok (.getfield 9, 3) := by decide +kernel
theorem dX3_copyFrom_4 : decode cX3_copyFrom 4 = .ok (.iconst 0, 1) := by decide +kernel
theorem dX3_copyFrom_5 : decode cX3_copyFrom 5 = .ok (.aload_n 0, 1) := by decide +kernel
theorem dX3_copyFrom_6 : decode cX3_copyFrom 6 = .ok (.getfield 9, 3) := by decide +kernel
theorem dX3_copyFrom_9 : decode cX3_copyFrom 9 = .ok (.iconst 0, 1) := by decide +kernel
theorem dX3_copyFrom_10 : decode cX3_copyFrom 10 = .ok (.aload_n 0, 1) := by decide +kernel
theorem dX3_copyFrom_11 : decode cX3_copyFrom 11 = .ok (.getfield 9, 3) := by decide +kernel
theorem dX3_copyFrom_14 : decode cX3_copyFrom 14 = .ok (.arraylength, 1) := by decide +kernel
theorem dX3_copyFrom_15 : decode cX3_copyFrom 15 = .ok (.invokestatic 24, 3) := by decide +kernel
theorem dX3_copyFrom_18 : decode cX3_copyFrom 18 = .ok (.aload_n 1, 1) := by decide +kernel
theorem dX3_copyFrom_19 : decode cX3_copyFrom 19 = .ok (.getfield 15, 3) := by decide +kernel
theorem dX3_copyFrom_22 : decode cX3_copyFrom 22 = .ok (.iconst 0, 1) := by decide +kernel
theorem dX3_copyFrom_23 : decode cX3_copyFrom 23 = .ok (.aload_n 0, 1) := by decide +kernel
theorem dX3_copyFrom_24 : decode cX3_copyFrom 24 = .ok (.getfield 15, 3) := by decide +kernel
theorem dX3_copyFrom_27 : decode cX3_copyFrom 27 = .ok (.iconst 0, 1) := by decide +kernel
theorem dX3_copyFrom_28 : decode cX3_copyFrom 28 = .ok (.aload_n 0, 1) := by decide +kernel
theorem dX3_copyFrom_29 : decode cX3_copyFrom 29 = .ok (.getfield 15, 3) := by decide +kernel
theorem dX3_copyFrom_32 : decode cX3_copyFrom 32 = .ok (.arraylength, 1) := by decide +kernel
theorem dX3_copyFrom_33 : decode cX3_copyFrom 33 = .ok (.invokestatic 24, 3) := by decide +kernel
theorem dX3_copyFrom_36 : decode cX3_copyFrom 36 = .ok (.aload_n 1, 1) := by decide +kernel
theorem dX3_copyFrom_37 : decode cX3_copyFrom 37 = .ok (.getfield 18, 3) := by decide +kernel
theorem dX3_copyFrom_40 : decode cX3_copyFrom 40 = .ok (.iconst 0, 1) := by decide +kernel
theorem dX3_copyFrom_41 : decode cX3_copyFrom 41 = .ok (.aload_n 0, 1) := by decide +kernel
theorem dX3_copyFrom_42 : decode cX3_copyFrom 42 = .ok (.getfield 18, 3) := by decide +kernel
theorem dX3_copyFrom_45 : decode cX3_copyFrom 45 = .ok (.iconst 0, 1) := by decide +kernel
theorem dX3_copyFrom_46 : decode cX3_copyFrom 46 = .ok (.aload_n 0, 1) := by decide +kernel
theorem dX3_copyFrom_47 : decode cX3_copyFrom 47 = .ok (.getfield 18, 3) := by decide +kernel
theorem dX3_copyFrom_50 : decode cX3_copyFrom 50 = .ok (.arraylength, 1) := by decide +kernel
theorem dX3_copyFrom_51 : decode cX3_copyFrom 51 = .ok (.invokestatic 24, 3) := by decide +kernel
theorem dX3_copyFrom_54 : decode cX3_copyFrom 54 = .ok (.aload_n 1, 1) := by decide +kernel
theorem dX3_copyFrom_55 : decode cX3_copyFrom 55 = .ok (.getfield 21, 3) := by decide +kernel
theorem dX3_copyFrom_58 : decode cX3_copyFrom 58 = .ok (.iconst 0, 1) := by decide +kernel
theorem dX3_copyFrom_59 : decode cX3_copyFrom 59 = .ok (.aload_n 0, 1) := by decide +kernel
theorem dX3_copyFrom_60 : decode cX3_copyFrom 60 = .ok (.getfield 21, 3) := by decide +kernel
theorem dX3_copyFrom_63 : decode cX3_copyFrom 63 = .ok (.iconst 0, 1) := by decide +kernel
theorem dX3_copyFrom_64 : decode cX3_copyFrom 64 = .ok (.aload_n 0, 1) := by decide +kernel
theorem dX3_copyFrom_65 : decode cX3_copyFrom 65 = .ok (.getfield 21, 3) := by decide +kernel
theorem dX3_copyFrom_68 : decode cX3_copyFrom 68 = .ok (.arraylength, 1) := by decide +kernel
theorem dX3_copyFrom_69 : decode cX3_copyFrom 69 = .ok (.invokestatic 24, 3) := by decide +kernel
theorem dX3_copyFrom_72 : decode cX3_copyFrom 72 = .ok (.return_, 1) := by decide +kernel
theorem dX3_ofChain_0 : decode cX3_ofChain 0 = .ok (.aload_n 0, 1) := by decide +kernel
theorem dX3_ofChain_1 : decode cX3_ofChain 1 = .ok (.getfield 15, 3) := by decide +kernel
theorem dX3_ofChain_4 : decode cX3_ofChain 4 = .ok (.iload_n 1, 1) := by decide +kernel
theorem dX3_ofChain_5 : decode cX3_ofChain 5 = .ok (.iconst 5, 1) := by decide +kernel
theorem dX3_ofChain_6 : decode cX3_ofChain 6 = .ok (.imul, 1) := by decide +kernel
theorem dX3_ofChain_7 : decode cX3_ofChain 7 = .ok (.iload_n 2, 1) := by decide +kernel
theorem dX3_ofChain_8 : decode cX3_ofChain 8 = .ok (.iadd, 1) := by decide +kernel
theorem dX3_ofChain_9 : decode cX3_ofChain 9 = .ok (.iaload, 1) := by decide +kernel
theorem dX3_ofChain_10 : decode cX3_ofChain 10 = .ok (.ireturn, 1) := by decide +kernel
theorem dX3_isTold_0 : decode cX3_isTold 0 = .ok (.aload_n 0, 1) := by decide +kernel
theorem dX3_isTold_1 : decode cX3_isTold 1 = .ok (.iload_n 1, 1) := by decide +kernel
theorem dX3_isTold_2 : decode cX3_isTold 2 = .ok (.iconst 1, 1) := by decide +kernel
theorem dX3_isTold_3 : decode cX3_isTold 3 = .ok (.invokevirtual 30, 3) := by decide +kernel
theorem dX3_isTold_6 : decode cX3_isTold 6 = .ok (.ifCond .le 7, 3) := by decide +kernel
theorem dX3_isTold_9 : decode cX3_isTold 9 = .ok (.iconst 1, 1) := by decide +kernel
theorem dX3_isTold_10 : decode cX3_isTold 10 = .ok (.goto 4, 3) := by decide +kernel
theorem dX3_isTold_13 : decode cX3_isTold 13 = .ok (.iconst 0, 1) := by decide +kernel
theorem dX3_isTold_14 : decode cX3_isTold 14 = .ok (.ireturn, 1) := by decide +kernel
theorem dX3_isBalanced_0 : decode cX3_isBalanced 0 = .ok (.iconst 0, 1) := by decide +kernel
theorem dX3_isBalanced_1 : decode cX3_isBalanced 1 = .ok (.istore_n 1, 1) := by decide +kernel
theorem dX3_isBalanced_2 : decode cX3_isBalanced 2 = .ok (.iload_n 1, 1) := by decide +kernel
theorem dX3_isBalanced_3 : decode cX3_isBalanced 3 = .ok (.iconst 5, 1) := by decide +kernel
theorem dX3_isBalanced_4 : decode cX3_isBalanced 4 = .ok (.if_icmp .ge 54, 3) := by decide +kernel
theorem dX3_isBalanced_7 : decode cX3_isBalanced 7 = .ok (.aload_n 0, 1) := by decide +kernel
theorem dX3_isBalanced_8 : decode cX3_isBalanced 8 = .ok (.iload_n 1, 1) := by decide +kernel
theorem dX3_isBalanced_9 : decode cX3_isBalanced 9 = .ok (.iconst 1, 1) := by decide +kernel
theorem dX3_isBalanced_10 : decode cX3_isBalanced 10 = .ok (.invokevirtual 30, 3) := by decide +kernel
theorem dX3_isBalanced_13 : decode cX3_isBalanced 13 = .ok (.aload_n 0, 1) := by decide +kernel
theorem dX3_isBalanced_14 : decode cX3_isBalanced 14 = .ok (.getfield 9, 3) := by decide +kernel
theorem dX3_isBalanced_17 : decode cX3_isBalanced 17 = .ok (.aload_n 0, 1) := by decide +kernel
theorem dX3_isBalanced_18 : decode cX3_isBalanced 18 = .ok (.iload_n 1, 1) := by decide +kernel
theorem dX3_isBalanced_19 : decode cX3_isBalanced 19 = .ok (.iconst 0, 1) := by decide +kernel
theorem dX3_isBalanced_20 : decode cX3_isBalanced 20 = .ok (.invokevirtual 30, 3) := by decide +kernel
theorem dX3_isBalanced_23 : decode cX3_isBalanced 23 = .ok (.iaload, 1) := by decide +kernel
theorem dX3_isBalanced_24 : decode cX3_isBalanced 24 = .ok (.imul, 1) := by decide +kernel
theorem dX3_isBalanced_25 : decode cX3_isBalanced 25 = .ok (.istore_n 2, 1) := by decide +kernel
theorem dX3_isBalanced_26 : decode cX3_isBalanced 26 = .ok (.aload_n 0, 1) := by decide +kernel
theorem dX3_isBalanced_27 : decode cX3_isBalanced 27 = .ok (.iload_n 1, 1) := by decide +kernel
theorem dX3_isBalanced_28 : decode cX3_isBalanced 28 = .ok (.iconst 3, 1) := by decide +kernel
theorem dX3_isBalanced_29 : decode cX3_isBalanced 29 = .ok (.invokevirtual 30, 3) := by decide +kernel
theorem dX3_isBalanced_32 : decode cX3_isBalanced 32 = .ok (.aload_n 0, 1) := by decide +kernel
theorem dX3_isBalanced_33 : decode cX3_isBalanced 33 = .ok (.getfield 9, 3) := by decide +kernel
theorem dX3_isBalanced_36 : decode cX3_isBalanced 36 = .ok (.aload_n 0, 1) := by decide +kernel
theorem dX3_isBalanced_37 : decode cX3_isBalanced 37 = .ok (.iload_n 1, 1) := by decide +kernel
theorem dX3_isBalanced_38 : decode cX3_isBalanced 38 = .ok (.iconst 2, 1) := by decide +kernel
theorem dX3_isBalanced_39 : decode cX3_isBalanced 39 = .ok (.invokevirtual 30, 3) := by decide +kernel
theorem dX3_isBalanced_42 : decode cX3_isBalanced 42 = .ok (.iaload, 1) := by decide +kernel
theorem dX3_isBalanced_43 : decode cX3_isBalanced 43 = .ok (.imul, 1) := by decide +kernel
theorem dX3_isBalanced_44 : decode cX3_isBalanced 44 = .ok (.istore_n 3, 1) := by decide +kernel
theorem dX3_isBalanced_45 : decode cX3_isBalanced 45 = .ok (.iload_n 2, 1) := by decide +kernel
theorem dX3_isBalanced_46 : decode cX3_isBalanced 46 = .ok (.iload_n 3, 1) := by decide +kernel
theorem dX3_isBalanced_47 : decode cX3_isBalanced 47 = .ok (.if_icmp .eq 5, 3) := by decide +kernel
theorem dX3_isBalanced_50 : decode cX3_isBalanced 50 = .ok (.iconst 0, 1) := by decide +kernel
theorem dX3_isBalanced_51 : decode cX3_isBalanced 51 = .ok (.ireturn, 1) := by decide +kernel
theorem dX3_isBalanced_52 : decode cX3_isBalanced 52 = .ok (.iinc 1 1, 3) := by decide +kernel
theorem dX3_isBalanced_55 : decode cX3_isBalanced 55 = .ok (.goto (-53), 3) := by decide +kernel
theorem dX3_isBalanced_58 : decode cX3_isBalanced 58 = .ok (.iconst 1, 1) := by decide +kernel
theorem dX3_isBalanced_59 : decode cX3_isBalanced 59 = .ok (.ireturn, 1) := by decide +kernel
theorem dX3_ofPoint_0 : decode cX3_ofPoint 0 = .ok (.aload_n 0, 1) := by decide +kernel
theorem dX3_ofPoint_1 : decode cX3_ofPoint 1 = .ok (.getfield 21, 3) := by decide +kernel
theorem dX3_ofPoint_4 : decode cX3_ofPoint 4 = .ok (.iload_n 1, 1) := by decide +kernel
theorem dX3_ofPoint_5 : decode cX3_ofPoint 5 = .ok (.bipush 8, 2) := by decide +kernel
theorem dX3_ofPoint_7 : decode cX3_ofPoint 7 = .ok (.imul, 1) := by decide +kernel
theorem dX3_ofPoint_8 : decode cX3_ofPoint 8 = .ok (.iload_n 2, 1) := by decide +kernel
theorem dX3_ofPoint_9 : decode cX3_ofPoint 9 = .ok (.iadd, 1) := by decide +kernel
theorem dX3_ofPoint_10 : decode cX3_ofPoint 10 = .ok (.iconst 3, 1) := by decide +kernel
theorem dX3_ofPoint_11 : decode cX3_ofPoint 11 = .ok (.imul, 1) := by decide +kernel
theorem dX3_ofPoint_12 : decode cX3_ofPoint 12 = .ok (.iload_n 3, 1) := by decide +kernel
theorem dX3_ofPoint_13 : decode cX3_ofPoint 13 = .ok (.iadd, 1) := by decide +kernel
theorem dX3_ofPoint_14 : decode cX3_ofPoint 14 = .ok (.iaload, 1) := by decide +kernel
theorem dX3_ofPoint_15 : decode cX3_ofPoint 15 = .ok (.ireturn, 1) := by decide +kernel
theorem dX3_addPoint_0 : decode cX3_addPoint 0 = .ok (.aload_n 0, 1) := by decide +kernel
theorem dX3_addPoint_1 : decode cX3_addPoint 1 = .ok (.getfield 18, 3) := by decide +kernel
theorem dX3_addPoint_4 : decode cX3_addPoint 4 = .ok (.iload_n 1, 1) := by decide +kernel
theorem dX3_addPoint_5 : decode cX3_addPoint 5 = .ok (.iaload, 1) := by decide +kernel
theorem dX3_addPoint_6 : decode cX3_addPoint 6 = .ok (.bipush 8, 2) := by decide +kernel
theorem dX3_addPoint_8 : decode cX3_addPoint 8 = .ok (.if_icmp .lt 4, 3) := by decide +kernel
theorem dX3_addPoint_11 : decode cX3_addPoint 11 = .ok (.return_, 1) := by decide +kernel
theorem dX3_addPoint_12 : decode cX3_addPoint 12 = .ok (.iload_n 1, 1) := by decide +kernel
theorem dX3_addPoint_13 : decode cX3_addPoint 13 = .ok (.bipush 8, 2) := by decide +kernel
theorem dX3_addPoint_15 : decode cX3_addPoint 15 = .ok (.imul, 1) := by decide +kernel
theorem dX3_addPoint_16 : decode cX3_addPoint 16 = .ok (.aload_n 0, 1) := by decide +kernel
theorem dX3_addPoint_17 : decode cX3_addPoint 17 = .ok (.getfield 18, 3) := by decide +kernel
theorem dX3_addPoint_20 : decode cX3_addPoint 20 = .ok (.iload_n 1, 1) := by decide +kernel
theorem dX3_addPoint_21 : decode cX3_addPoint 21 = .ok (.iaload, 1) := by decide +kernel
theorem dX3_addPoint_22 : decode cX3_addPoint 22 = .ok (.iadd, 1) := by decide +kernel
theorem dX3_addPoint_23 : decode cX3_addPoint 23 = .ok (.iconst 3, 1) := by decide +kernel
theorem dX3_addPoint_24 : decode cX3_addPoint 24 = .ok (.imul, 1) := by decide +kernel
theorem dX3_addPoint_25 : decode cX3_addPoint 25 = .ok (.istore 5, 2) := by decide +kernel
theorem dX3_addPoint_27 : decode cX3_addPoint 27 = .ok (.aload_n 0, 1) := by decide +kernel
theorem dX3_addPoint_28 : decode cX3_addPoint 28 = .ok (.getfield 21, 3) := by decide +kernel
theorem dX3_addPoint_31 : decode cX3_addPoint 31 = .ok (.iload 5, 2) := by decide +kernel
theorem dX3_addPoint_33 : decode cX3_addPoint 33 = .ok (.iconst 0, 1) := by decide +kernel
theorem dX3_addPoint_34 : decode cX3_addPoint 34 = .ok (.iadd, 1) := by decide +kernel
theorem dX3_addPoint_35 : decode cX3_addPoint 35 = .ok (.iload_n 2, 1) := by decide +kernel
theorem dX3_addPoint_36 : decode cX3_addPoint 36 = .ok (.iastore, 1) := by decide +kernel
theorem dX3_addPoint_37 : decode cX3_addPoint 37 = .ok (.aload_n 0, 1) := by decide +kernel
theorem dX3_addPoint_38 : decode cX3_addPoint 38 = .ok (.getfield 21, 3) := by decide +kernel
theorem dX3_addPoint_41 : decode cX3_addPoint 41 = .ok (.iload 5, 2) := by decide +kernel
theorem dX3_addPoint_43 : decode cX3_addPoint 43 = .ok (.iconst 1, 1) := by decide +kernel
theorem dX3_addPoint_44 : decode cX3_addPoint 44 = .ok (.iadd, 1) := by decide +kernel
theorem dX3_addPoint_45 : decode cX3_addPoint 45 = .ok (.iload_n 3, 1) := by decide +kernel
theorem dX3_addPoint_46 : decode cX3_addPoint 46 = .ok (.iastore, 1) := by decide +kernel
theorem dX3_addPoint_47 : decode cX3_addPoint 47 = .ok (.aload_n 0, 1) := by decide +kernel
theorem dX3_addPoint_48 : decode cX3_addPoint 48 = .ok (.getfield 21, 3) := by decide +kernel
theorem dX3_addPoint_51 : decode cX3_addPoint 51 = .ok (.iload 5, 2) := by decide +kernel
theorem dX3_addPoint_53 : decode cX3_addPoint 53 = .ok (.iconst 2, 1) := by decide +kernel
theorem dX3_addPoint_54 : decode cX3_addPoint 54 = .ok (.iadd, 1) := by decide +kernel
theorem dX3_addPoint_55 : decode cX3_addPoint 55 = .ok (.iload 4, 2) := by decide +kernel
theorem dX3_addPoint_57 : decode cX3_addPoint 57 = .ok (.iastore, 1) := by decide +kernel
theorem dX3_addPoint_58 : decode cX3_addPoint 58 = .ok (.aload_n 0, 1) := by decide +kernel
theorem dX3_addPoint_59 : decode cX3_addPoint 59 = .ok (.getfield 18, 3) := by decide +kernel
theorem dX3_addPoint_62 : decode cX3_addPoint 62 = .ok (.iload_n 1, 1) := by decide +kernel
theorem dX3_addPoint_63 : decode cX3_addPoint 63 = .ok (.dup2, 1) := by decide +kernel
theorem dX3_addPoint_64 : decode cX3_addPoint 64 = .ok (.iaload, 1) := by decide +kernel
theorem dX3_addPoint_65 : decode cX3_addPoint 65 = .ok (.iconst 1, 1) := by decide +kernel
theorem dX3_addPoint_66 : decode cX3_addPoint 66 = .ok (.iadd, 1) := by decide +kernel
theorem dX3_addPoint_67 : decode cX3_addPoint 67 = .ok (.iastore, 1) := by decide +kernel
theorem dX3_addPoint_68 : decode cX3_addPoint 68 = .ok (.return_, 1) := by decide +kernel
theorem dX3_span_0 : decode cX3_span 0 = .ok (.aload_n 0, 1) := by decide +kernel
theorem dX3_span_1 : decode cX3_span 1 = .ok (.getfield 18, 3) := by decide +kernel
theorem dX3_span_4 : decode cX3_span 4 = .ok (.iload_n 1, 1) := by decide +kernel
theorem dX3_span_5 : decode cX3_span 5 = .ok (.iaload, 1) := by decide +kernel
theorem dX3_span_6 : decode cX3_span 6 = .ok (.istore 4, 2) := by decide +kernel
theorem dX3_span_8 : decode cX3_span 8 = .ok (.iload 4, 2) := by decide +kernel
theorem dX3_span_10 : decode cX3_span 10 = .ok (.ifCond .ne 5, 3) := by decide +kernel
theorem dX3_span_13 : decode cX3_span 13 = .ok (.iconst 0, 1) := by decide +kernel
theorem dX3_span_14 : decode cX3_span 14 = .ok (.ireturn, 1) := by decide +kernel
theorem dX3_span_15 : decode cX3_span 15 = .ok (.iconst 0, 1) := by decide +kernel
theorem dX3_span_16 : decode cX3_span 16 = .ok (.istore 5, 2) := by decide +kernel
theorem dX3_span_18 : decode cX3_span 18 = .ok (.iload 5, 2) := by decide +kernel
theorem dX3_span_20 : decode cX3_span 20 = .ok (.iload 4, 2) := by decide +kernel
theorem dX3_span_22 : decode cX3_span 22 = .ok (.if_icmp .ge 21, 3) := by decide +kernel
theorem dX3_span_25 : decode cX3_span 25 = .ok (.aload_n 0, 1) := by decide +kernel
theorem dX3_span_26 : decode cX3_span 26 = .ok (.iload_n 1, 1) := by decide +kernel
theorem dX3_span_27 : decode cX3_span 27 = .ok (.iload 5, 2) := by decide +kernel
theorem dX3_span_29 : decode cX3_span 29 = .ok (.iconst 0, 1) := by decide +kernel
theorem dX3_span_30 : decode cX3_span 30 = .ok (.invokevirtual 34, 3) := by decide +kernel
theorem dX3_span_33 : decode cX3_span 33 = .ok (.iload_n 2, 1) := by decide +kernel
theorem dX3_span_34 : decode cX3_span 34 = .ok (.if_icmp .gt 9, 3) := by decide +kernel
theorem dX3_span_37 : decode cX3_span 37 = .ok (.iinc 5 1, 3) := by decide +kernel
theorem dX3_span_40 : decode cX3_span 40 = .ok (.goto (-22), 3) := by decide +kernel
theorem dX3_span_43 : decode cX3_span 43 = .ok (.iload 5, 2) := by decide +kernel
theorem dX3_span_45 : decode cX3_span 45 = .ok (.iconst 1, 1) := by decide +kernel
theorem dX3_span_46 : decode cX3_span 46 = .ok (.isub, 1) := by decide +kernel
theorem dX3_span_47 : decode cX3_span 47 = .ok (.iconst 0, 1) := by decide +kernel
theorem dX3_span_48 : decode cX3_span 48 = .ok (.invokestatic 38, 3) := by decide +kernel
theorem dX3_span_51 : decode cX3_span 51 = .ok (.istore 6, 2) := by decide +kernel
theorem dX3_span_53 : decode cX3_span 53 = .ok (.iload 5, 2) := by decide +kernel
theorem dX3_span_55 : decode cX3_span 55 = .ok (.iload 4, 2) := by decide +kernel
theorem dX3_span_57 : decode cX3_span 57 = .ok (.iconst 1, 1) := by decide +kernel
theorem dX3_span_58 : decode cX3_span 58 = .ok (.isub, 1) := by decide +kernel
theorem dX3_span_59 : decode cX3_span 59 = .ok (.invokestatic 43, 3) := by decide +kernel
theorem dX3_span_62 : decode cX3_span 62 = .ok (.istore 7, 2) := by decide +kernel
theorem dX3_span_64 : decode cX3_span 64 = .ok (.iload_n 3, 1) := by decide +kernel
theorem dX3_span_65 : decode cX3_span 65 = .ok (.ifCond .eq 7, 3) := by decide +kernel
theorem dX3_span_68 : decode cX3_span 68 = .ok (.iconst 2, 1) := by decide +kernel
theorem dX3_span_69 : decode cX3_span 69 = .ok (.goto 4, 3) := by decide +kernel
theorem dX3_span_72 : decode cX3_span 72 = .ok (.iconst 1, 1) := by decide +kernel
theorem dX3_span_73 : decode cX3_span 73 = .ok (.istore 8, 2) := by decide +kernel
theorem dX3_span_75 : decode cX3_span 75 = .ok (.aload_n 0, 1) := by decide +kernel
theorem dX3_span_76 : decode cX3_span 76 = .ok (.iload_n 1, 1) := by decide +kernel
theorem dX3_span_77 : decode cX3_span 77 = .ok (.iload 7, 2) := by decide +kernel
theorem dX3_span_79 : decode cX3_span 79 = .ok (.iconst 0, 1) := by decide +kernel
theorem dX3_span_80 : decode cX3_span 80 = .ok (.invokevirtual 34, 3) := by decide +kernel
theorem dX3_span_83 : decode cX3_span 83 = .ok (.aload_n 0, 1) := by decide +kernel
theorem dX3_span_84 : decode cX3_span 84 = .ok (.iload_n 1, 1) := by decide +kernel
theorem dX3_span_85 : decode cX3_span 85 = .ok (.iload 6, 2) := by decide +kernel
theorem dX3_span_87 : decode cX3_span 87 = .ok (.iconst 0, 1) := by decide +kernel
theorem dX3_span_88 : decode cX3_span 88 = .ok (.invokevirtual 34, 3) := by decide +kernel
theorem dX3_span_91 : decode cX3_span 91 = .ok (.isub, 1) := by decide +kernel
theorem dX3_span_92 : decode cX3_span 92 = .ok (.istore 9, 2) := by decide +kernel
theorem dX3_span_94 : decode cX3_span 94 = .ok (.iload 9, 2) := by decide +kernel
theorem dX3_span_96 : decode cX3_span 96 = .ok (.ifCond .gt 13, 3) := by decide +kernel
theorem dX3_span_99 : decode cX3_span 99 = .ok (.aload_n 0, 1) := by decide +kernel
theorem dX3_span_100 : decode cX3_span 100 = .ok (.iload_n 1, 1) := by decide +kernel
theorem dX3_span_101 : decode cX3_span 101 = .ok (.iload 6, 2) := by decide +kernel
theorem dX3_span_103 : decode cX3_span 103 = .ok (.iload 8, 2) := by decide +kernel
theorem dX3_span_105 : decode cX3_span 105 = .ok (.invokevirtual 34, 3) := by decide +kernel
theorem dX3_span_108 : decode cX3_span 108 = .ok (.ireturn, 1) := by decide +kernel
theorem dX3_span_109 : decode cX3_span 109 = .ok (.iload_n 2, 1) := by decide +kernel
theorem dX3_span_110 : decode cX3_span 110 = .ok (.aload_n 0, 1) := by decide +kernel
theorem dX3_span_111 : decode cX3_span 111 = .ok (.iload_n 1, 1) := by decide +kernel
theorem dX3_span_112 : decode cX3_span 112 = .ok (.iload 6, 2) := by decide +kernel
theorem dX3_span_114 : decode cX3_span 114 = .ok (.iconst 0, 1) := by decide +kernel
theorem dX3_span_115 : decode cX3_span 115 = .ok (.invokevirtual 34, 3) := by decide +kernel
theorem dX3_span_118 : decode cX3_span 118 = .ok (.isub, 1) := by decide +kernel
theorem dX3_span_119 : decode cX3_span 119 = .ok (.istore 10, 2) := by decide +kernel
theorem dX3_span_121 : decode cX3_span 121 = .ok (.aload_n 0, 1) := by decide +kernel
theorem dX3_span_122 : decode cX3_span 122 = .ok (.iload_n 1, 1) := by decide +kernel
theorem dX3_span_123 : decode cX3_span 123 = .ok (.iload 6, 2) := by decide +kernel
theorem dX3_span_125 : decode cX3_span 125 = .ok (.iload 8, 2) := by decide +kernel
theorem dX3_span_127 : decode cX3_span 127 = .ok (.invokevirtual 34, 3) := by decide +kernel
theorem dX3_span_130 : decode cX3_span 130 = .ok (.iload 9, 2) := by decide +kernel
theorem dX3_span_132 : decode cX3_span 132 = .ok (.iload 10, 2) := by decide +kernel
theorem dX3_span_134 : decode cX3_span 134 = .ok (.isub, 1) := by decide +kernel
theorem dX3_span_135 : decode cX3_span 135 = .ok (.imul, 1) := by decide +kernel
theorem dX3_span_136 : decode cX3_span 136 = .ok (.aload_n 0, 1) := by decide +kernel
theorem dX3_span_137 : decode cX3_span 137 = .ok (.iload_n 1, 1) := by decide +kernel
theorem dX3_span_138 : decode cX3_span 138 = .ok (.iload 7, 2) := by decide +kernel
theorem dX3_span_140 : decode cX3_span 140 = .ok (.iload 8, 2) := by decide +kernel
theorem dX3_span_142 : decode cX3_span 142 = .ok (.invokevirtual 34, 3) := by decide +kernel
theorem dX3_span_145 : decode cX3_span 145 = .ok (.iload 10, 2) := by decide +kernel
theorem dX3_span_147 : decode cX3_span 147 = .ok (.imul, 1) := by decide +kernel
theorem dX3_span_148 : decode cX3_span 148 = .ok (.iadd, 1) := by decide +kernel
theorem dX3_span_149 : decode cX3_span 149 = .ok (.istore 11, 2) := by decide +kernel
theorem dX3_span_151 : decode cX3_span 151 = .ok (.iload_n 3, 1) := by decide +kernel
theorem dX3_span_152 : decode cX3_span 152 = .ok (.ifCond .eq 13, 3) := by decide +kernel
theorem dX3_span_155 : decode cX3_span 155 = .ok (.iload 11, 2) := by decide +kernel
theorem dX3_span_157 : decode cX3_span 157 = .ok (.iload 9, 2) := by decide +kernel
theorem dX3_span_159 : decode cX3_span 159 = .ok (.iadd, 1) := by decide +kernel
theorem dX3_span_160 : decode cX3_span 160 = .ok (.iconst 1, 1) := by decide +kernel
theorem dX3_span_161 : decode cX3_span 161 = .ok (.isub, 1) := by decide +kernel
theorem dX3_span_162 : decode cX3_span 162 = .ok (.goto 5, 3) := by decide +kernel
theorem dX3_span_165 : decode cX3_span 165 = .ok (.iload 11, 2) := by decide +kernel
theorem dX3_span_167 : decode cX3_span 167 = .ok (.iload 9, 2) := by decide +kernel
theorem dX3_span_169 : decode cX3_span 169 = .ok (.invokestatic 46, 3) := by decide +kernel
theorem dX3_span_172 : decode cX3_span 172 = .ok (.ireturn, 1) := by decide +kernel
theorem dX3_extreme_0 : decode cX3_extreme 0 = .ok (.aload_n 0, 1) := by decide +kernel
theorem dX3_extreme_1 : decode cX3_extreme 1 = .ok (.iload_n 1, 1) := by decide +kernel
theorem dX3_extreme_2 : decode cX3_extreme 2 = .ok (.iload_n 2, 1) := by decide +kernel
theorem dX3_extreme_3 : decode cX3_extreme 3 = .ok (.iload 4, 2) := by decide +kernel
theorem dX3_extreme_5 : decode cX3_extreme 5 = .ok (.invokevirtual 49, 3) := by decide +kernel
theorem dX3_extreme_8 : decode cX3_extreme 8 = .ok (.istore 5, 2) := by decide +kernel
theorem dX3_extreme_10 : decode cX3_extreme 10 = .ok (.aload_n 0, 1) := by decide +kernel
theorem dX3_extreme_11 : decode cX3_extreme 11 = .ok (.iload_n 1, 1) := by decide +kernel
theorem dX3_extreme_12 : decode cX3_extreme 12 = .ok (.iload_n 3, 1) := by decide +kernel
theorem dX3_extreme_13 : decode cX3_extreme 13 = .ok (.iload 4, 2) := by decide +kernel
theorem dX3_extreme_15 : decode cX3_extreme 15 = .ok (.invokevirtual 49, 3) := by decide +kernel
theorem dX3_extreme_18 : decode cX3_extreme 18 = .ok (.istore 6, 2) := by decide +kernel
theorem dX3_extreme_20 : decode cX3_extreme 20 = .ok (.iload 4, 2) := by decide +kernel
theorem dX3_extreme_22 : decode cX3_extreme 22 = .ok (.ifCond .eq 13, 3) := by decide +kernel
theorem dX3_extreme_25 : decode cX3_extreme 25 = .ok (.iload 5, 2) := by decide +kernel
theorem dX3_extreme_27 : decode cX3_extreme 27 = .ok (.iload 6, 2) := by decide +kernel
theorem dX3_extreme_29 : decode cX3_extreme 29 = .ok (.invokestatic 38, 3) := by decide +kernel
theorem dX3_extreme_32 : decode cX3_extreme 32 = .ok (.goto 10, 3) := by decide +kernel
theorem dX3_extreme_35 : decode cX3_extreme 35 = .ok (.iload 5, 2) := by decide +kernel
theorem dX3_extreme_37 : decode cX3_extreme 37 = .ok (.iload 6, 2) := by decide +kernel
theorem dX3_extreme_39 : decode cX3_extreme 39 = .ok (.invokestatic 43, 3) := by decide +kernel
theorem dX3_extreme_42 : decode cX3_extreme 42 = .ok (.istore 7, 2) := by decide +kernel
theorem dX3_extreme_44 : decode cX3_extreme 44 = .ok (.iconst 0, 1) := by decide +kernel
theorem dX3_extreme_45 : decode cX3_extreme 45 = .ok (.istore 8, 2) := by decide +kernel
theorem dX3_extreme_47 : decode cX3_extreme 47 = .ok (.iload 8, 2) := by decide +kernel
theorem dX3_extreme_49 : decode cX3_extreme 49 = .ok (.aload_n 0, 1) := by decide +kernel
theorem dX3_extreme_50 : decode cX3_extreme 50 = .ok (.getfield 18, 3) := by decide +kernel
theorem dX3_extreme_53 : decode cX3_extreme 53 = .ok (.iload_n 1, 1) := by decide +kernel
theorem dX3_extreme_54 : decode cX3_extreme 54 = .ok (.iaload, 1) := by decide +kernel
theorem dX3_extreme_55 : decode cX3_extreme 55 = .ok (.if_icmp .ge 74, 3) := by decide +kernel
theorem dX3_extreme_58 : decode cX3_extreme 58 = .ok (.aload_n 0, 1) := by decide +kernel
theorem dX3_extreme_59 : decode cX3_extreme 59 = .ok (.iload_n 1, 1) := by decide +kernel
theorem dX3_extreme_60 : decode cX3_extreme 60 = .ok (.iload 8, 2) := by decide +kernel
theorem dX3_extreme_62 : decode cX3_extreme 62 = .ok (.iconst 0, 1) := by decide +kernel
theorem dX3_extreme_63 : decode cX3_extreme 63 = .ok (.invokevirtual 34, 3) := by decide +kernel
theorem dX3_extreme_66 : decode cX3_extreme 66 = .ok (.istore 9, 2) := by decide +kernel
theorem dX3_extreme_68 : decode cX3_extreme 68 = .ok (.iload 9, 2) := by decide +kernel
theorem dX3_extreme_70 : decode cX3_extreme 70 = .ok (.iload_n 2, 1) := by decide +kernel
theorem dX3_extreme_71 : decode cX3_extreme 71 = .ok (.if_icmp .le 52, 3) := by decide +kernel
theorem dX3_extreme_74 : decode cX3_extreme 74 = .ok (.iload 9, 2) := by decide +kernel
theorem dX3_extreme_76 : decode cX3_extreme 76 = .ok (.iload_n 3, 1) := by decide +kernel
theorem dX3_extreme_77 : decode cX3_extreme 77 = .ok (.if_icmp .ge 46, 3) := by decide +kernel
theorem dX3_extreme_80 : decode cX3_extreme 80 = .ok (.aload_n 0, 1) := by decide +kernel
theorem dX3_extreme_81 : decode cX3_extreme 81 = .ok (.iload_n 1, 1) := by decide +kernel
theorem dX3_extreme_82 : decode cX3_extreme 82 = .ok (.iload 8, 2) := by decide +kernel
theorem dX3_extreme_84 : decode cX3_extreme 84 = .ok (.iload 4, 2) := by decide +kernel
theorem dX3_extreme_86 : decode cX3_extreme 86 = .ok (.ifCond .eq 7, 3) := by decide +kernel
theorem dX3_extreme_89 : decode cX3_extreme 89 = .ok (.iconst 2, 1) := by decide +kernel
theorem dX3_extreme_90 : decode cX3_extreme 90 = .ok (.goto 4, 3) := by decide +kernel
theorem dX3_extreme_93 : decode cX3_extreme 93 = .ok (.iconst 1, 1) := by decide +kernel
theorem dX3_extreme_94 : decode cX3_extreme 94 = .ok (.invokevirtual 34, 3) := by decide +kernel
theorem dX3_extreme_97 : decode cX3_extreme 97 = .ok (.istore 10, 2) := by decide +kernel
theorem dX3_extreme_99 : decode cX3_extreme 99 = .ok (.iload 4, 2) := by decide +kernel
theorem dX3_extreme_101 : decode cX3_extreme 101 = .ok (.ifCond .eq 13, 3) := by decide +kernel
theorem dX3_extreme_104 : decode cX3_extreme 104 = .ok (.iload 7, 2) := by decide +kernel
theorem dX3_extreme_106 : decode cX3_extreme 106 = .ok (.iload 10, 2) := by decide +kernel
theorem dX3_extreme_108 : decode cX3_extreme 108 = .ok (.invokestatic 38, 3) := by decide +kernel
theorem dX3_extreme_111 : decode cX3_extreme 111 = .ok (.goto 10, 3) := by decide +kernel
theorem dX3_extreme_114 : decode cX3_extreme 114 = .ok (.iload 7, 2) := by decide +kernel
theorem dX3_extreme_116 : decode cX3_extreme 116 = .ok (.iload 10, 2) := by decide +kernel
theorem dX3_extreme_118 : decode cX3_extreme 118 = .ok (.invokestatic 43, 3) := by decide +kernel
theorem dX3_extreme_121 : decode cX3_extreme 121 = .ok (.istore 7, 2) := by decide +kernel
theorem dX3_extreme_123 : decode cX3_extreme 123 = .ok (.iinc 8 1, 3) := by decide +kernel
theorem dX3_extreme_126 : decode cX3_extreme 126 = .ok (.goto (-79), 3) := by decide +kernel
theorem dX3_extreme_129 : decode cX3_extreme 129 = .ok (.iload 7, 2) := by decide +kernel
theorem dX3_extreme_131 : decode cX3_extreme 131 = .ok (.ireturn, 1) := by decide +kernel
theorem dX4_init_0 : decode cX4_init 0 = .ok (.aload_n 0, 1) := by decide +kernel
theorem dX4_init_1 : decode cX4_init 1 = .ok (.invokespecial 3, 3) := by decide +kernel
theorem dX4_init_4 : decode cX4_init 4 = .ok (.aload_n 0, 1) := by decide +kernel
theorem dX4_init_5 : decode cX4_init 5 = .ok (.bipush 18, 2) := by decide +kernel
theorem dX4_init_7 : decode cX4_init 7 = .ok (.newarray .boolean, 2) := by decide +kernel
theorem dX4_init_9 : decode cX4_init 9 = .ok (.putfield 11, 3) := by decide +kernel
theorem dX4_init_12 : decode cX4_init 12 = .ok (.aload_n 0, 1) := by decide +kernel
theorem dX4_init_13 : decode cX4_init 13 = .ok (.aload_n 1, 1) := by decide +kernel
theorem dX4_init_14 : decode cX4_init 14 = .ok (.putfield 15, 3) := by decide +kernel
theorem dX4_init_17 : decode cX4_init 17 = .ok (.aload_n 0, 1) := by decide +kernel
theorem dX4_init_18 : decode cX4_init 18 = .ok (.new 19, 3) := by decide +kernel
theorem dX4_init_21 : decode cX4_init 21 = .ok (.dup, 1) := by decide +kernel
theorem dX4_init_22 : decode cX4_init 22 = .ok (.invokespecial 21, 3) := by decide +kernel
theorem dX4_init_25 : decode cX4_init 25 = .ok (.putfield 22, 3) := by decide +kernel
theorem dX4_init_28 : decode cX4_init 28 = .ok (.return_, 1) := by decide +kernel
theorem dX4_read_0 : decode cX4_read 0 = .ok (.aload_n 0, 1) := by decide +kernel
theorem dX4_read_1 : decode cX4_read 1 = .ok (.aload_n 1, 1) := by decide +kernel
theorem dX4_read_2 : decode cX4_read 2 = .ok (.putfield 22, 3) := by decide +kernel
theorem dX4_read_5 : decode cX4_read 5 = .ok (.aload_n 0, 1) := by decide +kernel
theorem dX4_read_6 : decode cX4_read 6 = .ok (.getfield 22, 3) := by decide +kernel
theorem dX4_read_9 : decode cX4_read 9 = .ok (.iconst 0, 1) := by decide +kernel
theorem dX4_read_10 : decode cX4_read 10 = .ok (.putfield 26, 3) := by decide +kernel
theorem dX4_read_13 : decode cX4_read 13 = .ok (.aload_n 0, 1) := by decide +kernel
theorem dX4_read_14 : decode cX4_read 14 = .ok (.iconst 1, 1) := by decide +kernel
theorem dX4_read_15 : decode cX4_read 15 = .ok (.putfield 30, 3) := by decide +kernel
theorem dX4_read_18 : decode cX4_read 18 = .ok (.aload_n 0, 1) := by decide +kernel
theorem dX4_read_19 : decode cX4_read 19 = .ok (.iconst 0, 1) := by decide +kernel
theorem dX4_read_20 : decode cX4_read 20 = .ok (.putfield 34, 3) := by decide +kernel
theorem dX4_read_23 : decode cX4_read 23 = .ok (.aload_n 0, 1) := by decide +kernel
theorem dX4_read_24 : decode cX4_read 24 = .ok (.iconst (-1), 1) := by decide +kernel
theorem dX4_read_25 : decode cX4_read 25 = .ok (.putfield 37, 3) := by decide +kernel
theorem dX4_read_28 : decode cX4_read 28 = .ok (.aload_n 0, 1) := by decide +kernel
theorem dX4_read_29 : decode cX4_read 29 = .ok (.iconst 0, 1) := by decide +kernel
theorem dX4_read_30 : decode cX4_read 30 = .ok (.putfield 40, 3) := by decide +kernel
theorem dX4_read_33 : decode cX4_read 33 = .ok (.iconst 0, 1) := by decide +kernel
theorem dX4_read_34 : decode cX4_read 34 = .ok (.istore_n 2, 1) := by decide +kernel
theorem dX4_read_35 : decode cX4_read 35 = .ok (.iload_n 2, 1) := by decide +kernel
theorem dX4_read_36 : decode cX4_read 36 = .ok (.aload_n 0, 1) := by decide +kernel
theorem dX4_read_37 : decode cX4_read 37 = .ok (.getfield 11, 3) := by decide +kernel
theorem dX4_read_40 : decode cX4_read 40 = .ok (.arraylength, 1) := by decide +kernel
theorem dX4_read_41 : decode cX4_read 41 = .ok (.if_icmp .ge 16, 3) := by decide +kernel
theorem dX4_read_44 : decode cX4_read 44 = .ok (.aload_n 0, 1) := by decide +kernel
theorem dX4_read_45 : decode cX4_read 45 = .ok (.getfield 11, 3) := by decide +kernel
theorem dX4_read_48 : decode cX4_read 48 = .ok (.iload_n 2, 1) := by decide +kernel
theorem dX4_read_49 : decode cX4_read 49 = .ok (.iconst 0, 1) := by decide +kernel
theorem dX4_read_50 : decode cX4_read 50 = .ok (.bastore, 1) := by decide +kernel
theorem dX4_read_51 : decode cX4_read 51 = .ok (.iinc 2 1, 3) := by decide +kernel
theorem dX4_read_54 : decode cX4_read 54 = .ok (.goto (-19), 3) := by decide +kernel
theorem dX4_read_57 : decode cX4_read 57 = .ok (.aload_n 0, 1) := by decide +kernel
theorem dX4_read_58 : decode cX4_read 58 = .ok (.invokevirtual 43, 3) := by decide +kernel
theorem dX4_read_61 : decode cX4_read 61 = .ok (.aload_n 0, 1) := by decide +kernel
theorem dX4_read_62 : decode cX4_read 62 = .ok (.getfield 46, 3) := by decide +kernel
theorem dX4_read_65 : decode cX4_read 65 = .ok (.ifCond .eq 40, 3) := by decide +kernel
theorem dX4_read_68 : decode cX4_read 68 = .ok (.aload_n 0, 1) := by decide +kernel
theorem dX4_read_69 : decode cX4_read 69 = .ok (.getfield 22, 3) := by decide +kernel
theorem dX4_read_72 : decode cX4_read 72 = .ok (.getfield 26, 3) := by decide +kernel
theorem dX4_read_75 : decode cX4_read 75 = .ok (.bipush 20, 2) := by decide +kernel
theorem dX4_read_77 : decode cX4_read 77 = .ok (.if_icmp .gt 28, 3) := by decide +kernel
theorem dX4_read_80 : decode cX4_read 80 = .ok (.aload_n 0, 1) := by decide +kernel
theorem dX4_read_81 : decode cX4_read 81 = .ok (.invokevirtual 49, 3) := by decide +kernel
theorem dX4_read_84 : decode cX4_read 84 = .ok (.ifCond .ne 5, 3) := by decide +kernel
theorem dX4_read_87 : decode cX4_read 87 = .ok (.iconst 0, 1) := by decide +kernel
theorem dX4_read_88 : decode cX4_read 88 = .ok (.ireturn, 1) := by decide +kernel
theorem dX4_read_89 : decode cX4_read 89 = .ok (.aload_n 0, 1) := by decide +kernel
theorem dX4_read_90 : decode cX4_read 90 = .ok (.getfield 22, 3) := by decide +kernel
theorem dX4_read_93 : decode cX4_read 93 = .ok (.dup, 1) := by decide +kernel
theorem dX4_read_94 : decode cX4_read 94 = .ok (.getfield 26, 3) := by decide +kernel
theorem dX4_read_97 : decode cX4_read 97 = .ok (.iconst 1, 1) := by decide +kernel
theorem dX4_read_98 : decode cX4_read 98 = .ok (.iadd, 1) := by decide +kernel
theorem dX4_read_99 : decode cX4_read 99 = .ok (.putfield 26, 3) := by decide +kernel
theorem dX4_read_102 : decode cX4_read 102 = .ok (.goto (-41), 3) := by decide +kernel
theorem dX4_read_105 : decode cX4_read 105 = .ok (.aload_n 0, 1) := by decide +kernel
theorem dX4_read_106 : decode cX4_read 106 = .ok (.getfield 22, 3) := by decide +kernel
theorem dX4_read_109 : decode cX4_read 109 = .ok (.invokevirtual 53, 3) := by decide +kernel
theorem dX4_read_112 : decode cX4_read 112 = .ok (.ifCond .ne 12, 3) := by decide +kernel
theorem dX4_read_115 : decode cX4_read 115 = .ok (.aload_n 0, 1) := by decide +kernel
theorem dX4_read_116 : decode cX4_read 116 = .ok (.bipush 6, 2) := by decide +kernel
theorem dX4_read_118 : decode cX4_read 118 = .ok (.invokevirtual 56, 3) := by decide +kernel
theorem dX4_read_121 : decode cX4_read 121 = .ok (.ifCond .eq 7, 3) := by decide +kernel
theorem dX4_read_124 : decode cX4_read 124 = .ok (.iconst 1, 1) := by decide +kernel
theorem dX4_read_125 : decode cX4_read 125 = .ok (.goto 4, 3) := by decide +kernel
theorem dX4_read_128 : decode cX4_read 128 = .ok (.iconst 0, 1) := by decide +kernel
theorem dX4_read_129 : decode cX4_read 129 = .ok (.ireturn, 1) := by decide +kernel
theorem dX4_clause_0 : decode cX4_clause 0 = .ok (.aload_n 0, 1) := by decide +kernel
theorem dX4_clause_1 : decode cX4_clause 1 = .ok (.ldc 60, 2) := by decide +kernel
theorem dX4_clause_3 : decode cX4_clause 3 = .ok (.invokevirtual 62, 3) := by decide +kernel
theorem dX4_clause_6 : decode cX4_clause 6 = .ok (.ifCond .eq 23, 3) := by decide +kernel
theorem dX4_clause_9 : decode cX4_clause 9 = .ok (.aload_n 0, 1) := by decide +kernel
theorem dX4_clause_10 : decode cX4_clause 10 = .ok (.invokevirtual 66, 3) := by decide +kernel
theorem dX4_clause_13 : decode cX4_clause 13 = .ok (.ifCond .eq 14, 3) := by decide +kernel
theorem dX4_clause_16 : decode cX4_clause 16 = .ok (.aload_n 0, 1) := by decide +kernel
theorem dX4_clause_17 : decode cX4_clause 17 = .ok (.invokevirtual 69, 3) := by decide +kernel
theorem dX4_clause_20 : decode cX4_clause 20 = .ok (.ifCond .eq 7, 3) := by decide +kernel
theorem dX4_clause_23 : decode cX4_clause 23 = .ok (.iconst 1, 1) := by decide +kernel
theorem dX4_clause_24 : decode cX4_clause 24 = .ok (.goto 4, 3) := by decide +kernel
theorem dX4_clause_27 : decode cX4_clause 27 = .ok (.iconst 0, 1) := by decide +kernel
theorem dX4_clause_28 : decode cX4_clause 28 = .ok (.ireturn, 1) := by decide +kernel
theorem dX4_clause_29 : decode cX4_clause 29 = .ok (.aload_n 0, 1) := by decide +kernel
theorem dX4_clause_30 : decode cX4_clause 30 = .ok (.ldc 72, 2) := by decide +kernel
theorem dX4_clause_32 : decode cX4_clause 32 = .ok (.invokevirtual 62, 3) := by decide +kernel
theorem dX4_clause_35 : decode cX4_clause 35 = .ok (.ifCond .eq 23, 3) := by decide +kernel
theorem dX4_clause_38 : decode cX4_clause 38 = .ok (.aload_n 0, 1) := by decide +kernel
theorem dX4_clause_39 : decode cX4_clause 39 = .ok (.invokevirtual 66, 3) := by decide +kernel
theorem dX4_clause_42 : decode cX4_clause 42 = .ok (.ifCond .eq 14, 3) := by decide +kernel
theorem dX4_clause_45 : decode cX4_clause 45 = .ok (.aload_n 0, 1) := by decide +kernel
theorem dX4_clause_46 : decode cX4_clause 46 = .ok (.invokevirtual 74, 3) := by decide +kernel
theorem dX4_clause_49 : decode cX4_clause 49 = .ok (.ifCond .eq 7, 3) := by decide +kernel
theorem dX4_clause_52 : decode cX4_clause 52 = .ok (.iconst 1, 1) := by decide +kernel
theorem dX4_clause_53 : decode cX4_clause 53 = .ok (.goto 4, 3) := by decide +kernel
theorem dX4_clause_56 : decode cX4_clause 56 = .ok (.iconst 0, 1) := by decide +kernel
theorem dX4_clause_57 : decode cX4_clause 57 = .ok (.ireturn, 1) := by decide +kernel
theorem dX4_clause_58 : decode cX4_clause 58 = .ok (.aload_n 0, 1) := by decide +kernel
theorem dX4_clause_59 : decode cX4_clause 59 = .ok (.ldc 77, 2) := by decide +kernel
theorem dX4_clause_61 : decode cX4_clause 61 = .ok (.invokevirtual 62, 3) := by decide +kernel
theorem dX4_clause_64 : decode cX4_clause 64 = .ok (.ifCond .eq 36, 3) := by decide +kernel
theorem dX4_clause_67 : decode cX4_clause 67 = .ok (.aload_n 0, 1) := by decide +kernel
theorem dX4_clause_68 : decode cX4_clause 68 = .ok (.invokevirtual 66, 3) := by decide +kernel
theorem dX4_clause_71 : decode cX4_clause 71 = .ok (.ifCond .eq 27, 3) := by decide +kernel
theorem dX4_clause_74 : decode cX4_clause 74 = .ok (.aload_n 0, 1) := by decide +kernel
theorem dX4_clause_75 : decode cX4_clause 75 = .ok (.invokevirtual 79, 3) := by decide +kernel
theorem dX4_clause_78 : decode cX4_clause 78 = .ok (.ifCond .eq 20, 3) := by decide +kernel
theorem dX4_clause_81 : decode cX4_clause 81 = .ok (.aload_n 0, 1) := by decide +kernel
theorem dX4_clause_82 : decode cX4_clause 82 = .ok (.iconst 2, 1) := by decide +kernel
theorem dX4_clause_83 : decode cX4_clause 83 = .ok (.aload_n 0, 1) := by decide +kernel
theorem dX4_clause_84 : decode cX4_clause 84 = .ok (.getfield 82, 3) := by decide +kernel
theorem dX4_clause_87 : decode cX4_clause 87 = .ok (.iadd, 1) := by decide +kernel
theorem dX4_clause_88 : decode cX4_clause 88 = .ok (.invokevirtual 85, 3) := by decide +kernel
theorem dX4_clause_91 : decode cX4_clause 91 = .ok (.ifCond .eq 7, 3) := by decide +kernel
theorem dX4_clause_94 : decode cX4_clause 94 = .ok (.iconst 1, 1) := by decide +kernel
theorem dX4_clause_95 : decode cX4_clause 95 = .ok (.goto 4, 3) := by decide +kernel
theorem dX4_clause_98 : decode cX4_clause 98 = .ok (.iconst 0, 1) := by decide +kernel
theorem dX4_clause_99 : decode cX4_clause 99 = .ok (.ireturn, 1) := by decide +kernel
theorem dX4_clause_100 : decode cX4_clause 100 = .ok (.aload_n 0, 1) := by decide +kernel
theorem dX4_clause_101 : decode cX4_clause 101 = .ok (.ldc 88, 2) := by decide +kernel
theorem dX4_clause_103 : decode cX4_clause 103 = .ok (.invokevirtual 62, 3) := by decide +kernel
theorem dX4_clause_106 : decode cX4_clause 106 = .ok (.ifCond .eq 33, 3) := by decide +kernel
theorem dX4_clause_109 : decode cX4_clause 109 = .ok (.aload_n 0, 1) := by decide +kernel
theorem dX4_clause_110 : decode cX4_clause 110 = .ok (.bipush 11, 2) := by decide +kernel
theorem dX4_clause_112 : decode cX4_clause 112 = .ok (.invokevirtual 90, 3) := by decide +kernel
theorem dX4_clause_115 : decode cX4_clause 115 = .ok (.ifCond .eq 22, 3) := by decide +kernel
theorem dX4_clause_118 : decode cX4_clause 118 = .ok (.aload_n 0, 1) := by decide +kernel
theorem dX4_clause_119 : decode cX4_clause 119 = .ok (.invokevirtual 66, 3) := by decide +kernel
theorem dX4_clause_122 : decode cX4_clause 122 = .ok (.ifCond .eq 15, 3) := by decide +kernel
theorem dX4_clause_125 : decode cX4_clause 125 = .ok (.aload_n 0, 1) := by decide +kernel
theorem dX4_clause_126 : decode cX4_clause 126 = .ok (.iconst 0, 1) := by decide +kernel
theorem dX4_clause_127 : decode cX4_clause 127 = .ok (.invokevirtual 85, 3) := by decide +kernel
theorem dX4_clause_130 : decode cX4_clause 130 = .ok (.ifCond .eq 7, 3) := by decide +kernel
theorem dX4_clause_133 : decode cX4_clause 133 = .ok (.iconst 1, 1) := by decide +kernel
theorem dX4_clause_134 : decode cX4_clause 134 = .ok (.goto 4, 3) := by decide +kernel
theorem dX4_clause_137 : decode cX4_clause 137 = .ok (.iconst 0, 1) := by decide +kernel
theorem dX4_clause_138 : decode cX4_clause 138 = .ok (.ireturn, 1) := by decide +kernel
theorem dX4_clause_139 : decode cX4_clause 139 = .ok (.aload_n 0, 1) := by decide +kernel
theorem dX4_clause_140 : decode cX4_clause 140 = .ok (.ldc 93, 2) := by decide +kernel
theorem dX4_clause_142 : decode cX4_clause 142 = .ok (.invokevirtual 62, 3) := by decide +kernel
theorem dX4_clause_145 : decode cX4_clause 145 = .ok (.ifCond .eq 33, 3) := by decide +kernel
theorem dX4_clause_148 : decode cX4_clause 148 = .ok (.aload_n 0, 1) := by decide +kernel
theorem dX4_clause_149 : decode cX4_clause 149 = .ok (.bipush 12, 2) := by decide +kernel
theorem dX4_clause_151 : decode cX4_clause 151 = .ok (.invokevirtual 90, 3) := by decide +kernel
theorem dX4_clause_154 : decode cX4_clause 154 = .ok (.ifCond .eq 22, 3) := by decide +kernel
theorem dX4_clause_157 : decode cX4_clause 157 = .ok (.aload_n 0, 1) := by decide +kernel
theorem dX4_clause_158 : decode cX4_clause 158 = .ok (.invokevirtual 66, 3) := by decide +kernel
theorem dX4_clause_161 : decode cX4_clause 161 = .ok (.ifCond .eq 15, 3) := by decide +kernel
theorem dX4_clause_164 : decode cX4_clause 164 = .ok (.aload_n 0, 1) := by decide +kernel
theorem dX4_clause_165 : decode cX4_clause 165 = .ok (.iconst 1, 1) := by decide +kernel
theorem dX4_clause_166 : decode cX4_clause 166 = .ok (.invokevirtual 85, 3) := by decide +kernel
theorem dX4_clause_169 : decode cX4_clause 169 = .ok (.ifCond .eq 7, 3) := by decide +kernel
theorem dX4_clause_172 : decode cX4_clause 172 = .ok (.iconst 1, 1) := by decide +kernel
theorem dX4_clause_173 : decode cX4_clause 173 = .ok (.goto 4, 3) := by decide +kernel
theorem dX4_clause_176 : decode cX4_clause 176 = .ok (.iconst 0, 1) := by decide +kernel
theorem dX4_clause_177 : decode cX4_clause 177 = .ok (.ireturn, 1) := by decide +kernel
theorem dX4_clause_178 : decode cX4_clause 178 = .ok (.aload_n 0, 1) := by decide +kernel
theorem dX4_clause_179 : decode cX4_clause 179 = .ok (.iconst 1, 1) := by decide +kernel
theorem dX4_clause_180 : decode cX4_clause 180 = .ok (.invokevirtual 56, 3) := by decide +kernel
theorem dX4_clause_183 : decode cX4_clause 183 = .ok (.ireturn, 1) := by decide +kernel
theorem dX4_hasRoom_0 : decode cX4_hasRoom 0 = .ok (.aload_n 0, 1) := by decide +kernel
theorem dX4_hasRoom_1 : decode cX4_hasRoom 1 = .ok (.getfield 22, 3) := by decide +kernel
theorem dX4_hasRoom_4 : decode cX4_hasRoom 4 = .ok (.getfield 26, 3) := by decide +kernel
theorem dX4_hasRoom_7 : decode cX4_hasRoom 7 = .ok (.bipush 20, 2) := by decide +kernel
theorem dX4_hasRoom_9 : decode cX4_hasRoom 9 = .ok (.if_icmp .lt 11, 3) := by decide +kernel
theorem dX4_hasRoom_12 : decode cX4_hasRoom 12 = .ok (.aload_n 0, 1) := by decide +kernel
theorem dX4_hasRoom_13 : decode cX4_hasRoom 13 = .ok (.iconst 5, 1) := by decide +kernel
theorem dX4_hasRoom_14 : decode cX4_hasRoom 14 = .ok (.invokevirtual 56, 3) := by decide +kernel
theorem dX4_hasRoom_17 : decode cX4_hasRoom 17 = .ok (.ifCond .eq 7, 3) := by decide +kernel
theorem dX4_hasRoom_20 : decode cX4_hasRoom 20 = .ok (.iconst 1, 1) := by decide +kernel
theorem dX4_hasRoom_21 : decode cX4_hasRoom 21 = .ok (.goto 4, 3) := by decide +kernel
theorem dX4_hasRoom_24 : decode cX4_hasRoom 24 = .ok (.iconst 0, 1) := by decide +kernel
theorem dX4_hasRoom_25 : decode cX4_hasRoom 25 = .ok (.ireturn, 1) := by decide +kernel
theorem dX4_kindClause_0 : decode cX4_kindClause 0 = .ok (.aload_n 0, 1) := by decide +kernel
theorem dX4_kindClause_1 : decode cX4_kindClause 1 = .ok (.invokevirtual 43, 3) := by decide +kernel
theorem dX4_kindClause_4 : decode cX4_kindClause 4 = .ok (.aload_n 0, 1) := by decide +kernel
theorem dX4_kindClause_5 : decode cX4_kindClause 5 = .ok (.invokevirtual 95, 3) := by decide +kernel
theorem dX4_kindClause_8 : decode cX4_kindClause 8 = .ok (.ifCond .eq 14, 3) := by decide +kernel
theorem dX4_kindClause_11 : decode cX4_kindClause 11 = .ok (.aload_n 0, 1) := by decide +kernel
theorem dX4_kindClause_12 : decode cX4_kindClause 12 = .ok (.aload_n 0, 1) := by decide +kernel
theorem dX4_kindClause_13 : decode cX4_kindClause 13 = .ok (.getfield 82, 3) := by decide +kernel
theorem dX4_kindClause_16 : decode cX4_kindClause 16 = .ok (.invokevirtual 90, 3) := by decide +kernel
theorem dX4_kindClause_19 : decode cX4_kindClause 19 = .ok (.ifCond .ne 5, 3) := by decide +kernel
theorem dX4_kindClause_22 : decode cX4_kindClause 22 = .ok (.iconst 0, 1) := by decide +kernel
theorem dX4_kindClause_23 : decode cX4_kindClause 23 = .ok (.ireturn, 1) := by decide +kernel
theorem dX4_kindClause_24 : decode cX4_kindClause 24 = .ok (.aload_n 0, 1) := by decide +kernel
theorem dX4_kindClause_25 : decode cX4_kindClause 25 = .ok (.getfield 82, 3) := by decide +kernel
theorem dX4_kindClause_28 : decode cX4_kindClause 28 = .ok (.istore_n 1, 1) := by decide +kernel
theorem dX4_kindClause_29 : decode cX4_kindClause 29 = .ok (.aload_n 0, 1) := by decide +kernel
theorem dX4_kindClause_30 : decode cX4_kindClause 30 = .ok (.invokevirtual 43, 3) := by decide +kernel
theorem dX4_kindClause_33 : decode cX4_kindClause 33 = .ok (.aload_n 0, 1) := by decide +kernel
theorem dX4_kindClause_34 : decode cX4_kindClause 34 = .ok (.iconst 1, 1) := by decide +kernel
theorem dX4_kindClause_35 : decode cX4_kindClause 35 = .ok (.bipush 99, 2) := by decide +kernel
theorem dX4_kindClause_37 : decode cX4_kindClause 37 = .ok (.invokevirtual 98, 3) := by decide +kernel
theorem dX4_kindClause_40 : decode cX4_kindClause 40 = .ok (.ifCond .ne 5, 3) := by decide +kernel
theorem dX4_kindClause_43 : decode cX4_kindClause 43 = .ok (.iconst 0, 1) := by decide +kernel
theorem dX4_kindClause_44 : decode cX4_kindClause 44 = .ok (.ireturn, 1) := by decide +kernel
theorem dX4_kindClause_45 : decode cX4_kindClause 45 = .ok (.aload_n 0, 1) := by decide +kernel
theorem dX4_kindClause_46 : decode cX4_kindClause 46 = .ok (.getfield 22, 3) := by decide +kernel
theorem dX4_kindClause_49 : decode cX4_kindClause 49 = .ok (.getfield 102, 3) := by decide +kernel
theorem dX4_kindClause_52 : decode cX4_kindClause 52 = .ok (.iload_n 1, 1) := by decide +kernel
theorem dX4_kindClause_53 : decode cX4_kindClause 53 = .ok (.aload_n 0, 1) := by decide +kernel
theorem dX4_kindClause_54 : decode cX4_kindClause 54 = .ok (.getfield 106, 3) := by decide +kernel
theorem dX4_kindClause_57 : decode cX4_kindClause 57 = .ok (.iastore, 1) := by decide +kernel
theorem dX4_kindClause_58 : decode cX4_kindClause 58 = .ok (.aload_n 0, 1) := by decide +kernel
theorem dX4_kindClause_59 : decode cX4_kindClause 59 = .ok (.bipush 59, 2) := by decide +kernel
theorem dX4_kindClause_61 : decode cX4_kindClause 61 = .ok (.invokevirtual 109, 3) := by decide +kernel
theorem dX4_kindClause_64 : decode cX4_kindClause 64 = .ok (.ireturn, 1) := by decide +kernel
theorem dX4_chainClause_0 : decode cX4_chainClause 0 = .ok (.aload_n 0, 1) := by decide +kernel
theorem dX4_chainClause_1 : decode cX4_chainClause 1 = .ok (.invokevirtual 43, 3) := by decide +kernel
theorem dX4_chainClause_4 : decode cX4_chainClause 4 = .ok (.aload_n 0, 1) := by decide +kernel
theorem dX4_chainClause_5 : decode cX4_chainClause 5 = .ok (.iconst 0, 1) := by decide +kernel
theorem dX4_chainClause_6 : decode cX4_chainClause 6 = .ok (.iconst 4, 1) := by decide +kernel
theorem dX4_chainClause_7 : decode cX4_chainClause 7 = .ok (.invokevirtual 112, 3) := by decide +kernel
theorem dX4_chainClause_10 : decode cX4_chainClause 10 = .ok (.ifCond .eq 17, 3) := by decide +kernel
theorem dX4_chainClause_13 : decode cX4_chainClause 13 = .ok (.aload_n 0, 1) := by decide +kernel
theorem dX4_chainClause_14 : decode cX4_chainClause 14 = .ok (.bipush 6, 2) := by decide +kernel
theorem dX4_chainClause_16 : decode cX4_chainClause 16 = .ok (.aload_n 0, 1) := by decide +kernel
theorem dX4_chainClause_17 : decode cX4_chainClause 17 = .ok (.getfield 82, 3) := by decide +kernel
theorem dX4_chainClause_20 : decode cX4_chainClause 20 = .ok (.iadd, 1) := by decide +kernel
theorem dX4_chainClause_21 : decode cX4_chainClause 21 = .ok (.invokevirtual 90, 3) := by decide +kernel
theorem dX4_chainClause_24 : decode cX4_chainClause 24 = .ok (.ifCond .ne 5, 3) := by decide +kernel
theorem dX4_chainClause_27 : decode cX4_chainClause 27 = .ok (.iconst 0, 1) := by decide +kernel
theorem dX4_chainClause_28 : decode cX4_chainClause 28 = .ok (.ireturn, 1) := by decide +kernel
theorem dX4_chainClause_29 : decode cX4_chainClause 29 = .ok (.aload_n 0, 1) := by decide +kernel
theorem dX4_chainClause_30 : decode cX4_chainClause 30 = .ok (.getfield 82, 3) := by decide +kernel
theorem dX4_chainClause_33 : decode cX4_chainClause 33 = .ok (.iconst 5, 1) := by decide +kernel
theorem dX4_chainClause_34 : decode cX4_chainClause 34 = .ok (.imul, 1) := by decide +kernel
theorem dX4_chainClause_35 : decode cX4_chainClause 35 = .ok (.istore_n 1, 1) := by decide +kernel
theorem dX4_chainClause_36 : decode cX4_chainClause 36 = .ok (.aload_n 0, 1) := by decide +kernel
theorem dX4_chainClause_37 : decode cX4_chainClause 37 = .ok (.invokevirtual 43, 3) := by decide +kernel
theorem dX4_chainClause_40 : decode cX4_chainClause 40 = .ok (.aload_n 0, 1) := by decide +kernel
theorem dX4_chainClause_41 : decode cX4_chainClause 41 = .ok (.iconst (-1), 1) := by decide +kernel
theorem dX4_chainClause_42 : decode cX4_chainClause 42 = .ok (.invokevirtual 115, 3) := by decide +kernel
theorem dX4_chainClause_45 : decode cX4_chainClause 45 = .ok (.ifCond .ne 5, 3) := by decide +kernel
theorem dX4_chainClause_48 : decode cX4_chainClause 48 = .ok (.iconst 0, 1) := by decide +kernel
theorem dX4_chainClause_49 : decode cX4_chainClause 49 = .ok (.ireturn, 1) := by decide +kernel
theorem dX4_chainClause_50 : decode cX4_chainClause 50 = .ok (.aload_n 0, 1) := by decide +kernel
theorem dX4_chainClause_51 : decode cX4_chainClause 51 = .ok (.getfield 106, 3) := by decide +kernel
theorem dX4_chainClause_54 : decode cX4_chainClause 54 = .ok (.istore_n 2, 1) := by decide +kernel
theorem dX4_chainClause_55 : decode cX4_chainClause 55 = .ok (.aload_n 0, 1) := by decide +kernel
theorem dX4_chainClause_56 : decode cX4_chainClause 56 = .ok (.getfield 22, 3) := by decide +kernel
theorem dX4_chainClause_59 : decode cX4_chainClause 59 = .ok (.getfield 118, 3) := by decide +kernel
theorem dX4_chainClause_62 : decode cX4_chainClause 62 = .ok (.iload_n 1, 1) := by decide +kernel
theorem dX4_chainClause_63 : decode cX4_chainClause 63 = .ok (.iconst 0, 1) := by decide +kernel
theorem dX4_chainClause_64 : decode cX4_chainClause 64 = .ok (.iadd, 1) := by decide +kernel
theorem dX4_chainClause_65 : decode cX4_chainClause 65 = .ok (.iload_n 2, 1) := by decide +kernel
theorem dX4_chainClause_66 : decode cX4_chainClause 66 = .ok (.iastore, 1) := by decide +kernel
theorem dX4_chainClause_67 : decode cX4_chainClause 67 = .ok (.aload_n 0, 1) := by decide +kernel
theorem dX4_chainClause_68 : decode cX4_chainClause 68 = .ok (.iconst 1, 1) := by decide +kernel
theorem dX4_chainClause_69 : decode cX4_chainClause 69 = .ok (.bipush 9, 2) := by decide +kernel
theorem dX4_chainClause_71 : decode cX4_chainClause 71 = .ok (.invokevirtual 98, 3) := by decide +kernel
theorem dX4_chainClause_74 : decode cX4_chainClause 74 = .ok (.ifCond .ne 5, 3) := by decide +kernel
theorem dX4_chainClause_77 : decode cX4_chainClause 77 = .ok (.iconst 0, 1) := by decide +kernel
theorem dX4_chainClause_78 : decode cX4_chainClause 78 = .ok (.ireturn, 1) := by decide +kernel
theorem dX4_chainClause_79 : decode cX4_chainClause 79 = .ok (.aload_n 0, 1) := by decide +kernel
theorem dX4_chainClause_80 : decode cX4_chainClause 80 = .ok (.getfield 22, 3) := by decide +kernel
theorem dX4_chainClause_83 : decode cX4_chainClause 83 = .ok (.getfield 118, 3) := by decide +kernel
theorem dX4_chainClause_86 : decode cX4_chainClause 86 = .ok (.iload_n 1, 1) := by decide +kernel
theorem dX4_chainClause_87 : decode cX4_chainClause 87 = .ok (.iconst 1, 1) := by decide +kernel
theorem dX4_chainClause_88 : decode cX4_chainClause 88 = .ok (.iadd, 1) := by decide +kernel
theorem dX4_chainClause_89 : decode cX4_chainClause 89 = .ok (.aload_n 0, 1) := by decide +kernel
theorem dX4_chainClause_90 : decode cX4_chainClause 90 = .ok (.getfield 106, 3) := by decide +kernel
theorem dX4_chainClause_93 : decode cX4_chainClause 93 = .ok (.iastore, 1) := by decide +kernel
theorem dX4_chainClause_94 : decode cX4_chainClause 94 = .ok (.aload_n 0, 1) := by decide +kernel
theorem dX4_chainClause_95 : decode cX4_chainClause 95 = .ok (.ldc 121, 2) := by decide +kernel
theorem dX4_chainClause_97 : decode cX4_chainClause 97 = .ok (.invokevirtual 123, 3) := by decide +kernel
theorem dX4_chainClause_100 : decode cX4_chainClause 100 = .ok (.ifCond .eq 11, 3) := by decide +kernel
theorem dX4_chainClause_103 : decode cX4_chainClause 103 = .ok (.aload_n 0, 1) := by decide +kernel
theorem dX4_chainClause_104 : decode cX4_chainClause 104 = .ok (.iload_n 2, 1) := by decide +kernel
theorem dX4_chainClause_105 : decode cX4_chainClause 105 = .ok (.invokevirtual 115, 3) := by decide +kernel
theorem dX4_chainClause_108 : decode cX4_chainClause 108 = .ok (.ifCond .ne 5, 3) := by decide +kernel
theorem dX4_chainClause_111 : decode cX4_chainClause 111 = .ok (.iconst 0, 1) := by decide +kernel
theorem dX4_chainClause_112 : decode cX4_chainClause 112 = .ok (.ireturn, 1) := by decide +kernel
theorem dX4_chainClause_113 : decode cX4_chainClause 113 = .ok (.aload_n 0, 1) := by decide +kernel
theorem dX4_chainClause_114 : decode cX4_chainClause 114 = .ok (.getfield 22, 3) := by decide +kernel
theorem dX4_chainClause_117 : decode cX4_chainClause 117 = .ok (.getfield 118, 3) := by decide +kernel
theorem dX4_chainClause_120 : decode cX4_chainClause 120 = .ok (.iload_n 1, 1) := by decide +kernel
theorem dX4_chainClause_121 : decode cX4_chainClause 121 = .ok (.iconst 2, 1) := by decide +kernel
theorem dX4_chainClause_122 : decode cX4_chainClause 122 = .ok (.iadd, 1) := by decide +kernel
theorem dX4_chainClause_123 : decode cX4_chainClause 123 = .ok (.aload_n 0, 1) := by decide +kernel
theorem dX4_chainClause_124 : decode cX4_chainClause 124 = .ok (.getfield 106, 3) := by decide +kernel
theorem dX4_chainClause_127 : decode cX4_chainClause 127 = .ok (.iastore, 1) := by decide +kernel
theorem dX4_chainClause_128 : decode cX4_chainClause 128 = .ok (.aload_n 0, 1) := by decide +kernel
theorem dX4_chainClause_129 : decode cX4_chainClause 129 = .ok (.iconst 1, 1) := by decide +kernel
theorem dX4_chainClause_130 : decode cX4_chainClause 130 = .ok (.bipush 9, 2) := by decide +kernel
theorem dX4_chainClause_132 : decode cX4_chainClause 132 = .ok (.invokevirtual 98, 3) := by decide +kernel
theorem dX4_chainClause_135 : decode cX4_chainClause 135 = .ok (.ifCond .ne 5, 3) := by decide +kernel
theorem dX4_chainClause_138 : decode cX4_chainClause 138 = .ok (.iconst 0, 1) := by decide +kernel
theorem dX4_chainClause_139 : decode cX4_chainClause 139 = .ok (.ireturn, 1) := by decide +kernel
theorem dX4_chainClause_140 : decode cX4_chainClause 140 = .ok (.aload_n 0, 1) := by decide +kernel
theorem dX4_chainClause_141 : decode cX4_chainClause 141 = .ok (.getfield 22, 3) := by decide +kernel
theorem dX4_chainClause_144 : decode cX4_chainClause 144 = .ok (.getfield 118, 3) := by decide +kernel
theorem dX4_chainClause_147 : decode cX4_chainClause 147 = .ok (.iload_n 1, 1) := by decide +kernel
theorem dX4_chainClause_148 : decode cX4_chainClause 148 = .ok (.iconst 3, 1) := by decide +kernel
theorem dX4_chainClause_149 : decode cX4_chainClause 149 = .ok (.iadd, 1) := by decide +kernel
theorem dX4_chainClause_150 : decode cX4_chainClause 150 = .ok (.aload_n 0, 1) := by decide +kernel
theorem dX4_chainClause_151 : decode cX4_chainClause 151 = .ok (.getfield 106, 3) := by decide +kernel
theorem dX4_chainClause_154 : decode cX4_chainClause 154 = .ok (.iastore, 1) := by decide +kernel
theorem dX4_chainClause_155 : decode cX4_chainClause 155 = .ok (.aload_n 0, 1) := by decide +kernel
theorem dX4_chainClause_156 : decode cX4_chainClause 156 = .ok (.ldc 126, 2) := by decide +kernel
theorem dX4_chainClause_158 : decode cX4_chainClause 158 = .ok (.invokevirtual 123, 3) := by decide +kernel
theorem dX4_chainClause_161 : decode cX4_chainClause 161 = .ok (.ifCond .eq 14, 3) := by decide +kernel
theorem dX4_chainClause_164 : decode cX4_chainClause 164 = .ok (.aload_n 0, 1) := by decide +kernel
theorem dX4_chainClause_165 : decode cX4_chainClause 165 = .ok (.iconst 0, 1) := by decide +kernel
theorem dX4_chainClause_166 : decode cX4_chainClause 166 = .ok (.sipush 999, 3) := by decide +kernel
theorem dX4_chainClause_169 : decode cX4_chainClause 169 = .ok (.invokevirtual 98, 3) := by decide +kernel
theorem dX4_chainClause_172 : decode cX4_chainClause 172 = .ok (.ifCond .ne 5, 3) := by decide +kernel
theorem dX4_chainClause_175 : decode cX4_chainClause 175 = .ok (.iconst 0, 1) := by decide +kernel
theorem dX4_chainClause_176 : decode cX4_chainClause 176 = .ok (.ireturn, 1) := by decide +kernel
theorem dX4_chainClause_177 : decode cX4_chainClause 177 = .ok (.aload_n 0, 1) := by decide +kernel
theorem dX4_chainClause_178 : decode cX4_chainClause 178 = .ok (.getfield 22, 3) := by decide +kernel
theorem dX4_chainClause_181 : decode cX4_chainClause 181 = .ok (.getfield 118, 3) := by decide +kernel
theorem dX4_chainClause_184 : decode cX4_chainClause 184 = .ok (.iload_n 1, 1) := by decide +kernel
theorem dX4_chainClause_185 : decode cX4_chainClause 185 = .ok (.iconst 4, 1) := by decide +kernel
theorem dX4_chainClause_186 : decode cX4_chainClause 186 = .ok (.iadd, 1) := by decide +kernel
theorem dX4_chainClause_187 : decode cX4_chainClause 187 = .ok (.aload_n 0, 1) := by decide +kernel
theorem dX4_chainClause_188 : decode cX4_chainClause 188 = .ok (.getfield 106, 3) := by decide +kernel
theorem dX4_chainClause_191 : decode cX4_chainClause 191 = .ok (.iastore, 1) := by decide +kernel
theorem dX4_chainClause_192 : decode cX4_chainClause 192 = .ok (.aload_n 0, 1) := by decide +kernel
theorem dX4_chainClause_193 : decode cX4_chainClause 193 = .ok (.bipush 59, 2) := by decide +kernel
theorem dX4_chainClause_195 : decode cX4_chainClause 195 = .ok (.invokevirtual 109, 3) := by decide +kernel
theorem dX4_chainClause_198 : decode cX4_chainClause 198 = .ok (.ireturn, 1) := by decide +kernel
theorem dX4_rateNumber_0 : decode cX4_rateNumber 0 = .ok (.aload_n 0, 1) := by decide +kernel
theorem dX4_rateNumber_1 : decode cX4_rateNumber 1 = .ok (.invokevirtual 43, 3) := by decide +kernel
theorem dX4_rateNumber_4 : decode cX4_rateNumber 4 = .ok (.aload_n 0, 1) := by decide +kernel
theorem dX4_rateNumber_5 : decode cX4_rateNumber 5 = .ok (.iconst 0, 1) := by decide +kernel
theorem dX4_rateNumber_6 : decode cX4_rateNumber 6 = .ok (.iconst 4, 1) := by decide +kernel
theorem dX4_rateNumber_7 : decode cX4_rateNumber 7 = .ok (.invokevirtual 112, 3) := by decide +kernel
theorem dX4_rateNumber_10 : decode cX4_rateNumber 10 = .ok (.ifCond .eq 21, 3) := by decide +kernel
theorem dX4_rateNumber_13 : decode cX4_rateNumber 13 = .ok (.aload_n 0, 1) := by decide +kernel
theorem dX4_rateNumber_14 : decode cX4_rateNumber 14 = .ok (.bipush 13, 2) := by decide +kernel
theorem dX4_rateNumber_16 : decode cX4_rateNumber 16 = .ok (.aload_n 0, 1) := by decide +kernel
theorem dX4_rateNumber_17 : decode cX4_rateNumber 17 = .ok (.getfield 82, 3) := by decide +kernel
theorem dX4_rateNumber_20 : decode cX4_rateNumber 20 = .ok (.iadd, 1) := by decide +kernel
theorem dX4_rateNumber_21 : decode cX4_rateNumber 21 = .ok (.invokevirtual 90, 3) := by decide +kernel
theorem dX4_rateNumber_24 : decode cX4_rateNumber 24 = .ok (.ifCond .eq 7, 3) := by decide +kernel
theorem dX4_rateNumber_27 : decode cX4_rateNumber 27 = .ok (.iconst 1, 1) := by decide +kernel
theorem dX4_rateNumber_28 : decode cX4_rateNumber 28 = .ok (.goto 4, 3) := by decide +kernel
theorem dX4_rateNumber_31 : decode cX4_rateNumber 31 = .ok (.iconst 0, 1) := by decide +kernel
theorem dX4_rateNumber_32 : decode cX4_rateNumber 32 = .ok (.ireturn, 1) := by decide +kernel
theorem dX4_tableClause_0 : decode cX4_tableClause 0 = .ok (.aload_n 0, 1) := by decide +kernel
theorem dX4_tableClause_1 : decode cX4_tableClause 1 = .ok (.invokevirtual 43, 3) := by decide +kernel
theorem dX4_tableClause_4 : decode cX4_tableClause 4 = .ok (.aload_n 0, 1) := by decide +kernel
theorem dX4_tableClause_5 : decode cX4_tableClause 5 = .ok (.getfield 22, 3) := by decide +kernel
theorem dX4_tableClause_8 : decode cX4_tableClause 8 = .ok (.getfield 128, 3) := by decide +kernel
theorem dX4_tableClause_11 : decode cX4_tableClause 11 = .ok (.iload_n 1, 1) := by decide +kernel
theorem dX4_tableClause_12 : decode cX4_tableClause 12 = .ok (.iconst 0, 1) := by decide +kernel
theorem dX4_tableClause_13 : decode cX4_tableClause 13 = .ok (.iastore, 1) := by decide +kernel
theorem dX4_tableClause_14 : decode cX4_tableClause 14 = .ok (.iconst 0, 1) := by decide +kernel
theorem dX4_tableClause_15 : decode cX4_tableClause 15 = .ok (.istore_n 2, 1) := by decide +kernel
theorem dX4_tableClause_16 : decode cX4_tableClause 16 = .ok (.iconst 0, 1) := by decide +kernel
theorem dX4_tableClause_17 : decode cX4_tableClause 17 = .ok (.istore_n 3, 1) := by decide +kernel
theorem dX4_tableClause_18 : decode cX4_tableClause 18 = .ok (.iload_n 3, 1) := by decide +kernel
theorem dX4_tableClause_19 : decode cX4_tableClause 19 = .ok (.bipush 8, 2) := by decide +kernel
theorem dX4_tableClause_21 : decode cX4_tableClause 21 = .ok (.if_icmp .ge 124, 3) := by decide +kernel
theorem dX4_tableClause_24 : decode cX4_tableClause 24 = .ok (.aload_n 0, 1) := by decide +kernel
theorem dX4_tableClause_25 : decode cX4_tableClause 25 = .ok (.iload_n 2, 1) := by decide +kernel
theorem dX4_tableClause_26 : decode cX4_tableClause 26 = .ok (.sipush 999, 3) := by decide +kernel
theorem dX4_tableClause_29 : decode cX4_tableClause 29 = .ok (.invokevirtual 112, 3) := by decide +kernel
theorem dX4_tableClause_32 : decode cX4_tableClause 32 = .ok (.ifCond .ne 5, 3) := by decide +kernel
theorem dX4_tableClause_35 : decode cX4_tableClause 35 = .ok (.iconst 0, 1) := by decide +kernel
theorem dX4_tableClause_36 : decode cX4_tableClause 36 = .ok (.ireturn, 1) := by decide +kernel
theorem dX4_tableClause_37 : decode cX4_tableClause 37 = .ok (.aload_n 0, 1) := by decide +kernel
theorem dX4_tableClause_38 : decode cX4_tableClause 38 = .ok (.getfield 82, 3) := by decide +kernel
theorem dX4_tableClause_41 : decode cX4_tableClause 41 = .ok (.istore 4, 2) := by decide +kernel
theorem dX4_tableClause_43 : decode cX4_tableClause 43 = .ok (.aload_n 0, 1) := by decide +kernel
theorem dX4_tableClause_44 : decode cX4_tableClause 44 = .ok (.invokevirtual 43, 3) := by decide +kernel
theorem dX4_tableClause_47 : decode cX4_tableClause 47 = .ok (.aload_n 0, 1) := by decide +kernel
theorem dX4_tableClause_48 : decode cX4_tableClause 48 = .ok (.bipush 61, 2) := by decide +kernel
theorem dX4_tableClause_50 : decode cX4_tableClause 50 = .ok (.invokevirtual 109, 3) := by decide +kernel
theorem dX4_tableClause_53 : decode cX4_tableClause 53 = .ok (.ifCond .eq 14, 3) := by decide +kernel
theorem dX4_tableClause_56 : decode cX4_tableClause 56 = .ok (.aload_n 0, 1) := by decide +kernel
theorem dX4_tableClause_57 : decode cX4_tableClause 57 = .ok (.iconst 0, 1) := by decide +kernel
theorem dX4_tableClause_58 : decode cX4_tableClause 58 = .ok (.sipush 9999, 3) := by decide +kernel
theorem dX4_tableClause_61 : decode cX4_tableClause 61 = .ok (.invokevirtual 98, 3) := by decide +kernel
theorem dX4_tableClause_64 : decode cX4_tableClause 64 = .ok (.ifCond .ne 5, 3) := by decide +kernel
theorem dX4_tableClause_67 : decode cX4_tableClause 67 = .ok (.iconst 0, 1) := by decide +kernel
theorem dX4_tableClause_68 : decode cX4_tableClause 68 = .ok (.ireturn, 1) := by decide +kernel
theorem dX4_tableClause_69 : decode cX4_tableClause 69 = .ok (.aload_n 0, 1) := by decide +kernel
theorem dX4_tableClause_70 : decode cX4_tableClause 70 = .ok (.getfield 106, 3) := by decide +kernel
theorem dX4_tableClause_73 : decode cX4_tableClause 73 = .ok (.istore 5, 2) := by decide +kernel
theorem dX4_tableClause_75 : decode cX4_tableClause 75 = .ok (.aload_n 0, 1) := by decide +kernel
theorem dX4_tableClause_76 : decode cX4_tableClause 76 = .ok (.ldc 121, 2) := by decide +kernel
theorem dX4_tableClause_78 : decode cX4_tableClause 78 = .ok (.invokevirtual 123, 3) := by decide +kernel
theorem dX4_tableClause_81 : decode cX4_tableClause 81 = .ok (.ifCond .eq 15, 3) := by decide +kernel
theorem dX4_tableClause_84 : decode cX4_tableClause 84 = .ok (.aload_n 0, 1) := by decide +kernel
theorem dX4_tableClause_85 : decode cX4_tableClause 85 = .ok (.iload 5, 2) := by decide +kernel
theorem dX4_tableClause_87 : decode cX4_tableClause 87 = .ok (.sipush 9999, 3) := by decide +kernel
theorem dX4_tableClause_90 : decode cX4_tableClause 90 = .ok (.invokevirtual 98, 3) := by decide +kernel
theorem dX4_tableClause_93 : decode cX4_tableClause 93 = .ok (.ifCond .ne 5, 3) := by decide +kernel
theorem dX4_tableClause_96 : decode cX4_tableClause 96 = .ok (.iconst 0, 1) := by decide +kernel
theorem dX4_tableClause_97 : decode cX4_tableClause 97 = .ok (.ireturn, 1) := by decide +kernel
theorem dX4_tableClause_98 : decode cX4_tableClause 98 = .ok (.aload_n 0, 1) := by decide +kernel
theorem dX4_tableClause_99 : decode cX4_tableClause 99 = .ok (.getfield 22, 3) := by decide +kernel
theorem dX4_tableClause_102 : decode cX4_tableClause 102 = .ok (.iload_n 1, 1) := by decide +kernel
theorem dX4_tableClause_103 : decode cX4_tableClause 103 = .ok (.iload 4, 2) := by decide +kernel
theorem dX4_tableClause_105 : decode cX4_tableClause 105 = .ok (.iload 5, 2) := by decide +kernel
theorem dX4_tableClause_107 : decode cX4_tableClause 107 = .ok (.aload_n 0, 1) := by decide +kernel
theorem dX4_tableClause_108 : decode cX4_tableClause 108 = .ok (.getfield 106, 3) := by decide +kernel
theorem dX4_tableClause_111 : decode cX4_tableClause 111 = .ok (.invokevirtual 131, 3) := by decide +kernel
theorem dX4_tableClause_114 : decode cX4_tableClause 114 = .ok (.aload_n 0, 1) := by decide +kernel
theorem dX4_tableClause_115 : decode cX4_tableClause 115 = .ok (.getfield 46, 3) := by decide +kernel
theorem dX4_tableClause_118 : decode cX4_tableClause 118 = .ok (.bipush 44, 2) := by decide +kernel
theorem dX4_tableClause_120 : decode cX4_tableClause 120 = .ok (.if_icmp .eq 10, 3) := by decide +kernel
theorem dX4_tableClause_123 : decode cX4_tableClause 123 = .ok (.aload_n 0, 1) := by decide +kernel
theorem dX4_tableClause_124 : decode cX4_tableClause 124 = .ok (.bipush 59, 2) := by decide +kernel
theorem dX4_tableClause_126 : decode cX4_tableClause 126 = .ok (.invokevirtual 109, 3) := by decide +kernel
theorem dX4_tableClause_129 : decode cX4_tableClause 129 = .ok (.ireturn, 1) := by decide +kernel
theorem dX4_tableClause_130 : decode cX4_tableClause 130 = .ok (.aload_n 0, 1) := by decide +kernel
theorem dX4_tableClause_131 : decode cX4_tableClause 131 = .ok (.invokevirtual 43, 3) := by decide +kernel
theorem dX4_tableClause_134 : decode cX4_tableClause 134 = .ok (.iload 4, 2) := by decide +kernel
theorem dX4_tableClause_136 : decode cX4_tableClause 136 = .ok (.iconst 1, 1) := by decide +kernel
theorem dX4_tableClause_137 : decode cX4_tableClause 137 = .ok (.iadd, 1) := by decide +kernel
theorem dX4_tableClause_138 : decode cX4_tableClause 138 = .ok (.istore_n 2, 1) := by decide +kernel
theorem dX4_tableClause_139 : decode cX4_tableClause 139 = .ok (.iinc 3 1, 3) := by decide +kernel
theorem dX4_tableClause_142 : decode cX4_tableClause 142 = .ok (.goto (-124), 3) := by decide +kernel
theorem dX4_tableClause_145 : decode cX4_tableClause 145 = .ok (.aload_n 0, 1) := by decide +kernel
theorem dX4_tableClause_146 : decode cX4_tableClause 146 = .ok (.iload_n 2, 1) := by decide +kernel
theorem dX4_tableClause_147 : decode cX4_tableClause 147 = .ok (.sipush 999, 3) := by decide +kernel
theorem dX4_tableClause_150 : decode cX4_tableClause 150 = .ok (.invokevirtual 112, 3) := by decide +kernel
theorem dX4_tableClause_153 : decode cX4_tableClause 153 = .ok (.ifCond .eq 15, 3) := by decide +kernel
theorem dX4_tableClause_156 : decode cX4_tableClause 156 = .ok (.aload_n 0, 1) := by decide +kernel
theorem dX4_tableClause_157 : decode cX4_tableClause 157 = .ok (.iconst 5, 1) := by decide +kernel
theorem dX4_tableClause_158 : decode cX4_tableClause 158 = .ok (.invokevirtual 56, 3) := by decide +kernel
theorem dX4_tableClause_161 : decode cX4_tableClause 161 = .ok (.ifCond .eq 7, 3) := by decide +kernel
theorem dX4_tableClause_164 : decode cX4_tableClause 164 = .ok (.iconst 1, 1) := by decide +kernel
theorem dX4_tableClause_165 : decode cX4_tableClause 165 = .ok (.goto 4, 3) := by decide +kernel
theorem dX4_tableClause_168 : decode cX4_tableClause 168 = .ok (.iconst 0, 1) := by decide +kernel
theorem dX4_tableClause_169 : decode cX4_tableClause 169 = .ok (.ireturn, 1) := by decide +kernel
theorem dX4_blame_0 : decode cX4_blame 0 = .ok (.aload_n 0, 1) := by decide +kernel
theorem dX4_blame_1 : decode cX4_blame 1 = .ok (.iload_n 1, 1) := by decide +kernel
theorem dX4_blame_2 : decode cX4_blame 2 = .ok (.putfield 34, 3) := by decide +kernel
theorem dX4_blame_5 : decode cX4_blame 5 = .ok (.aload_n 0, 1) := by decide +kernel
theorem dX4_blame_6 : decode cX4_blame 6 = .ok (.aload_n 0, 1) := by decide +kernel
theorem dX4_blame_7 : decode cX4_blame 7 = .ok (.getfield 135, 3) := by decide +kernel
theorem dX4_blame_10 : decode cX4_blame 10 = .ok (.putfield 37, 3) := by decide +kernel
theorem dX4_blame_13 : decode cX4_blame 13 = .ok (.iconst 0, 1) := by decide +kernel
theorem dX4_blame_14 : decode cX4_blame 14 = .ok (.ireturn, 1) := by decide +kernel
theorem dX4_once_0 : decode cX4_once 0 = .ok (.aload_n 0, 1) := by decide +kernel
theorem dX4_once_1 : decode cX4_once 1 = .ok (.getfield 11, 3) := by decide +kernel
theorem dX4_once_4 : decode cX4_once 4 = .ok (.iload_n 1, 1) := by decide +kernel
theorem dX4_once_5 : decode cX4_once 5 = .ok (.baload, 1) := by decide +kernel
theorem dX4_once_6 : decode cX4_once 6 = .ok (.ifCond .eq 9, 3) := by decide +kernel
theorem dX4_once_9 : decode cX4_once 9 = .ok (.aload_n 0, 1) := by decide +kernel
theorem dX4_once_10 : decode cX4_once 10 = .ok (.iconst 4, 1) := by decide +kernel
theorem dX4_once_11 : decode cX4_once 11 = .ok (.invokevirtual 56, 3) := by decide +kernel
theorem dX4_once_14 : decode cX4_once 14 = .ok (.ireturn, 1) := by decide +kernel
theorem dX4_once_15 : decode cX4_once 15 = .ok (.aload_n 0, 1) := by decide +kernel
theorem dX4_once_16 : decode cX4_once 16 = .ok (.getfield 11, 3) := by decide +kernel
theorem dX4_once_19 : decode cX4_once 19 = .ok (.iload_n 1, 1) := by decide +kernel
theorem dX4_once_20 : decode cX4_once 20 = .ok (.iconst 1, 1) := by decide +kernel
theorem dX4_once_21 : decode cX4_once 21 = .ok (.bastore, 1) := by decide +kernel
theorem dX4_once_22 : decode cX4_once 22 = .ok (.iconst 1, 1) := by decide +kernel
theorem dX4_once_23 : decode cX4_once 23 = .ok (.ireturn, 1) := by decide +kernel
theorem dX4_atKind_0 : decode cX4_atKind 0 = .ok (.aload_n 0, 1) := by decide +kernel
theorem dX4_atKind_1 : decode cX4_atKind 1 = .ok (.getfield 46, 3) := by decide +kernel
theorem dX4_atKind_4 : decode cX4_atKind 4 = .ok (.iconst 1, 1) := by decide +kernel
theorem dX4_atKind_5 : decode cX4_atKind 5 = .ok (.if_icmp .ne 31, 3) := by decide +kernel
theorem dX4_atKind_8 : decode cX4_atKind 8 = .ok (.aload_n 0, 1) := by decide +kernel
theorem dX4_atKind_9 : decode cX4_atKind 9 = .ok (.getfield 40, 3) := by decide +kernel
theorem dX4_atKind_12 : decode cX4_atKind 12 = .ok (.aload_n 0, 1) := by decide +kernel
theorem dX4_atKind_13 : decode cX4_atKind 13 = .ok (.getfield 135, 3) := by decide +kernel
theorem dX4_atKind_16 : decode cX4_atKind 16 = .ok (.isub, 1) := by decide +kernel
theorem dX4_atKind_17 : decode cX4_atKind 17 = .ok (.iconst 1, 1) := by decide +kernel
theorem dX4_atKind_18 : decode cX4_atKind 18 = .ok (.if_icmp .ne 18, 3) := by decide +kernel
theorem dX4_atKind_21 : decode cX4_atKind 21 = .ok (.aload_n 0, 1) := by decide +kernel
theorem dX4_atKind_22 : decode cX4_atKind 22 = .ok (.getfield 15, 3) := by decide +kernel
theorem dX4_atKind_25 : decode cX4_atKind 25 = .ok (.getfield 138, 3) := by decide +kernel
theorem dX4_atKind_28 : decode cX4_atKind 28 = .ok (.aload_n 0, 1) := by decide +kernel
theorem dX4_atKind_29 : decode cX4_atKind 29 = .ok (.getfield 135, 3) := by decide +kernel
theorem dX4_atKind_32 : decode cX4_atKind 32 = .ok (.iaload, 1) := by decide +kernel
theorem dX4_atKind_33 : decode cX4_atKind 33 = .ok (.goto 4, 3) := by decide +kernel
theorem dX4_atKind_36 : decode cX4_atKind 36 = .ok (.iconst 0, 1) := by decide +kernel
theorem dX4_atKind_37 : decode cX4_atKind 37 = .ok (.istore_n 1, 1) := by decide +kernel
theorem dX4_atKind_38 : decode cX4_atKind 38 = .ok (.iload_n 1, 1) := by decide +kernel
theorem dX4_atKind_39 : decode cX4_atKind 39 = .ok (.bipush 65, 2) := by decide +kernel
theorem dX4_atKind_41 : decode cX4_atKind 41 = .ok (.if_icmp .lt 9, 3) := by decide +kernel
theorem dX4_atKind_44 : decode cX4_atKind 44 = .ok (.iload_n 1, 1) := by decide +kernel
theorem dX4_atKind_45 : decode cX4_atKind 45 = .ok (.bipush 71, 2) := by decide +kernel
theorem dX4_atKind_47 : decode cX4_atKind 47 = .ok (.if_icmp .lt 9, 3) := by decide +kernel
theorem dX4_atKind_50 : decode cX4_atKind 50 = .ok (.aload_n 0, 1) := by decide +kernel
theorem dX4_atKind_51 : decode cX4_atKind 51 = .ok (.iconst 1, 1) := by decide +kernel
theorem dX4_atKind_52 : decode cX4_atKind 52 = .ok (.invokevirtual 56, 3) := by decide +kernel
theorem dX4_atKind_55 : decode cX4_atKind 55 = .ok (.ireturn, 1) := by decide +kernel
theorem dX4_atKind_56 : decode cX4_atKind 56 = .ok (.aload_n 0, 1) := by decide +kernel
theorem dX4_atKind_57 : decode cX4_atKind 57 = .ok (.iload_n 1, 1) := by decide +kernel
theorem dX4_atKind_58 : decode cX4_atKind 58 = .ok (.bipush 65, 2) := by decide +kernel
theorem dX4_atKind_60 : decode cX4_atKind 60 = .ok (.isub, 1) := by decide +kernel
theorem dX4_atKind_61 : decode cX4_atKind 61 = .ok (.putfield 82, 3) := by decide +kernel
theorem dX4_atKind_64 : decode cX4_atKind 64 = .ok (.iconst 1, 1) := by decide +kernel
theorem dX4_atKind_65 : decode cX4_atKind 65 = .ok (.ireturn, 1) := by decide +kernel
theorem dX4_takeKind_0 : decode cX4_takeKind 0 = .ok (.aload_n 0, 1) := by decide +kernel
theorem dX4_takeKind_1 : decode cX4_takeKind 1 = .ok (.invokevirtual 95, 3) := by decide +kernel
theorem dX4_takeKind_4 : decode cX4_takeKind 4 = .ok (.ifCond .ne 5, 3) := by decide +kernel
theorem dX4_takeKind_7 : decode cX4_takeKind 7 = .ok (.iconst 0, 1) := by decide +kernel
theorem dX4_takeKind_8 : decode cX4_takeKind 8 = .ok (.ireturn, 1) := by decide +kernel
theorem dX4_takeKind_9 : decode cX4_takeKind 9 = .ok (.aload_n 0, 1) := by decide +kernel
theorem dX4_takeKind_10 : decode cX4_takeKind 10 = .ok (.getfield 82, 3) := by decide +kernel
theorem dX4_takeKind_13 : decode cX4_takeKind 13 = .ok (.iload_n 1, 1) := by decide +kernel
theorem dX4_takeKind_14 : decode cX4_takeKind 14 = .ok (.if_icmp .ne 9, 3) := by decide +kernel
theorem dX4_takeKind_17 : decode cX4_takeKind 17 = .ok (.aload_n 0, 1) := by decide +kernel
theorem dX4_takeKind_18 : decode cX4_takeKind 18 = .ok (.iconst 3, 1) := by decide +kernel
theorem dX4_takeKind_19 : decode cX4_takeKind 19 = .ok (.invokevirtual 56, 3) := by decide +kernel
theorem dX4_takeKind_22 : decode cX4_takeKind 22 = .ok (.ireturn, 1) := by decide +kernel
theorem dX4_takeKind_23 : decode cX4_takeKind 23 = .ok (.aload_n 0, 1) := by decide +kernel
theorem dX4_takeKind_24 : decode cX4_takeKind 24 = .ok (.aload_n 0, 1) := by decide +kernel
theorem dX4_takeKind_25 : decode cX4_takeKind 25 = .ok (.getfield 82, 3) := by decide +kernel
theorem dX4_takeKind_28 : decode cX4_takeKind 28 = .ok (.putfield 106, 3) := by decide +kernel
theorem dX4_takeKind_31 : decode cX4_takeKind 31 = .ok (.aload_n 0, 1) := by decide +kernel
theorem dX4_takeKind_32 : decode cX4_takeKind 32 = .ok (.invokevirtual 43, 3) := by decide +kernel
theorem dX4_takeKind_35 : decode cX4_takeKind 35 = .ok (.iconst 1, 1) := by decide +kernel
theorem dX4_takeKind_36 : decode cX4_takeKind 36 = .ok (.ireturn, 1) := by decide +kernel
theorem dX4_atNumber_0 : decode cX4_atNumber 0 = .ok (.aload_n 0, 1) := by decide +kernel
theorem dX4_atNumber_1 : decode cX4_atNumber 1 = .ok (.getfield 46, 3) := by decide +kernel
theorem dX4_atNumber_4 : decode cX4_atNumber 4 = .ok (.iconst 2, 1) := by decide +kernel
theorem dX4_atNumber_5 : decode cX4_atNumber 5 = .ok (.if_icmp .eq 9, 3) := by decide +kernel
theorem dX4_atNumber_8 : decode cX4_atNumber 8 = .ok (.aload_n 0, 1) := by decide +kernel
theorem dX4_atNumber_9 : decode cX4_atNumber 9 = .ok (.iconst 1, 1) := by decide +kernel
theorem dX4_atNumber_10 : decode cX4_atNumber 10 = .ok (.invokevirtual 56, 3) := by decide +kernel
theorem dX4_atNumber_13 : decode cX4_atNumber 13 = .ok (.ireturn, 1) := by decide +kernel
theorem dX4_atNumber_14 : decode cX4_atNumber 14 = .ok (.aload_n 0, 1) := by decide +kernel
theorem dX4_atNumber_15 : decode cX4_atNumber 15 = .ok (.getfield 82, 3) := by decide +kernel
theorem dX4_atNumber_18 : decode cX4_atNumber 18 = .ok (.iload_n 1, 1) := by decide +kernel
theorem dX4_atNumber_19 : decode cX4_atNumber 19 = .ok (.if_icmp .lt 11, 3) := by decide +kernel
theorem dX4_atNumber_22 : decode cX4_atNumber 22 = .ok (.aload_n 0, 1) := by decide +kernel
theorem dX4_atNumber_23 : decode cX4_atNumber 23 = .ok (.getfield 82, 3) := by decide +kernel
theorem dX4_atNumber_26 : decode cX4_atNumber 26 = .ok (.iload_n 2, 1) := by decide +kernel
theorem dX4_atNumber_27 : decode cX4_atNumber 27 = .ok (.if_icmp .le 11, 3) := by decide +kernel
theorem dX4_atNumber_30 : decode cX4_atNumber 30 = .ok (.aload_n 0, 1) := by decide +kernel
theorem dX4_atNumber_31 : decode cX4_atNumber 31 = .ok (.iconst 2, 1) := by decide +kernel
theorem dX4_atNumber_32 : decode cX4_atNumber 32 = .ok (.invokevirtual 56, 3) := by decide +kernel
theorem dX4_atNumber_35 : decode cX4_atNumber 35 = .ok (.ifCond .eq 7, 3) := by decide +kernel
theorem dX4_atNumber_38 : decode cX4_atNumber 38 = .ok (.iconst 1, 1) := by decide +kernel
theorem dX4_atNumber_39 : decode cX4_atNumber 39 = .ok (.goto 4, 3) := by decide +kernel
theorem dX4_atNumber_42 : decode cX4_atNumber 42 = .ok (.iconst 0, 1) := by decide +kernel
theorem dX4_atNumber_43 : decode cX4_atNumber 43 = .ok (.ireturn, 1) := by decide +kernel
theorem dX4_takeNumber_0 : decode cX4_takeNumber 0 = .ok (.aload_n 0, 1) := by decide +kernel
theorem dX4_takeNumber_1 : decode cX4_takeNumber 1 = .ok (.iload_n 1, 1) := by decide +kernel
theorem dX4_takeNumber_2 : decode cX4_takeNumber 2 = .ok (.iload_n 2, 1) := by decide +kernel
theorem dX4_takeNumber_3 : decode cX4_takeNumber 3 = .ok (.invokevirtual 112, 3) := by decide +kernel
theorem dX4_takeNumber_6 : decode cX4_takeNumber 6 = .ok (.ifCond .ne 5, 3) := by decide +kernel
theorem dX4_takeNumber_9 : decode cX4_takeNumber 9 = .ok (.iconst 0, 1) := by decide +kernel
theorem dX4_takeNumber_10 : decode cX4_takeNumber 10 = .ok (.ireturn, 1) := by decide +kernel
theorem dX4_takeNumber_11 : decode cX4_takeNumber 11 = .ok (.aload_n 0, 1) := by decide +kernel
theorem dX4_takeNumber_12 : decode cX4_takeNumber 12 = .ok (.aload_n 0, 1) := by decide +kernel
theorem dX4_takeNumber_13 : decode cX4_takeNumber 13 = .ok (.getfield 82, 3) := by decide +kernel
theorem dX4_takeNumber_16 : decode cX4_takeNumber 16 = .ok (.putfield 106, 3) := by decide +kernel
theorem dX4_takeNumber_19 : decode cX4_takeNumber 19 = .ok (.aload_n 0, 1) := by decide +kernel
theorem dX4_takeNumber_20 : decode cX4_takeNumber 20 = .ok (.invokevirtual 43, 3) := by decide +kernel
theorem dX4_takeNumber_23 : decode cX4_takeNumber 23 = .ok (.iconst 1, 1) := by decide +kernel
theorem dX4_takeNumber_24 : decode cX4_takeNumber 24 = .ok (.ireturn, 1) := by decide +kernel
theorem dX4_takeWord_0 : decode cX4_takeWord 0 = .ok (.aload_n 0, 1) := by decide +kernel
theorem dX4_takeWord_1 : decode cX4_takeWord 1 = .ok (.aload_n 1, 1) := by decide +kernel
theorem dX4_takeWord_2 : decode cX4_takeWord 2 = .ok (.invokevirtual 62, 3) := by decide +kernel
theorem dX4_takeWord_5 : decode cX4_takeWord 5 = .ok (.ifCond .ne 9, 3) := by decide +kernel
theorem dX4_takeWord_8 : decode cX4_takeWord 8 = .ok (.aload_n 0, 1) := by decide +kernel
theorem dX4_takeWord_9 : decode cX4_takeWord 9 = .ok (.iconst 1, 1) := by decide +kernel
theorem dX4_takeWord_10 : decode cX4_takeWord 10 = .ok (.invokevirtual 56, 3) := by decide +kernel
theorem dX4_takeWord_13 : decode cX4_takeWord 13 = .ok (.ireturn, 1) := by decide +kernel
theorem dX4_takeWord_14 : decode cX4_takeWord 14 = .ok (.aload_n 0, 1) := by decide +kernel
theorem dX4_takeWord_15 : decode cX4_takeWord 15 = .ok (.invokevirtual 43, 3) := by decide +kernel
theorem dX4_takeWord_18 : decode cX4_takeWord 18 = .ok (.iconst 1, 1) := by decide +kernel
theorem dX4_takeWord_19 : decode cX4_takeWord 19 = .ok (.ireturn, 1) := by decide +kernel
theorem dX4_takeSign_0 : decode cX4_takeSign 0 = .ok (.aload_n 0, 1) := by decide +kernel
theorem dX4_takeSign_1 : decode cX4_takeSign 1 = .ok (.getfield 46, 3) := by decide +kernel
theorem dX4_takeSign_4 : decode cX4_takeSign 4 = .ok (.iload_n 1, 1) := by decide +kernel
theorem dX4_takeSign_5 : decode cX4_takeSign 5 = .ok (.if_icmp .eq 9, 3) := by decide +kernel
theorem dX4_takeSign_8 : decode cX4_takeSign 8 = .ok (.aload_n 0, 1) := by decide +kernel
theorem dX4_takeSign_9 : decode cX4_takeSign 9 = .ok (.iconst 1, 1) := by decide +kernel
theorem dX4_takeSign_10 : decode cX4_takeSign 10 = .ok (.invokevirtual 56, 3) := by decide +kernel
theorem dX4_takeSign_13 : decode cX4_takeSign 13 = .ok (.ireturn, 1) := by decide +kernel
theorem dX4_takeSign_14 : decode cX4_takeSign 14 = .ok (.aload_n 0, 1) := by decide +kernel
theorem dX4_takeSign_15 : decode cX4_takeSign 15 = .ok (.invokevirtual 43, 3) := by decide +kernel
theorem dX4_takeSign_18 : decode cX4_takeSign 18 = .ok (.iconst 1, 1) := by decide +kernel
theorem dX4_takeSign_19 : decode cX4_takeSign 19 = .ok (.ireturn, 1) := by decide +kernel
theorem dX4_isWord_0 : decode cX4_isWord 0 = .ok (.aload_n 0, 1) := by decide +kernel
theorem dX4_isWord_1 : decode cX4_isWord 1 = .ok (.getfield 46, 3) := by decide +kernel
theorem dX4_isWord_4 : decode cX4_isWord 4 = .ok (.iconst 1, 1) := by decide +kernel
theorem dX4_isWord_5 : decode cX4_isWord 5 = .ok (.if_icmp .ne 19, 3) := by decide +kernel
theorem dX4_isWord_8 : decode cX4_isWord 8 = .ok (.aload_n 0, 1) := by decide +kernel
theorem dX4_isWord_9 : decode cX4_isWord 9 = .ok (.getfield 40, 3) := by decide +kernel
theorem dX4_isWord_12 : decode cX4_isWord 12 = .ok (.aload_n 0, 1) := by decide +kernel
theorem dX4_isWord_13 : decode cX4_isWord 13 = .ok (.getfield 135, 3) := by decide +kernel
theorem dX4_isWord_16 : decode cX4_isWord 16 = .ok (.isub, 1) := by decide +kernel
theorem dX4_isWord_17 : decode cX4_isWord 17 = .ok (.aload_n 1, 1) := by decide +kernel
theorem dX4_isWord_18 : decode cX4_isWord 18 = .ok (.invokevirtual 143, 3) := by decide +kernel
theorem dX4_isWord_21 : decode cX4_isWord 21 = .ok (.if_icmp .eq 5, 3) := by decide +kernel
theorem dX4_isWord_24 : decode cX4_isWord 24 = .ok (.iconst 0, 1) := by decide +kernel
theorem dX4_isWord_25 : decode cX4_isWord 25 = .ok (.ireturn, 1) := by decide +kernel
theorem dX4_isWord_26 : decode cX4_isWord 26 = .ok (.iconst 0, 1) := by decide +kernel
theorem dX4_isWord_27 : decode cX4_isWord 27 = .ok (.istore_n 2, 1) := by decide +kernel
theorem dX4_isWord_28 : decode cX4_isWord 28 = .ok (.iload_n 2, 1) := by decide +kernel
theorem dX4_isWord_29 : decode cX4_isWord 29 = .ok (.aload_n 1, 1) := by decide +kernel
theorem dX4_isWord_30 : decode cX4_isWord 30 = .ok (.invokevirtual 143, 3) := by decide +kernel
theorem dX4_isWord_33 : decode cX4_isWord 33 = .ok (.if_icmp .ge 33, 3) := by decide +kernel
theorem dX4_isWord_36 : decode cX4_isWord 36 = .ok (.aload_n 0, 1) := by decide +kernel
theorem dX4_isWord_37 : decode cX4_isWord 37 = .ok (.getfield 15, 3) := by decide +kernel
theorem dX4_isWord_40 : decode cX4_isWord 40 = .ok (.getfield 138, 3) := by decide +kernel
theorem dX4_isWord_43 : decode cX4_isWord 43 = .ok (.aload_n 0, 1) := by decide +kernel
theorem dX4_isWord_44 : decode cX4_isWord 44 = .ok (.getfield 135, 3) := by decide +kernel
theorem dX4_isWord_47 : decode cX4_isWord 47 = .ok (.iload_n 2, 1) := by decide +kernel
theorem dX4_isWord_48 : decode cX4_isWord 48 = .ok (.iadd, 1) := by decide +kernel
theorem dX4_isWord_49 : decode cX4_isWord 49 = .ok (.iaload, 1) := by decide +kernel
theorem dX4_isWord_50 : decode cX4_isWord 50 = .ok (.aload_n 1, 1) := by decide +kernel
theorem dX4_isWord_51 : decode cX4_isWord 51 = .ok (.iload_n 2, 1) := by decide +kernel
theorem dX4_isWord_52 : decode cX4_isWord 52 = .ok (.invokevirtual 149, 3) := by decide +kernel
theorem dX4_isWord_55 : decode cX4_isWord 55 = .ok (.if_icmp .eq 5, 3) := by decide +kernel
theorem dX4_isWord_58 : decode cX4_isWord 58 = .ok (.iconst 0, 1) := by decide +kernel
theorem dX4_isWord_59 : decode cX4_isWord 59 = .ok (.ireturn, 1) := by decide +kernel
theorem dX4_isWord_60 : decode cX4_isWord 60 = .ok (.iinc 2 1, 3) := by decide +kernel
theorem dX4_isWord_63 : decode cX4_isWord 63 = .ok (.goto (-35), 3) := by decide +kernel
theorem dX4_isWord_66 : decode cX4_isWord 66 = .ok (.iconst 1, 1) := by decide +kernel
theorem dX4_isWord_67 : decode cX4_isWord 67 = .ok (.ireturn, 1) := by decide +kernel
theorem dX4_next_0 : decode cX4_next 0 = .ok (.aload_n 0, 1) := by decide +kernel
theorem dX4_next_1 : decode cX4_next 1 = .ok (.aload_n 0, 1) := by decide +kernel
theorem dX4_next_2 : decode cX4_next 2 = .ok (.getfield 40, 3) := by decide +kernel
theorem dX4_next_5 : decode cX4_next 5 = .ok (.putfield 135, 3) := by decide +kernel
theorem dX4_next_8 : decode cX4_next 8 = .ok (.aload_n 0, 1) := by decide +kernel
theorem dX4_next_9 : decode cX4_next 9 = .ok (.getfield 135, 3) := by decide +kernel
theorem dX4_next_12 : decode cX4_next 12 = .ok (.aload_n 0, 1) := by decide +kernel
theorem dX4_next_13 : decode cX4_next 13 = .ok (.getfield 15, 3) := by decide +kernel
theorem dX4_next_16 : decode cX4_next 16 = .ok (.getfield 153, 3) := by decide +kernel
theorem dX4_next_19 : decode cX4_next 19 = .ok (.if_icmp .ge 34, 3) := by decide +kernel
theorem dX4_next_22 : decode cX4_next 22 = .ok (.aload_n 0, 1) := by decide +kernel
theorem dX4_next_23 : decode cX4_next 23 = .ok (.getfield 15, 3) := by decide +kernel
theorem dX4_next_26 : decode cX4_next 26 = .ok (.getfield 138, 3) := by decide +kernel
theorem dX4_next_29 : decode cX4_next 29 = .ok (.aload_n 0, 1) := by decide +kernel
theorem dX4_next_30 : decode cX4_next 30 = .ok (.getfield 135, 3) := by decide +kernel
theorem dX4_next_33 : decode cX4_next 33 = .ok (.iaload, 1) := by decide +kernel
theorem dX4_next_34 : decode cX4_next 34 = .ok (.invokestatic 155, 3) := by decide +kernel
theorem dX4_next_37 : decode cX4_next 37 = .ok (.ifCond .eq 16, 3) := by decide +kernel
theorem dX4_next_40 : decode cX4_next 40 = .ok (.aload_n 0, 1) := by decide +kernel
theorem dX4_next_41 : decode cX4_next 41 = .ok (.dup, 1) := by decide +kernel
theorem dX4_next_42 : decode cX4_next 42 = .ok (.getfield 135, 3) := by decide +kernel
theorem dX4_next_45 : decode cX4_next 45 = .ok (.iconst 1, 1) := by decide +kernel
theorem dX4_next_46 : decode cX4_next 46 = .ok (.iadd, 1) := by decide +kernel
theorem dX4_next_47 : decode cX4_next 47 = .ok (.putfield 135, 3) := by decide +kernel
theorem dX4_next_50 : decode cX4_next 50 = .ok (.goto (-42), 3) := by decide +kernel
theorem dX4_next_53 : decode cX4_next 53 = .ok (.aload_n 0, 1) := by decide +kernel
theorem dX4_next_54 : decode cX4_next 54 = .ok (.aload_n 0, 1) := by decide +kernel
theorem dX4_next_55 : decode cX4_next 55 = .ok (.getfield 135, 3) := by decide +kernel
theorem dX4_next_58 : decode cX4_next 58 = .ok (.putfield 40, 3) := by decide +kernel
theorem dX4_next_61 : decode cX4_next 61 = .ok (.aload_n 0, 1) := by decide +kernel
theorem dX4_next_62 : decode cX4_next 62 = .ok (.iconst 0, 1) := by decide +kernel
theorem dX4_next_63 : decode cX4_next 63 = .ok (.putfield 82, 3) := by decide +kernel
theorem dX4_next_66 : decode cX4_next 66 = .ok (.aload_n 0, 1) := by decide +kernel
theorem dX4_next_67 : decode cX4_next 67 = .ok (.getfield 135, 3) := by decide +kernel
theorem dX4_next_70 : decode cX4_next 70 = .ok (.aload_n 0, 1) := by decide +kernel
theorem dX4_next_71 : decode cX4_next 71 = .ok (.getfield 15, 3) := by decide +kernel
theorem dX4_next_74 : decode cX4_next 74 = .ok (.getfield 153, 3) := by decide +kernel
theorem dX4_next_77 : decode cX4_next 77 = .ok (.if_icmp .lt 11, 3) := by decide +kernel
theorem dX4_next_80 : decode cX4_next 80 = .ok (.aload_n 0, 1) := by decide +kernel
theorem dX4_next_81 : decode cX4_next 81 = .ok (.iconst 0, 1) := by decide +kernel
theorem dX4_next_82 : decode cX4_next 82 = .ok (.putfield 46, 3) := by decide +kernel
theorem dX4_next_85 : decode cX4_next 85 = .ok (.goto 221, 3) := by decide +kernel
theorem dX4_next_88 : decode cX4_next 88 = .ok (.aload_n 0, 1) := by decide +kernel
theorem dX4_next_89 : decode cX4_next 89 = .ok (.getfield 15, 3) := by decide +kernel
theorem dX4_next_92 : decode cX4_next 92 = .ok (.getfield 138, 3) := by decide +kernel
theorem dX4_next_95 : decode cX4_next 95 = .ok (.aload_n 0, 1) := by decide +kernel
theorem dX4_next_96 : decode cX4_next 96 = .ok (.getfield 135, 3) := by decide +kernel
theorem dX4_next_99 : decode cX4_next 99 = .ok (.iaload, 1) := by decide +kernel
theorem dX4_next_100 : decode cX4_next 100 = .ok (.invokestatic 158, 3) := by decide +kernel
theorem dX4_next_103 : decode cX4_next 103 = .ok (.ifCond .eq 53, 3) := by decide +kernel
theorem dX4_next_106 : decode cX4_next 106 = .ok (.aload_n 0, 1) := by decide +kernel
theorem dX4_next_107 : decode cX4_next 107 = .ok (.iconst 1, 1) := by decide +kernel
theorem dX4_next_108 : decode cX4_next 108 = .ok (.putfield 46, 3) := by decide +kernel
theorem dX4_next_111 : decode cX4_next 111 = .ok (.aload_n 0, 1) := by decide +kernel
theorem dX4_next_112 : decode cX4_next 112 = .ok (.getfield 40, 3) := by decide +kernel
theorem dX4_next_115 : decode cX4_next 115 = .ok (.aload_n 0, 1) := by decide +kernel
theorem dX4_next_116 : decode cX4_next 116 = .ok (.getfield 15, 3) := by decide +kernel
theorem dX4_next_119 : decode cX4_next 119 = .ok (.getfield 153, 3) := by decide +kernel
theorem dX4_next_122 : decode cX4_next 122 = .ok (.if_icmp .ge 184, 3) := by decide +kernel
theorem dX4_next_125 : decode cX4_next 125 = .ok (.aload_n 0, 1) := by decide +kernel
theorem dX4_next_126 : decode cX4_next 126 = .ok (.getfield 15, 3) := by decide +kernel
theorem dX4_next_129 : decode cX4_next 129 = .ok (.getfield 138, 3) := by decide +kernel
theorem dX4_next_132 : decode cX4_next 132 = .ok (.aload_n 0, 1) := by decide +kernel
theorem dX4_next_133 : decode cX4_next 133 = .ok (.getfield 40, 3) := by decide +kernel
theorem dX4_next_136 : decode cX4_next 136 = .ok (.iaload, 1) := by decide +kernel
theorem dX4_next_137 : decode cX4_next 137 = .ok (.invokestatic 158, 3) := by decide +kernel
theorem dX4_next_140 : decode cX4_next 140 = .ok (.ifCond .eq 166, 3) := by decide +kernel
theorem dX4_next_143 : decode cX4_next 143 = .ok (.aload_n 0, 1) := by decide +kernel
theorem dX4_next_144 : decode cX4_next 144 = .ok (.dup, 1) := by decide +kernel
theorem dX4_next_145 : decode cX4_next 145 = .ok (.getfield 40, 3) := by decide +kernel
theorem dX4_next_148 : decode cX4_next 148 = .ok (.iconst 1, 1) := by decide +kernel
theorem dX4_next_149 : decode cX4_next 149 = .ok (.iadd, 1) := by decide +kernel
theorem dX4_next_150 : decode cX4_next 150 = .ok (.putfield 40, 3) := by decide +kernel
theorem dX4_next_153 : decode cX4_next 153 = .ok (.goto (-42), 3) := by decide +kernel
theorem dX4_next_156 : decode cX4_next 156 = .ok (.aload_n 0, 1) := by decide +kernel
theorem dX4_next_157 : decode cX4_next 157 = .ok (.getfield 15, 3) := by decide +kernel
theorem dX4_next_160 : decode cX4_next 160 = .ok (.getfield 138, 3) := by decide +kernel
theorem dX4_next_163 : decode cX4_next 163 = .ok (.aload_n 0, 1) := by decide +kernel
theorem dX4_next_164 : decode cX4_next 164 = .ok (.getfield 135, 3) := by decide +kernel
theorem dX4_next_167 : decode cX4_next 167 = .ok (.iaload, 1) := by decide +kernel
theorem dX4_next_168 : decode cX4_next 168 = .ok (.invokestatic 161, 3) := by decide +kernel
theorem dX4_next_171 : decode cX4_next 171 = .ok (.ifCond .eq 85, 3) := by decide +kernel
theorem dX4_next_174 : decode cX4_next 174 = .ok (.aload_n 0, 1) := by decide +kernel
theorem dX4_next_175 : decode cX4_next 175 = .ok (.iconst 2, 1) := by decide +kernel
theorem dX4_next_176 : decode cX4_next 176 = .ok (.putfield 46, 3) := by decide +kernel
theorem dX4_next_179 : decode cX4_next 179 = .ok (.aload_n 0, 1) := by decide +kernel
theorem dX4_next_180 : decode cX4_next 180 = .ok (.getfield 40, 3) := by decide +kernel
theorem dX4_next_183 : decode cX4_next 183 = .ok (.aload_n 0, 1) := by decide +kernel
theorem dX4_next_184 : decode cX4_next 184 = .ok (.getfield 15, 3) := by decide +kernel
theorem dX4_next_187 : decode cX4_next 187 = .ok (.getfield 153, 3) := by decide +kernel
theorem dX4_next_190 : decode cX4_next 190 = .ok (.if_icmp .ge 116, 3) := by decide +kernel
theorem dX4_next_193 : decode cX4_next 193 = .ok (.aload_n 0, 1) := by decide +kernel
theorem dX4_next_194 : decode cX4_next 194 = .ok (.getfield 15, 3) := by decide +kernel
theorem dX4_next_197 : decode cX4_next 197 = .ok (.getfield 138, 3) := by decide +kernel
theorem dX4_next_200 : decode cX4_next 200 = .ok (.aload_n 0, 1) := by decide +kernel
theorem dX4_next_201 : decode cX4_next 201 = .ok (.getfield 40, 3) := by decide +kernel
theorem dX4_next_204 : decode cX4_next 204 = .ok (.iaload, 1) := by decide +kernel
theorem dX4_next_205 : decode cX4_next 205 = .ok (.invokestatic 161, 3) := by decide +kernel
theorem dX4_next_208 : decode cX4_next 208 = .ok (.ifCond .eq 98, 3) := by decide +kernel
theorem dX4_next_211 : decode cX4_next 211 = .ok (.aload_n 0, 1) := by decide +kernel
theorem dX4_next_212 : decode cX4_next 212 = .ok (.aload_n 0, 1) := by decide +kernel
theorem dX4_next_213 : decode cX4_next 213 = .ok (.getfield 82, 3) := by decide +kernel
theorem dX4_next_216 : decode cX4_next 216 = .ok (.bipush 10, 2) := by decide +kernel
theorem dX4_next_218 : decode cX4_next 218 = .ok (.imul, 1) := by decide +kernel
theorem dX4_next_219 : decode cX4_next 219 = .ok (.aload_n 0, 1) := by decide +kernel
theorem dX4_next_220 : decode cX4_next 220 = .ok (.getfield 15, 3) := by decide +kernel
theorem dX4_next_223 : decode cX4_next 223 = .ok (.getfield 138, 3) := by decide +kernel
theorem dX4_next_226 : decode cX4_next 226 = .ok (.aload_n 0, 1) := by decide +kernel
theorem dX4_next_227 : decode cX4_next 227 = .ok (.getfield 40, 3) := by decide +kernel
theorem dX4_next_230 : decode cX4_next 230 = .ok (.iaload, 1) := by decide +kernel
theorem dX4_next_231 : decode cX4_next 231 = .ok (.iadd, 1) := by decide +kernel
theorem dX4_next_232 : decode cX4_next 232 = .ok (.bipush 48, 2) := by decide +kernel
theorem dX4_next_234 : decode cX4_next 234 = .ok (.isub, 1) := by decide +kernel
theorem dX4_next_235 : decode cX4_next 235 = .ok (.ldc 164, 2) := by decide +kernel
theorem dX4_next_237 : decode cX4_next 237 = .ok (.invokestatic 165, 3) := by decide +kernel
theorem dX4_next_240 : decode cX4_next 240 = .ok (.putfield 82, 3) := by decide +kernel
theorem dX4_next_243 : decode cX4_next 243 = .ok (.aload_n 0, 1) := by decide +kernel
theorem dX4_next_244 : decode cX4_next 244 = .ok (.dup, 1) := by decide +kernel
theorem dX4_next_245 : decode cX4_next 245 = .ok (.getfield 40, 3) := by decide +kernel
theorem dX4_next_248 : decode cX4_next 248 = .ok (.iconst 1, 1) := by decide +kernel
theorem dX4_next_249 : decode cX4_next 249 = .ok (.iadd, 1) := by decide +kernel
theorem dX4_next_250 : decode cX4_next 250 = .ok (.putfield 40, 3) := by decide +kernel
theorem dX4_next_253 : decode cX4_next 253 = .ok (.goto (-74), 3) := by decide +kernel
theorem dX4_next_256 : decode cX4_next 256 = .ok (.aload_n 0, 1) := by decide +kernel
theorem dX4_next_257 : decode cX4_next 257 = .ok (.getfield 15, 3) := by decide +kernel
theorem dX4_next_260 : decode cX4_next 260 = .ok (.getfield 138, 3) := by decide +kernel
theorem dX4_next_263 : decode cX4_next 263 = .ok (.aload_n 0, 1) := by decide +kernel
theorem dX4_next_264 : decode cX4_next 264 = .ok (.getfield 135, 3) := by decide +kernel
theorem dX4_next_267 : decode cX4_next 267 = .ok (.iaload, 1) := by decide +kernel
theorem dX4_next_268 : decode cX4_next 268 = .ok (.istore_n 1, 1) := by decide +kernel
theorem dX4_next_269 : decode cX4_next 269 = .ok (.aload_n 0, 1) := by decide +kernel
theorem dX4_next_270 : decode cX4_next 270 = .ok (.iload_n 1, 1) := by decide +kernel
theorem dX4_next_271 : decode cX4_next 271 = .ok (.bipush 61, 2) := by decide +kernel
theorem dX4_next_273 : decode cX4_next 273 = .ok (.if_icmp .eq 15, 3) := by decide +kernel
theorem dX4_next_276 : decode cX4_next 276 = .ok (.iload_n 1, 1) := by decide +kernel
theorem dX4_next_277 : decode cX4_next 277 = .ok (.bipush 44, 2) := by decide +kernel
theorem dX4_next_279 : decode cX4_next 279 = .ok (.if_icmp .eq 9, 3) := by decide +kernel
theorem dX4_next_282 : decode cX4_next 282 = .ok (.iload_n 1, 1) := by decide +kernel
theorem dX4_next_283 : decode cX4_next 283 = .ok (.bipush 59, 2) := by decide +kernel
theorem dX4_next_285 : decode cX4_next 285 = .ok (.if_icmp .ne 7, 3) := by decide +kernel
theorem dX4_next_288 : decode cX4_next 288 = .ok (.iload_n 1, 1) := by decide +kernel
theorem dX4_next_289 : decode cX4_next 289 = .ok (.goto 4, 3) := by decide +kernel
theorem dX4_next_292 : decode cX4_next 292 = .ok (.iconst 3, 1) := by decide +kernel
theorem dX4_next_293 : decode cX4_next 293 = .ok (.putfield 46, 3) := by decide +kernel
theorem dX4_next_296 : decode cX4_next 296 = .ok (.aload_n 0, 1) := by decide +kernel
theorem dX4_next_297 : decode cX4_next 297 = .ok (.dup, 1) := by decide +kernel
theorem dX4_next_298 : decode cX4_next 298 = .ok (.getfield 40, 3) := by decide +kernel
theorem dX4_next_301 : decode cX4_next 301 = .ok (.iconst 1, 1) := by decide +kernel
theorem dX4_next_302 : decode cX4_next 302 = .ok (.iadd, 1) := by decide +kernel
theorem dX4_next_303 : decode cX4_next 303 = .ok (.putfield 40, 3) := by decide +kernel
theorem dX4_next_306 : decode cX4_next 306 = .ok (.return_, 1) := by decide +kernel
theorem dX4_isBlank_0 : decode cX4_isBlank 0 = .ok (.iload_n 0, 1) := by decide +kernel
theorem dX4_isBlank_1 : decode cX4_isBlank 1 = .ok (.bipush 32, 2) := by decide +kernel
theorem dX4_isBlank_3 : decode cX4_isBlank 3 = .ok (.if_icmp .eq 9, 3) := by decide +kernel
theorem dX4_isBlank_6 : decode cX4_isBlank 6 = .ok (.iload_n 0, 1) := by decide +kernel
theorem dX4_isBlank_7 : decode cX4_isBlank 7 = .ok (.bipush 10, 2) := by decide +kernel
theorem dX4_isBlank_9 : decode cX4_isBlank 9 = .ok (.if_icmp .ne 7, 3) := by decide +kernel
theorem dX4_isBlank_12 : decode cX4_isBlank 12 = .ok (.iconst 1, 1) := by decide +kernel
theorem dX4_isBlank_13 : decode cX4_isBlank 13 = .ok (.goto 4, 3) := by decide +kernel
theorem dX4_isBlank_16 : decode cX4_isBlank 16 = .ok (.iconst 0, 1) := by decide +kernel
theorem dX4_isBlank_17 : decode cX4_isBlank 17 = .ok (.ireturn, 1) := by decide +kernel
theorem dX4_isLetter_0 : decode cX4_isLetter 0 = .ok (.iload_n 0, 1) := by decide +kernel
theorem dX4_isLetter_1 : decode cX4_isLetter 1 = .ok (.bipush 97, 2) := by decide +kernel
theorem dX4_isLetter_3 : decode cX4_isLetter 3 = .ok (.if_icmp .lt 9, 3) := by decide +kernel
theorem dX4_isLetter_6 : decode cX4_isLetter 6 = .ok (.iload_n 0, 1) := by decide +kernel
theorem dX4_isLetter_7 : decode cX4_isLetter 7 = .ok (.bipush 122, 2) := by decide +kernel
theorem dX4_isLetter_9 : decode cX4_isLetter 9 = .ok (.if_icmp .le 15, 3) := by decide +kernel
theorem dX4_isLetter_12 : decode cX4_isLetter 12 = .ok (.iload_n 0, 1) := by decide +kernel
theorem dX4_isLetter_13 : decode cX4_isLetter 13 = .ok (.bipush 65, 2) := by decide +kernel
theorem dX4_isLetter_15 : decode cX4_isLetter 15 = .ok (.if_icmp .lt 13, 3) := by decide +kernel
theorem dX4_isLetter_18 : decode cX4_isLetter 18 = .ok (.iload_n 0, 1) := by decide +kernel
theorem dX4_isLetter_19 : decode cX4_isLetter 19 = .ok (.bipush 90, 2) := by decide +kernel
theorem dX4_isLetter_21 : decode cX4_isLetter 21 = .ok (.if_icmp .gt 7, 3) := by decide +kernel
theorem dX4_isLetter_24 : decode cX4_isLetter 24 = .ok (.iconst 1, 1) := by decide +kernel
theorem dX4_isLetter_25 : decode cX4_isLetter 25 = .ok (.goto 4, 3) := by decide +kernel
theorem dX4_isLetter_28 : decode cX4_isLetter 28 = .ok (.iconst 0, 1) := by decide +kernel
theorem dX4_isLetter_29 : decode cX4_isLetter 29 = .ok (.ireturn, 1) := by decide +kernel
theorem dX4_isDigit_0 : decode cX4_isDigit 0 = .ok (.iload_n 0, 1) := by decide +kernel
theorem dX4_isDigit_1 : decode cX4_isDigit 1 = .ok (.bipush 48, 2) := by decide +kernel
theorem dX4_isDigit_3 : decode cX4_isDigit 3 = .ok (.if_icmp .lt 13, 3) := by decide +kernel
theorem dX4_isDigit_6 : decode cX4_isDigit 6 = .ok (.iload_n 0, 1) := by decide +kernel
theorem dX4_isDigit_7 : decode cX4_isDigit 7 = .ok (.bipush 57, 2) := by decide +kernel
theorem dX4_isDigit_9 : decode cX4_isDigit 9 = .ok (.if_icmp .gt 7, 3) := by decide +kernel
theorem dX4_isDigit_12 : decode cX4_isDigit 12 = .ok (.iconst 1, 1) := by decide +kernel
theorem dX4_isDigit_13 : decode cX4_isDigit 13 = .ok (.goto 4, 3) := by decide +kernel
theorem dX4_isDigit_16 : decode cX4_isDigit 16 = .ok (.iconst 0, 1) := by decide +kernel
theorem dX4_isDigit_17 : decode cX4_isDigit 17 = .ok (.ireturn, 1) := by decide +kernel
theorem dX5_init_0 : decode cX5_init 0 = .ok (.aload_n 0, 1) := by decide +kernel
theorem dX5_init_1 : decode cX5_init 1 = .ok (.invokespecial 3, 3) := by decide +kernel
theorem dX5_init_4 : decode cX5_init 4 = .ok (.aload_n 0, 1) := by decide +kernel
theorem dX5_init_5 : decode cX5_init 5 = .ok (.bipush 80, 2) := by decide +kernel
theorem dX5_init_7 : decode cX5_init 7 = .ok (.newarray .long, 2) := by decide +kernel
theorem dX5_init_9 : decode cX5_init 9 = .ok (.putfield 9, 3) := by decide +kernel
theorem dX5_init_12 : decode cX5_init 12 = .ok (.aload_n 0, 1) := by decide +kernel
theorem dX5_init_13 : decode cX5_init 13 = .ok (.iconst (-1), 1) := by decide +kernel
theorem dX5_init_14 : decode cX5_init 14 = .ok (.putfield 15, 3) := by decide +kernel
theorem dX5_init_17 : decode cX5_init 17 = .ok (.return_, 1) := by decide +kernel
theorem dX5_take_0 : decode cX5_take 0 = .ok (.aload_n 0, 1) := by decide +kernel
theorem dX5_take_1 : decode cX5_take 1 = .ok (.iload_n 1, 1) := by decide +kernel
theorem dX5_take_2 : decode cX5_take 2 = .ok (.putfield 15, 3) := by decide +kernel
theorem dX5_take_5 : decode cX5_take 5 = .ok (.aload_n 2, 1) := by decide +kernel
theorem dX5_take_6 : decode cX5_take 6 = .ok (.iconst 0, 1) := by decide +kernel
theorem dX5_take_7 : decode cX5_take 7 = .ok (.aload_n 0, 1) := by decide +kernel
theorem dX5_take_8 : decode cX5_take 8 = .ok (.getfield 9, 3) := by decide +kernel
theorem dX5_take_11 : decode cX5_take 11 = .ok (.iconst 0, 1) := by decide +kernel
theorem dX5_take_12 : decode cX5_take 12 = .ok (.bipush 80, 2) := by decide +kernel
theorem dX5_take_14 : decode cX5_take 14 = .ok (.invokestatic 19, 3) := by decide +kernel
theorem dX5_take_17 : decode cX5_take 17 = .ok (.return_, 1) := by decide +kernel
theorem dX5_compare_0 : decode cX5_compare 0 = .ok (.aload_n 0, 1) := by decide +kernel
theorem dX5_compare_1 : decode cX5_compare 1 = .ok (.iconst 0, 1) := by decide +kernel
theorem dX5_compare_2 : decode cX5_compare 2 = .ok (.putfield 25, 3) := by decide +kernel
theorem dX5_compare_5 : decode cX5_compare 5 = .ok (.iconst 0, 1) := by decide +kernel
theorem dX5_compare_6 : decode cX5_compare 6 = .ok (.istore_n 2, 1) := by decide +kernel
theorem dX5_compare_7 : decode cX5_compare 7 = .ok (.iload_n 2, 1) := by decide +kernel
theorem dX5_compare_8 : decode cX5_compare 8 = .ok (.bipush 80, 2) := by decide +kernel
theorem dX5_compare_10 : decode cX5_compare 10 = .ok (.if_icmp .ge 37, 3) := by decide +kernel
theorem dX5_compare_13 : decode cX5_compare 13 = .ok (.aload_n 0, 1) := by decide +kernel
theorem dX5_compare_14 : decode cX5_compare 14 = .ok (.getfield 9, 3) := by decide +kernel
theorem dX5_compare_17 : decode cX5_compare 17 = .ok (.iload_n 2, 1) := by decide +kernel
theorem dX5_compare_18 : decode cX5_compare 18 = .ok (.laload, 1) := by decide +kernel
theorem dX5_compare_19 : decode cX5_compare 19 = .ok (.aload_n 1, 1) := by decide +kernel
theorem dX5_compare_20 : decode cX5_compare 20 = .ok (.iload_n 2, 1) := by decide +kernel
theorem dX5_compare_21 : decode cX5_compare 21 = .ok (.laload, 1) := by decide +kernel
theorem dX5_compare_22 : decode cX5_compare 22 = .ok (.lcmp, 1) := by decide +kernel
theorem dX5_compare_23 : decode cX5_compare 23 = .ok (.ifCond .eq 18, 3) := by decide +kernel
theorem dX5_compare_26 : decode cX5_compare 26 = .ok (.aload_n 0, 1) := by decide +kernel
theorem dX5_compare_27 : decode cX5_compare 27 = .ok (.dup, 1) := by decide +kernel
theorem dX5_compare_28 : decode cX5_compare 28 = .ok (.getfield 25, 3) := by decide +kernel
theorem dX5_compare_31 : decode cX5_compare 31 = .ok (.iconst 1, 1) := by decide +kernel
theorem dX5_compare_32 : decode cX5_compare 32 = .ok (.iadd, 1) := by decide +kernel
theorem dX5_compare_33 : decode cX5_compare 33 = .ok (.putfield 25, 3) := by decide +kernel
theorem dX5_compare_36 : decode cX5_compare 36 = .ok (.aload_n 0, 1) := by decide +kernel
theorem dX5_compare_37 : decode cX5_compare 37 = .ok (.iload_n 2, 1) := by decide +kernel
theorem dX5_compare_38 : decode cX5_compare 38 = .ok (.putfield 28, 3) := by decide +kernel
theorem dX5_compare_41 : decode cX5_compare 41 = .ok (.iinc 2 1, 3) := by decide +kernel
theorem dX5_compare_44 : decode cX5_compare 44 = .ok (.goto (-37), 3) := by decide +kernel
theorem dX5_compare_47 : decode cX5_compare 47 = .ok (.return_, 1) := by decide +kernel
theorem dX6_init_0 : decode cX6_init 0 = .ok (.aload_n 0, 1) := by decide +kernel
theorem dX6_init_1 : decode cX6_init 1 = .ok (.invokespecial 1, 3) := by decide +kernel
theorem dX6_init_4 : decode cX6_init 4 = .ok (.aload_n 0, 1) := by decide +kernel
theorem dX6_init_5 : decode cX6_init 5 = .ok (.bipush 20, 2) := by decide +kernel
theorem dX6_init_7 : decode cX6_init 7 = .ok (.newarray .int, 2) := by decide +kernel
theorem dX6_init_9 : decode cX6_init 9 = .ok (.putfield 9, 3) := by decide +kernel
theorem dX6_init_12 : decode cX6_init 12 = .ok (.aload_n 0, 1) := by decide +kernel
theorem dX6_init_13 : decode cX6_init 13 = .ok (.bipush 20, 2) := by decide +kernel
theorem dX6_init_15 : decode cX6_init 15 = .ok (.newarray .int, 2) := by decide +kernel
theorem dX6_init_17 : decode cX6_init 17 = .ok (.putfield 13, 3) := by decide +kernel
theorem dX6_init_20 : decode cX6_init 20 = .ok (.aload_n 0, 1) := by decide +kernel
theorem dX6_init_21 : decode cX6_init 21 = .ok (.bipush 20, 2) := by decide +kernel
theorem dX6_init_23 : decode cX6_init 23 = .ok (.newarray .int, 2) := by decide +kernel
theorem dX6_init_25 : decode cX6_init 25 = .ok (.putfield 16, 3) := by decide +kernel
theorem dX6_init_28 : decode cX6_init 28 = .ok (.aload_n 0, 1) := by decide +kernel
theorem dX6_init_29 : decode cX6_init 29 = .ok (.bipush 20, 2) := by decide +kernel
theorem dX6_init_31 : decode cX6_init 31 = .ok (.newarray .int, 2) := by decide +kernel
theorem dX6_init_33 : decode cX6_init 33 = .ok (.putfield 19, 3) := by decide +kernel
theorem dX6_init_36 : decode cX6_init 36 = .ok (.return_, 1) := by decide +kernel
theorem dX7_init_0 : decode cX7_init 0 = .ok (.aload_n 0, 1) := by decide +kernel
theorem dX7_init_1 : decode cX7_init 1 = .ok (.invokespecial 3, 3) := by decide +kernel
theorem dX7_init_4 : decode cX7_init 4 = .ok (.aload_n 0, 1) := by decide +kernel
theorem dX7_init_5 : decode cX7_init 5 = .ok (.bipush 96, 2) := by decide +kernel
theorem dX7_init_7 : decode cX7_init 7 = .ok (.newarray .int, 2) := by decide +kernel
theorem dX7_init_9 : decode cX7_init 9 = .ok (.putfield 9, 3) := by decide +kernel
theorem dX7_init_12 : decode cX7_init 12 = .ok (.aload_n 0, 1) := by decide +kernel
theorem dX7_init_13 : decode cX7_init 13 = .ok (.bipush 80, 2) := by decide +kernel
theorem dX7_init_15 : decode cX7_init 15 = .ok (.newarray .long, 2) := by decide +kernel
theorem dX7_init_17 : decode cX7_init 17 = .ok (.putfield 15, 3) := by decide +kernel
theorem dX7_init_20 : decode cX7_init 20 = .ok (.aload_n 0, 1) := by decide +kernel
theorem dX7_init_21 : decode cX7_init 21 = .ok (.bipush 80, 2) := by decide +kernel
theorem dX7_init_23 : decode cX7_init 23 = .ok (.newarray .boolean, 2) := by decide +kernel
theorem dX7_init_25 : decode cX7_init 25 = .ok (.putfield 19, 3) := by decide +kernel
theorem dX7_init_28 : decode cX7_init 28 = .ok (.aload_n 0, 1) := by decide +kernel
theorem dX7_init_29 : decode cX7_init 29 = .ok (.bipush 100, 2) := by decide +kernel
theorem dX7_init_31 : decode cX7_init 31 = .ok (.putfield 23, 3) := by decide +kernel
theorem dX7_init_34 : decode cX7_init 34 = .ok (.aload_n 0, 1) := by decide +kernel
theorem dX7_init_35 : decode cX7_init 35 = .ok (.sipush 1000, 3) := by decide +kernel
theorem dX7_init_38 : decode cX7_init 38 = .ok (.putfield 27, 3) := by decide +kernel
theorem dX7_init_41 : decode cX7_init 41 = .ok (.return_, 1) := by decide +kernel
theorem dX7_copyFrom_0 : decode cX7_copyFrom 0 = .ok (.aload_n 1, 1) := by decide +kernel
theorem dX7_copyFrom_1 : decode cX7_copyFrom 1 = .ok (.getfield 9, 3) := by decide +kernel
theorem dX7_copyFrom_4 : decode cX7_copyFrom 4 = .ok (.iconst 0, 1) := by decide +kernel
theorem dX7_copyFrom_5 : decode cX7_copyFrom 5 = .ok (.aload_n 0, 1) := by decide +kernel
theorem dX7_copyFrom_6 : decode cX7_copyFrom 6 = .ok (.getfield 9, 3) := by decide +kernel
theorem dX7_copyFrom_9 : decode cX7_copyFrom 9 = .ok (.iconst 0, 1) := by decide +kernel
theorem dX7_copyFrom_10 : decode cX7_copyFrom 10 = .ok (.aload_n 0, 1) := by decide +kernel
theorem dX7_copyFrom_11 : decode cX7_copyFrom 11 = .ok (.getfield 9, 3) := by decide +kernel
theorem dX7_copyFrom_14 : decode cX7_copyFrom 14 = .ok (.arraylength, 1) := by decide +kernel
theorem dX7_copyFrom_15 : decode cX7_copyFrom 15 = .ok (.invokestatic 30, 3) := by decide +kernel
theorem dX7_copyFrom_18 : decode cX7_copyFrom 18 = .ok (.aload_n 1, 1) := by decide +kernel
theorem dX7_copyFrom_19 : decode cX7_copyFrom 19 = .ok (.getfield 15, 3) := by decide +kernel
theorem dX7_copyFrom_22 : decode cX7_copyFrom 22 = .ok (.iconst 0, 1) := by decide +kernel
theorem dX7_copyFrom_23 : decode cX7_copyFrom 23 = .ok (.aload_n 0, 1) := by decide +kernel
theorem dX7_copyFrom_24 : decode cX7_copyFrom 24 = .ok (.getfield 15, 3) := by decide +kernel
theorem dX7_copyFrom_27 : decode cX7_copyFrom 27 = .ok (.iconst 0, 1) := by decide +kernel
theorem dX7_copyFrom_28 : decode cX7_copyFrom 28 = .ok (.aload_n 0, 1) := by decide +kernel
theorem dX7_copyFrom_29 : decode cX7_copyFrom 29 = .ok (.getfield 15, 3) := by decide +kernel
theorem dX7_copyFrom_32 : decode cX7_copyFrom 32 = .ok (.arraylength, 1) := by decide +kernel
theorem dX7_copyFrom_33 : decode cX7_copyFrom 33 = .ok (.invokestatic 30, 3) := by decide +kernel
theorem dX7_copyFrom_36 : decode cX7_copyFrom 36 = .ok (.iconst 0, 1) := by decide +kernel
theorem dX7_copyFrom_37 : decode cX7_copyFrom 37 = .ok (.istore_n 2, 1) := by decide +kernel
theorem dX7_copyFrom_38 : decode cX7_copyFrom 38 = .ok (.iload_n 2, 1) := by decide +kernel
theorem dX7_copyFrom_39 : decode cX7_copyFrom 39 = .ok (.bipush 80, 2) := by decide +kernel
theorem dX7_copyFrom_41 : decode cX7_copyFrom 41 = .ok (.if_icmp .ge 21, 3) := by decide +kernel
theorem dX7_copyFrom_44 : decode cX7_copyFrom 44 = .ok (.aload_n 0, 1) := by decide +kernel
theorem dX7_copyFrom_45 : decode cX7_copyFrom 45 = .ok (.getfield 19, 3) := by decide +kernel
theorem dX7_copyFrom_48 : decode cX7_copyFrom 48 = .ok (.iload_n 2, 1) := by decide +kernel
theorem dX7_copyFrom_49 : decode cX7_copyFrom 49 = .ok (.aload_n 1, 1) := by decide +kernel
theorem dX7_copyFrom_50 : decode cX7_copyFrom 50 = .ok (.getfield 19, 3) := by decide +kernel
theorem dX7_copyFrom_53 : decode cX7_copyFrom 53 = .ok (.iload_n 2, 1) := by decide +kernel
theorem dX7_copyFrom_54 : decode cX7_copyFrom 54 = .ok (.baload, 1) := by decide +kernel
theorem dX7_copyFrom_55 : decode cX7_copyFrom 55 = .ok (.bastore, 1) := by decide +kernel
theorem dX7_copyFrom_56 : decode cX7_copyFrom 56 = .ok (.iinc 2 1, 3) := by decide +kernel
theorem dX7_copyFrom_59 : decode cX7_copyFrom 59 = .ok (.goto (-21), 3) := by decide +kernel
theorem dX7_copyFrom_62 : decode cX7_copyFrom 62 = .ok (.aload_n 0, 1) := by decide +kernel
theorem dX7_copyFrom_63 : decode cX7_copyFrom 63 = .ok (.aload_n 1, 1) := by decide +kernel
theorem dX7_copyFrom_64 : decode cX7_copyFrom 64 = .ok (.getfield 36, 3) := by decide +kernel
theorem dX7_copyFrom_67 : decode cX7_copyFrom 67 = .ok (.putfield 36, 3) := by decide +kernel
theorem dX7_copyFrom_70 : decode cX7_copyFrom 70 = .ok (.aload_n 0, 1) := by decide +kernel
theorem dX7_copyFrom_71 : decode cX7_copyFrom 71 = .ok (.aload_n 1, 1) := by decide +kernel
theorem dX7_copyFrom_72 : decode cX7_copyFrom 72 = .ok (.getfield 23, 3) := by decide +kernel
theorem dX7_copyFrom_75 : decode cX7_copyFrom 75 = .ok (.putfield 23, 3) := by decide +kernel
theorem dX7_copyFrom_78 : decode cX7_copyFrom 78 = .ok (.aload_n 0, 1) := by decide +kernel
theorem dX7_copyFrom_79 : decode cX7_copyFrom 79 = .ok (.aload_n 1, 1) := by decide +kernel
theorem dX7_copyFrom_80 : decode cX7_copyFrom 80 = .ok (.getfield 27, 3) := by decide +kernel
theorem dX7_copyFrom_83 : decode cX7_copyFrom 83 = .ok (.putfield 27, 3) := by decide +kernel
theorem dX7_copyFrom_86 : decode cX7_copyFrom 86 = .ok (.return_, 1) := by decide +kernel
theorem dX7_partsOf_0 : decode cX7_partsOf 0 = .ok (.aload_n 0, 1) := by decide +kernel
theorem dX7_partsOf_1 : decode cX7_partsOf 1 = .ok (.getfield 9, 3) := by decide +kernel
theorem dX7_partsOf_4 : decode cX7_partsOf 4 = .ok (.iload_n 1, 1) := by decide +kernel
theorem dX7_partsOf_5 : decode cX7_partsOf 5 = .ok (.bipush 6, 2) := by decide +kernel
theorem dX7_partsOf_7 : decode cX7_partsOf 7 = .ok (.imul, 1) := by decide +kernel
theorem dX7_partsOf_8 : decode cX7_partsOf 8 = .ok (.iload_n 2, 1) := by decide +kernel
theorem dX7_partsOf_9 : decode cX7_partsOf 9 = .ok (.iadd, 1) := by decide +kernel
theorem dX7_partsOf_10 : decode cX7_partsOf 10 = .ok (.iaload, 1) := by decide +kernel
theorem dX7_partsOf_11 : decode cX7_partsOf 11 = .ok (.ireturn, 1) := by decide +kernel
theorem dX7_setParts_0 : decode cX7_setParts 0 = .ok (.aload_n 0, 1) := by decide +kernel
theorem dX7_setParts_1 : decode cX7_setParts 1 = .ok (.getfield 9, 3) := by decide +kernel
theorem dX7_setParts_4 : decode cX7_setParts 4 = .ok (.iload_n 1, 1) := by decide +kernel
theorem dX7_setParts_5 : decode cX7_setParts 5 = .ok (.bipush 6, 2) := by decide +kernel
theorem dX7_setParts_7 : decode cX7_setParts 7 = .ok (.imul, 1) := by decide +kernel
theorem dX7_setParts_8 : decode cX7_setParts 8 = .ok (.iload_n 2, 1) := by decide +kernel
theorem dX7_setParts_9 : decode cX7_setParts 9 = .ok (.iadd, 1) := by decide +kernel
theorem dX7_setParts_10 : decode cX7_setParts 10 = .ok (.iload_n 3, 1) := by decide +kernel
theorem dX7_setParts_11 : decode cX7_setParts 11 = .ok (.iastore, 1) := by decide +kernel
theorem dX7_setParts_12 : decode cX7_setParts 12 = .ok (.return_, 1) := by decide +kernel
theorem dX7_weightOf_0 : decode cX7_weightOf 0 = .ok (.iconst 0, 1) := by decide +kernel
theorem dX7_weightOf_1 : decode cX7_weightOf 1 = .ok (.istore_n 3, 1) := by decide +kernel
theorem dX7_weightOf_2 : decode cX7_weightOf 2 = .ok (.iconst 0, 1) := by decide +kernel
theorem dX7_weightOf_3 : decode cX7_weightOf 3 = .ok (.istore 4, 2) := by decide +kernel
theorem dX7_weightOf_5 : decode cX7_weightOf 5 = .ok (.iload 4, 2) := by decide +kernel
theorem dX7_weightOf_7 : decode cX7_weightOf 7 = .ok (.bipush 6, 2) := by decide +kernel
theorem dX7_weightOf_9 : decode cX7_weightOf 9 = .ok (.if_icmp .ge 27, 3) := by decide +kernel
theorem dX7_weightOf_12 : decode cX7_weightOf 12 = .ok (.iload_n 3, 1) := by decide +kernel
theorem dX7_weightOf_13 : decode cX7_weightOf 13 = .ok (.aload_n 0, 1) := by decide +kernel
theorem dX7_weightOf_14 : decode cX7_weightOf 14 = .ok (.iload_n 1, 1) := by decide +kernel
theorem dX7_weightOf_15 : decode cX7_weightOf 15 = .ok (.iload 4, 2) := by decide +kernel
theorem dX7_weightOf_17 : decode cX7_weightOf 17 = .ok (.invokevirtual 39, 3) := by decide +kernel
theorem dX7_weightOf_20 : decode cX7_weightOf 20 = .ok (.aload_n 2, 1) := by decide +kernel
theorem dX7_weightOf_21 : decode cX7_weightOf 21 = .ok (.getfield 43, 3) := by decide +kernel
theorem dX7_weightOf_24 : decode cX7_weightOf 24 = .ok (.iload 4, 2) := by decide +kernel
theorem dX7_weightOf_26 : decode cX7_weightOf 26 = .ok (.iaload, 1) := by decide +kernel
theorem dX7_weightOf_27 : decode cX7_weightOf 27 = .ok (.imul, 1) := by decide +kernel
theorem dX7_weightOf_28 : decode cX7_weightOf 28 = .ok (.iadd, 1) := by decide +kernel
theorem dX7_weightOf_29 : decode cX7_weightOf 29 = .ok (.istore_n 3, 1) := by decide +kernel
theorem dX7_weightOf_30 : decode cX7_weightOf 30 = .ok (.iinc 4 1, 3) := by decide +kernel
theorem dX7_weightOf_33 : decode cX7_weightOf 33 = .ok (.goto (-28), 3) := by decide +kernel
theorem dX7_weightOf_36 : decode cX7_weightOf 36 = .ok (.iload_n 3, 1) := by decide +kernel
theorem dX7_weightOf_37 : decode cX7_weightOf 37 = .ok (.ireturn, 1) := by decide +kernel
theorem dX7_timesOf_0 : decode cX7_timesOf 0 = .ok (.aload_n 0, 1) := by decide +kernel
theorem dX7_timesOf_1 : decode cX7_timesOf 1 = .ok (.iload_n 1, 1) := by decide +kernel
theorem dX7_timesOf_2 : decode cX7_timesOf 2 = .ok (.aload_n 3, 1) := by decide +kernel
theorem dX7_timesOf_3 : decode cX7_timesOf 3 = .ok (.iload_n 2, 1) := by decide +kernel
theorem dX7_timesOf_4 : decode cX7_timesOf 4 = .ok (.iconst 0, 1) := by decide +kernel
theorem dX7_timesOf_5 : decode cX7_timesOf 5 = .ok (.invokevirtual 48, 3) := by decide +kernel
theorem dX7_timesOf_8 : decode cX7_timesOf 8 = .ok (.invokevirtual 39, 3) := by decide +kernel
theorem dX7_timesOf_11 : decode cX7_timesOf 11 = .ok (.istore 5, 2) := by decide +kernel
theorem dX7_timesOf_13 : decode cX7_timesOf 13 = .ok (.iload 5, 2) := by decide +kernel
theorem dX7_timesOf_15 : decode cX7_timesOf 15 = .ok (.aload_n 3, 1) := by decide +kernel
theorem dX7_timesOf_16 : decode cX7_timesOf 16 = .ok (.iload_n 2, 1) := by decide +kernel
theorem dX7_timesOf_17 : decode cX7_timesOf 17 = .ok (.iconst 1, 1) := by decide +kernel
theorem dX7_timesOf_18 : decode cX7_timesOf 18 = .ok (.invokevirtual 48, 3) := by decide +kernel
theorem dX7_timesOf_21 : decode cX7_timesOf 21 = .ok (.invokestatic 51, 3) := by decide +kernel
theorem dX7_timesOf_24 : decode cX7_timesOf 24 = .ok (.iload 4, 2) := by decide +kernel
theorem dX7_timesOf_26 : decode cX7_timesOf 26 = .ok (.invokestatic 54, 3) := by decide +kernel
theorem dX7_timesOf_29 : decode cX7_timesOf 29 = .ok (.ireturn, 1) := by decide +kernel
theorem dX7_burn_0 : decode cX7_burn 0 = .ok (.iload_n 1, 1) := by decide +kernel
theorem dX7_burn_1 : decode cX7_burn 1 = .ok (.bipush 6, 2) := by decide +kernel
theorem dX7_burn_3 : decode cX7_burn 3 = .ok (.imul, 1) := by decide +kernel
theorem dX7_burn_4 : decode cX7_burn 4 = .ok (.aload_n 3, 1) := by decide +kernel
theorem dX7_burn_5 : decode cX7_burn 5 = .ok (.iload_n 2, 1) := by decide +kernel
theorem dX7_burn_6 : decode cX7_burn 6 = .ok (.iconst 2, 1) := by decide +kernel
theorem dX7_burn_7 : decode cX7_burn 7 = .ok (.invokevirtual 48, 3) := by decide +kernel
theorem dX7_burn_10 : decode cX7_burn 10 = .ok (.iadd, 1) := by decide +kernel
theorem dX7_burn_11 : decode cX7_burn 11 = .ok (.istore 5, 2) := by decide +kernel
theorem dX7_burn_13 : decode cX7_burn 13 = .ok (.aload_n 3, 1) := by decide +kernel
theorem dX7_burn_14 : decode cX7_burn 14 = .ok (.iload_n 2, 1) := by decide +kernel
theorem dX7_burn_15 : decode cX7_burn 15 = .ok (.iconst 3, 1) := by decide +kernel
theorem dX7_burn_16 : decode cX7_burn 16 = .ok (.invokevirtual 48, 3) := by decide +kernel
theorem dX7_burn_19 : decode cX7_burn 19 = .ok (.istore 6, 2) := by decide +kernel
theorem dX7_burn_21 : decode cX7_burn 21 = .ok (.aload_n 0, 1) := by decide +kernel
theorem dX7_burn_22 : decode cX7_burn 22 = .ok (.iload_n 1, 1) := by decide +kernel
theorem dX7_burn_23 : decode cX7_burn 23 = .ok (.iload_n 2, 1) := by decide +kernel
theorem dX7_burn_24 : decode cX7_burn 24 = .ok (.aload_n 3, 1) := by decide +kernel
theorem dX7_burn_25 : decode cX7_burn 25 = .ok (.iload 4, 2) := by decide +kernel
theorem dX7_burn_27 : decode cX7_burn 27 = .ok (.invokevirtual 59, 3) := by decide +kernel
theorem dX7_burn_30 : decode cX7_burn 30 = .ok (.ldc 63, 2) := by decide +kernel
theorem dX7_burn_32 : decode cX7_burn 32 = .ok (.aload_n 0, 1) := by decide +kernel
theorem dX7_burn_33 : decode cX7_burn 33 = .ok (.getfield 9, 3) := by decide +kernel
theorem dX7_burn_36 : decode cX7_burn 36 = .ok (.iload 5, 2) := by decide +kernel
theorem dX7_burn_38 : decode cX7_burn 38 = .ok (.iaload, 1) := by decide +kernel
theorem dX7_burn_39 : decode cX7_burn 39 = .ok (.isub, 1) := by decide +kernel
theorem dX7_burn_40 : decode cX7_burn 40 = .ok (.iload 6, 2) := by decide +kernel
theorem dX7_burn_42 : decode cX7_burn 42 = .ok (.invokestatic 51, 3) := by decide +kernel
theorem dX7_burn_45 : decode cX7_burn 45 = .ok (.invokestatic 54, 3) := by decide +kernel
theorem dX7_burn_48 : decode cX7_burn 48 = .ok (.istore 7, 2) := by decide +kernel
theorem dX7_burn_50 : decode cX7_burn 50 = .ok (.aload_n 0, 1) := by decide +kernel
theorem dX7_burn_51 : decode cX7_burn 51 = .ok (.getfield 9, 3) := by decide +kernel
theorem dX7_burn_54 : decode cX7_burn 54 = .ok (.iload_n 1, 1) := by decide +kernel
theorem dX7_burn_55 : decode cX7_burn 55 = .ok (.bipush 6, 2) := by decide +kernel
theorem dX7_burn_57 : decode cX7_burn 57 = .ok (.imul, 1) := by decide +kernel
theorem dX7_burn_58 : decode cX7_burn 58 = .ok (.aload_n 3, 1) := by decide +kernel
theorem dX7_burn_59 : decode cX7_burn 59 = .ok (.iload_n 2, 1) := by decide +kernel
theorem dX7_burn_60 : decode cX7_burn 60 = .ok (.iconst 0, 1) := by decide +kernel
theorem dX7_burn_61 : decode cX7_burn 61 = .ok (.invokevirtual 48, 3) := by decide +kernel
theorem dX7_burn_64 : decode cX7_burn 64 = .ok (.iadd, 1) := by decide +kernel
theorem dX7_burn_65 : decode cX7_burn 65 = .ok (.dup2, 1) := by decide +kernel
theorem dX7_burn_66 : decode cX7_burn 66 = .ok (.iaload, 1) := by decide +kernel
theorem dX7_burn_67 : decode cX7_burn 67 = .ok (.iload 7, 2) := by decide +kernel
theorem dX7_burn_69 : decode cX7_burn 69 = .ok (.aload_n 3, 1) := by decide +kernel
theorem dX7_burn_70 : decode cX7_burn 70 = .ok (.iload_n 2, 1) := by decide +kernel
theorem dX7_burn_71 : decode cX7_burn 71 = .ok (.iconst 1, 1) := by decide +kernel
theorem dX7_burn_72 : decode cX7_burn 72 = .ok (.invokevirtual 48, 3) := by decide +kernel
theorem dX7_burn_75 : decode cX7_burn 75 = .ok (.imul, 1) := by decide +kernel
theorem dX7_burn_76 : decode cX7_burn 76 = .ok (.isub, 1) := by decide +kernel
theorem dX7_burn_77 : decode cX7_burn 77 = .ok (.iastore, 1) := by decide +kernel
theorem dX7_burn_78 : decode cX7_burn 78 = .ok (.aload_n 0, 1) := by decide +kernel
theorem dX7_burn_79 : decode cX7_burn 79 = .ok (.getfield 9, 3) := by decide +kernel
theorem dX7_burn_82 : decode cX7_burn 82 = .ok (.iload 5, 2) := by decide +kernel
theorem dX7_burn_84 : decode cX7_burn 84 = .ok (.dup2, 1) := by decide +kernel
theorem dX7_burn_85 : decode cX7_burn 85 = .ok (.iaload, 1) := by decide +kernel
theorem dX7_burn_86 : decode cX7_burn 86 = .ok (.iload 7, 2) := by decide +kernel
theorem dX7_burn_88 : decode cX7_burn 88 = .ok (.iload 6, 2) := by decide +kernel
theorem dX7_burn_90 : decode cX7_burn 90 = .ok (.imul, 1) := by decide +kernel
theorem dX7_burn_91 : decode cX7_burn 91 = .ok (.iadd, 1) := by decide +kernel
theorem dX7_burn_92 : decode cX7_burn 92 = .ok (.iastore, 1) := by decide +kernel
theorem dX7_burn_93 : decode cX7_burn 93 = .ok (.iload 7, 2) := by decide +kernel
theorem dX7_burn_95 : decode cX7_burn 95 = .ok (.i2l, 1) := by decide +kernel
theorem dX7_burn_96 : decode cX7_burn 96 = .ok (.aload_n 3, 1) := by decide +kernel
theorem dX7_burn_97 : decode cX7_burn 97 = .ok (.iload_n 2, 1) := by decide +kernel
theorem dX7_burn_98 : decode cX7_burn 98 = .ok (.iconst 4, 1) := by decide +kernel
theorem dX7_burn_99 : decode cX7_burn 99 = .ok (.invokevirtual 48, 3) := by decide +kernel
theorem dX7_burn_102 : decode cX7_burn 102 = .ok (.i2l, 1) := by decide +kernel
theorem dX7_burn_103 : decode cX7_burn 103 = .ok (.lmul, 1) := by decide +kernel
theorem dX7_burn_104 : decode cX7_burn 104 = .ok (.lstore 8, 2) := by decide +kernel
theorem dX7_burn_106 : decode cX7_burn 106 = .ok (.aload_n 0, 1) := by decide +kernel
theorem dX7_burn_107 : decode cX7_burn 107 = .ok (.getfield 15, 3) := by decide +kernel
theorem dX7_burn_110 : decode cX7_burn 110 = .ok (.iload_n 1, 1) := by decide +kernel
theorem dX7_burn_111 : decode cX7_burn 111 = .ok (.iconst 5, 1) := by decide +kernel
theorem dX7_burn_112 : decode cX7_burn 112 = .ok (.imul, 1) := by decide +kernel
theorem dX7_burn_113 : decode cX7_burn 113 = .ok (.iload_n 2, 1) := by decide +kernel
theorem dX7_burn_114 : decode cX7_burn 114 = .ok (.iadd, 1) := by decide +kernel
theorem dX7_burn_115 : decode cX7_burn 115 = .ok (.dup2, 1) := by decide +kernel
theorem dX7_burn_116 : decode cX7_burn 116 = .ok (.laload, 1) := by decide +kernel
theorem dX7_burn_117 : decode cX7_burn 117 = .ok (.lload 8, 2) := by decide +kernel
theorem dX7_burn_119 : decode cX7_burn 119 = .ok (.ladd, 1) := by decide +kernel
theorem dX7_burn_120 : decode cX7_burn 120 = .ok (.lastore, 1) := by decide +kernel
theorem dX7_burn_121 : decode cX7_burn 121 = .ok (.lload 8, 2) := by decide +kernel
theorem dX7_burn_123 : decode cX7_burn 123 = .ok (.lreturn, 1) := by decide +kernel
theorem dX7_mix_0 : decode cX7_mix 0 = .ok (.iload_n 2, 1) := by decide +kernel
theorem dX7_mix_1 : decode cX7_mix 1 = .ok (.iload_n 1, 1) := by decide +kernel
theorem dX7_mix_2 : decode cX7_mix 2 = .ok (.isub, 1) := by decide +kernel
theorem dX7_mix_3 : decode cX7_mix 3 = .ok (.iconst 1, 1) := by decide +kernel
theorem dX7_mix_4 : decode cX7_mix 4 = .ok (.iadd, 1) := by decide +kernel
theorem dX7_mix_5 : decode cX7_mix 5 = .ok (.istore_n 3, 1) := by decide +kernel
theorem dX7_mix_6 : decode cX7_mix 6 = .ok (.iconst 0, 1) := by decide +kernel
theorem dX7_mix_7 : decode cX7_mix 7 = .ok (.istore 4, 2) := by decide +kernel
theorem dX7_mix_9 : decode cX7_mix 9 = .ok (.iload 4, 2) := by decide +kernel
theorem dX7_mix_11 : decode cX7_mix 11 = .ok (.bipush 6, 2) := by decide +kernel
theorem dX7_mix_13 : decode cX7_mix 13 = .ok (.if_icmp .ge 98, 3) := by decide +kernel
theorem dX7_mix_16 : decode cX7_mix 16 = .ok (.iconst 0, 1) := by decide +kernel
theorem dX7_mix_17 : decode cX7_mix 17 = .ok (.istore 5, 2) := by decide +kernel
theorem dX7_mix_19 : decode cX7_mix 19 = .ok (.iload_n 1, 1) := by decide +kernel
theorem dX7_mix_20 : decode cX7_mix 20 = .ok (.istore 6, 2) := by decide +kernel
theorem dX7_mix_22 : decode cX7_mix 22 = .ok (.iload 6, 2) := by decide +kernel
theorem dX7_mix_24 : decode cX7_mix 24 = .ok (.iload_n 2, 1) := by decide +kernel
theorem dX7_mix_25 : decode cX7_mix 25 = .ok (.if_icmp .gt 22, 3) := by decide +kernel
theorem dX7_mix_28 : decode cX7_mix 28 = .ok (.iload 5, 2) := by decide +kernel
theorem dX7_mix_30 : decode cX7_mix 30 = .ok (.aload_n 0, 1) := by decide +kernel
theorem dX7_mix_31 : decode cX7_mix 31 = .ok (.iload 6, 2) := by decide +kernel
theorem dX7_mix_33 : decode cX7_mix 33 = .ok (.iload 4, 2) := by decide +kernel
theorem dX7_mix_35 : decode cX7_mix 35 = .ok (.invokevirtual 39, 3) := by decide +kernel
theorem dX7_mix_38 : decode cX7_mix 38 = .ok (.iadd, 1) := by decide +kernel
theorem dX7_mix_39 : decode cX7_mix 39 = .ok (.istore 5, 2) := by decide +kernel
theorem dX7_mix_41 : decode cX7_mix 41 = .ok (.iinc 6 1, 3) := by decide +kernel
theorem dX7_mix_44 : decode cX7_mix 44 = .ok (.goto (-22), 3) := by decide +kernel
theorem dX7_mix_47 : decode cX7_mix 47 = .ok (.iload 5, 2) := by decide +kernel
theorem dX7_mix_49 : decode cX7_mix 49 = .ok (.iload_n 3, 1) := by decide +kernel
theorem dX7_mix_50 : decode cX7_mix 50 = .ok (.invokestatic 51, 3) := by decide +kernel
theorem dX7_mix_53 : decode cX7_mix 53 = .ok (.istore 6, 2) := by decide +kernel
theorem dX7_mix_55 : decode cX7_mix 55 = .ok (.iload 5, 2) := by decide +kernel
theorem dX7_mix_57 : decode cX7_mix 57 = .ok (.iload 6, 2) := by decide +kernel
theorem dX7_mix_59 : decode cX7_mix 59 = .ok (.iload_n 3, 1) := by decide +kernel
theorem dX7_mix_60 : decode cX7_mix 60 = .ok (.imul, 1) := by decide +kernel
theorem dX7_mix_61 : decode cX7_mix 61 = .ok (.isub, 1) := by decide +kernel
theorem dX7_mix_62 : decode cX7_mix 62 = .ok (.istore 7, 2) := by decide +kernel
theorem dX7_mix_64 : decode cX7_mix 64 = .ok (.iload_n 1, 1) := by decide +kernel
theorem dX7_mix_65 : decode cX7_mix 65 = .ok (.istore 8, 2) := by decide +kernel
theorem dX7_mix_67 : decode cX7_mix 67 = .ok (.iload 8, 2) := by decide +kernel
theorem dX7_mix_69 : decode cX7_mix 69 = .ok (.iload_n 2, 1) := by decide +kernel
theorem dX7_mix_70 : decode cX7_mix 70 = .ok (.if_icmp .gt 35, 3) := by decide +kernel
theorem dX7_mix_73 : decode cX7_mix 73 = .ok (.aload_n 0, 1) := by decide +kernel
theorem dX7_mix_74 : decode cX7_mix 74 = .ok (.iload 8, 2) := by decide +kernel
theorem dX7_mix_76 : decode cX7_mix 76 = .ok (.iload 4, 2) := by decide +kernel
theorem dX7_mix_78 : decode cX7_mix 78 = .ok (.iload 8, 2) := by decide +kernel
theorem dX7_mix_80 : decode cX7_mix 80 = .ok (.iload_n 1, 1) := by decide +kernel
theorem dX7_mix_81 : decode cX7_mix 81 = .ok (.isub, 1) := by decide +kernel
theorem dX7_mix_82 : decode cX7_mix 82 = .ok (.iload 7, 2) := by decide +kernel
theorem dX7_mix_84 : decode cX7_mix 84 = .ok (.if_icmp .ge 10, 3) := by decide +kernel
theorem dX7_mix_87 : decode cX7_mix 87 = .ok (.iload 6, 2) := by decide +kernel
theorem dX7_mix_89 : decode cX7_mix 89 = .ok (.iconst 1, 1) := by decide +kernel
theorem dX7_mix_90 : decode cX7_mix 90 = .ok (.iadd, 1) := by decide +kernel
theorem dX7_mix_91 : decode cX7_mix 91 = .ok (.goto 5, 3) := by decide +kernel
theorem dX7_mix_94 : decode cX7_mix 94 = .ok (.iload 6, 2) := by decide +kernel
theorem dX7_mix_96 : decode cX7_mix 96 = .ok (.invokevirtual 64, 3) := by decide +kernel
theorem dX7_mix_99 : decode cX7_mix 99 = .ok (.iinc 8 1, 3) := by decide +kernel
theorem dX7_mix_102 : decode cX7_mix 102 = .ok (.goto (-35), 3) := by decide +kernel
theorem dX7_mix_105 : decode cX7_mix 105 = .ok (.iinc 4 1, 3) := by decide +kernel
theorem dX7_mix_108 : decode cX7_mix 108 = .ok (.goto (-99), 3) := by decide +kernel
theorem dX7_mix_111 : decode cX7_mix 111 = .ok (.return_, 1) := by decide +kernel
theorem dX7_giveRim_0 : decode cX7_giveRim 0 = .ok (.aload_n 0, 1) := by decide +kernel
theorem dX7_giveRim_1 : decode cX7_giveRim 1 = .ok (.getfield 36, 3) := by decide +kernel
theorem dX7_giveRim_4 : decode cX7_giveRim 4 = .ok (.ifCond .eq 10, 3) := by decide +kernel
theorem dX7_giveRim_7 : decode cX7_giveRim 7 = .ok (.aload_n 1, 1) := by decide +kernel
theorem dX7_giveRim_8 : decode cX7_giveRim 8 = .ok (.getfield 36, 3) := by decide +kernel
theorem dX7_giveRim_11 : decode cX7_giveRim 11 = .ok (.ifCond .ne 5, 3) := by decide +kernel
theorem dX7_giveRim_14 : decode cX7_giveRim 14 = .ok (.iconst 0, 1) := by decide +kernel
theorem dX7_giveRim_15 : decode cX7_giveRim 15 = .ok (.ireturn, 1) := by decide +kernel
theorem dX7_giveRim_16 : decode cX7_giveRim 16 = .ok (.iload_n 2, 1) := by decide +kernel
theorem dX7_giveRim_17 : decode cX7_giveRim 17 = .ok (.istore_n 3, 1) := by decide +kernel
theorem dX7_giveRim_18 : decode cX7_giveRim 18 = .ok (.iconst 0, 1) := by decide +kernel
theorem dX7_giveRim_19 : decode cX7_giveRim 19 = .ok (.istore 4, 2) := by decide +kernel
theorem dX7_giveRim_21 : decode cX7_giveRim 21 = .ok (.iload 4, 2) := by decide +kernel
theorem dX7_giveRim_23 : decode cX7_giveRim 23 = .ok (.bipush 6, 2) := by decide +kernel
theorem dX7_giveRim_25 : decode cX7_giveRim 25 = .ok (.if_icmp .ge 54, 3) := by decide +kernel
theorem dX7_giveRim_28 : decode cX7_giveRim 28 = .ok (.aload_n 0, 1) := by decide +kernel
theorem dX7_giveRim_29 : decode cX7_giveRim 29 = .ok (.aload_n 0, 1) := by decide +kernel
theorem dX7_giveRim_30 : decode cX7_giveRim 30 = .ok (.getfield 36, 3) := by decide +kernel
theorem dX7_giveRim_33 : decode cX7_giveRim 33 = .ok (.iconst 1, 1) := by decide +kernel
theorem dX7_giveRim_34 : decode cX7_giveRim 34 = .ok (.isub, 1) := by decide +kernel
theorem dX7_giveRim_35 : decode cX7_giveRim 35 = .ok (.iload 4, 2) := by decide +kernel
theorem dX7_giveRim_37 : decode cX7_giveRim 37 = .ok (.invokevirtual 39, 3) := by decide +kernel
theorem dX7_giveRim_40 : decode cX7_giveRim 40 = .ok (.iload_n 3, 1) := by decide +kernel
theorem dX7_giveRim_41 : decode cX7_giveRim 41 = .ok (.invokestatic 54, 3) := by decide +kernel
theorem dX7_giveRim_44 : decode cX7_giveRim 44 = .ok (.istore 5, 2) := by decide +kernel
theorem dX7_giveRim_46 : decode cX7_giveRim 46 = .ok (.aload_n 1, 1) := by decide +kernel
theorem dX7_giveRim_47 : decode cX7_giveRim 47 = .ok (.aload_n 1, 1) := by decide +kernel
theorem dX7_giveRim_48 : decode cX7_giveRim 48 = .ok (.getfield 36, 3) := by decide +kernel
theorem dX7_giveRim_51 : decode cX7_giveRim 51 = .ok (.iconst 1, 1) := by decide +kernel
theorem dX7_giveRim_52 : decode cX7_giveRim 52 = .ok (.isub, 1) := by decide +kernel
theorem dX7_giveRim_53 : decode cX7_giveRim 53 = .ok (.iload 4, 2) := by decide +kernel
theorem dX7_giveRim_55 : decode cX7_giveRim 55 = .ok (.invokevirtual 39, 3) := by decide +kernel
theorem dX7_giveRim_58 : decode cX7_giveRim 58 = .ok (.iload 5, 2) := by decide +kernel
theorem dX7_giveRim_60 : decode cX7_giveRim 60 = .ok (.iadd, 1) := by decide +kernel
theorem dX7_giveRim_61 : decode cX7_giveRim 61 = .ok (.ldc 63, 2) := by decide +kernel
theorem dX7_giveRim_63 : decode cX7_giveRim 63 = .ok (.if_icmp .le 5, 3) := by decide +kernel
theorem dX7_giveRim_66 : decode cX7_giveRim 66 = .ok (.iconst 0, 1) := by decide +kernel
theorem dX7_giveRim_67 : decode cX7_giveRim 67 = .ok (.ireturn, 1) := by decide +kernel
theorem dX7_giveRim_68 : decode cX7_giveRim 68 = .ok (.iload_n 3, 1) := by decide +kernel
theorem dX7_giveRim_69 : decode cX7_giveRim 69 = .ok (.iload 5, 2) := by decide +kernel
theorem dX7_giveRim_71 : decode cX7_giveRim 71 = .ok (.isub, 1) := by decide +kernel
theorem dX7_giveRim_72 : decode cX7_giveRim 72 = .ok (.istore_n 3, 1) := by decide +kernel
theorem dX7_giveRim_73 : decode cX7_giveRim 73 = .ok (.iinc 4 1, 3) := by decide +kernel
theorem dX7_giveRim_76 : decode cX7_giveRim 76 = .ok (.goto (-55), 3) := by decide +kernel
theorem dX7_giveRim_79 : decode cX7_giveRim 79 = .ok (.iload_n 3, 1) := by decide +kernel
theorem dX7_giveRim_80 : decode cX7_giveRim 80 = .ok (.ifCond .le 5, 3) := by decide +kernel
theorem dX7_giveRim_83 : decode cX7_giveRim 83 = .ok (.iconst 0, 1) := by decide +kernel
theorem dX7_giveRim_84 : decode cX7_giveRim 84 = .ok (.ireturn, 1) := by decide +kernel
theorem dX7_giveRim_85 : decode cX7_giveRim 85 = .ok (.iload_n 2, 1) := by decide +kernel
theorem dX7_giveRim_86 : decode cX7_giveRim 86 = .ok (.istore_n 3, 1) := by decide +kernel
theorem dX7_giveRim_87 : decode cX7_giveRim 87 = .ok (.iconst 0, 1) := by decide +kernel
theorem dX7_giveRim_88 : decode cX7_giveRim 88 = .ok (.istore 4, 2) := by decide +kernel
theorem dX7_giveRim_90 : decode cX7_giveRim 90 = .ok (.iload 4, 2) := by decide +kernel
theorem dX7_giveRim_92 : decode cX7_giveRim 92 = .ok (.bipush 6, 2) := by decide +kernel
theorem dX7_giveRim_94 : decode cX7_giveRim 94 = .ok (.if_icmp .ge 76, 3) := by decide +kernel
theorem dX7_giveRim_97 : decode cX7_giveRim 97 = .ok (.aload_n 0, 1) := by decide +kernel
theorem dX7_giveRim_98 : decode cX7_giveRim 98 = .ok (.aload_n 0, 1) := by decide +kernel
theorem dX7_giveRim_99 : decode cX7_giveRim 99 = .ok (.getfield 36, 3) := by decide +kernel
theorem dX7_giveRim_102 : decode cX7_giveRim 102 = .ok (.iconst 1, 1) := by decide +kernel
theorem dX7_giveRim_103 : decode cX7_giveRim 103 = .ok (.isub, 1) := by decide +kernel
theorem dX7_giveRim_104 : decode cX7_giveRim 104 = .ok (.iload 4, 2) := by decide +kernel
theorem dX7_giveRim_106 : decode cX7_giveRim 106 = .ok (.invokevirtual 39, 3) := by decide +kernel
theorem dX7_giveRim_109 : decode cX7_giveRim 109 = .ok (.iload_n 3, 1) := by decide +kernel
theorem dX7_giveRim_110 : decode cX7_giveRim 110 = .ok (.invokestatic 54, 3) := by decide +kernel
theorem dX7_giveRim_113 : decode cX7_giveRim 113 = .ok (.istore 5, 2) := by decide +kernel
theorem dX7_giveRim_115 : decode cX7_giveRim 115 = .ok (.aload_n 0, 1) := by decide +kernel
theorem dX7_giveRim_116 : decode cX7_giveRim 116 = .ok (.getfield 9, 3) := by decide +kernel
theorem dX7_giveRim_119 : decode cX7_giveRim 119 = .ok (.aload_n 0, 1) := by decide +kernel
theorem dX7_giveRim_120 : decode cX7_giveRim 120 = .ok (.getfield 36, 3) := by decide +kernel
theorem dX7_giveRim_123 : decode cX7_giveRim 123 = .ok (.iconst 1, 1) := by decide +kernel
theorem dX7_giveRim_124 : decode cX7_giveRim 124 = .ok (.isub, 1) := by decide +kernel
theorem dX7_giveRim_125 : decode cX7_giveRim 125 = .ok (.bipush 6, 2) := by decide +kernel
theorem dX7_giveRim_127 : decode cX7_giveRim 127 = .ok (.imul, 1) := by decide +kernel
theorem dX7_giveRim_128 : decode cX7_giveRim 128 = .ok (.iload 4, 2) := by decide +kernel
theorem dX7_giveRim_130 : decode cX7_giveRim 130 = .ok (.iadd, 1) := by decide +kernel
theorem dX7_giveRim_131 : decode cX7_giveRim 131 = .ok (.dup2, 1) := by decide +kernel
theorem dX7_giveRim_132 : decode cX7_giveRim 132 = .ok (.iaload, 1) := by decide +kernel
theorem dX7_giveRim_133 : decode cX7_giveRim 133 = .ok (.iload 5, 2) := by decide +kernel
theorem dX7_giveRim_135 : decode cX7_giveRim 135 = .ok (.isub, 1) := by decide +kernel
theorem dX7_giveRim_136 : decode cX7_giveRim 136 = .ok (.iastore, 1) := by decide +kernel
theorem dX7_giveRim_137 : decode cX7_giveRim 137 = .ok (.aload_n 1, 1) := by decide +kernel
theorem dX7_giveRim_138 : decode cX7_giveRim 138 = .ok (.getfield 9, 3) := by decide +kernel
theorem dX7_giveRim_141 : decode cX7_giveRim 141 = .ok (.aload_n 1, 1) := by decide +kernel
theorem dX7_giveRim_142 : decode cX7_giveRim 142 = .ok (.getfield 36, 3) := by decide +kernel
theorem dX7_giveRim_145 : decode cX7_giveRim 145 = .ok (.iconst 1, 1) := by decide +kernel
theorem dX7_giveRim_146 : decode cX7_giveRim 146 = .ok (.isub, 1) := by decide +kernel
theorem dX7_giveRim_147 : decode cX7_giveRim 147 = .ok (.bipush 6, 2) := by decide +kernel
theorem dX7_giveRim_149 : decode cX7_giveRim 149 = .ok (.imul, 1) := by decide +kernel
theorem dX7_giveRim_150 : decode cX7_giveRim 150 = .ok (.iload 4, 2) := by decide +kernel
theorem dX7_giveRim_152 : decode cX7_giveRim 152 = .ok (.iadd, 1) := by decide +kernel
theorem dX7_giveRim_153 : decode cX7_giveRim 153 = .ok (.dup2, 1) := by decide +kernel
theorem dX7_giveRim_154 : decode cX7_giveRim 154 = .ok (.iaload, 1) := by decide +kernel
theorem dX7_giveRim_155 : decode cX7_giveRim 155 = .ok (.iload 5, 2) := by decide +kernel
theorem dX7_giveRim_157 : decode cX7_giveRim 157 = .ok (.iadd, 1) := by decide +kernel
theorem dX7_giveRim_158 : decode cX7_giveRim 158 = .ok (.iastore, 1) := by decide +kernel
theorem dX7_giveRim_159 : decode cX7_giveRim 159 = .ok (.iload_n 3, 1) := by decide +kernel
theorem dX7_giveRim_160 : decode cX7_giveRim 160 = .ok (.iload 5, 2) := by decide +kernel
theorem dX7_giveRim_162 : decode cX7_giveRim 162 = .ok (.isub, 1) := by decide +kernel
theorem dX7_giveRim_163 : decode cX7_giveRim 163 = .ok (.istore_n 3, 1) := by decide +kernel
theorem dX7_giveRim_164 : decode cX7_giveRim 164 = .ok (.iinc 4 1, 3) := by decide +kernel
theorem dX7_giveRim_167 : decode cX7_giveRim 167 = .ok (.goto (-77), 3) := by decide +kernel
theorem dX7_giveRim_170 : decode cX7_giveRim 170 = .ok (.iconst 1, 1) := by decide +kernel
theorem dX7_giveRim_171 : decode cX7_giveRim 171 = .ok (.ireturn, 1) := by decide +kernel
theorem dX8_init_0 : decode cX8_init 0 = .ok (.aload_n 0, 1) := by decide +kernel
theorem dX8_init_1 : decode cX8_init 1 = .ok (.invokespecial 3, 3) := by decide +kernel
theorem dX8_init_4 : decode cX8_init 4 = .ok (.aload_n 0, 1) := by decide +kernel
theorem dX8_init_5 : decode cX8_init 5 = .ok (.sipush 400, 3) := by decide +kernel
theorem dX8_init_8 : decode cX8_init 8 = .ok (.newarray .int, 2) := by decide +kernel
theorem dX8_init_10 : decode cX8_init 10 = .ok (.putfield 9, 3) := by decide +kernel
theorem dX8_init_13 : decode cX8_init 13 = .ok (.return_, 1) := by decide +kernel
theorem dX8_append_0 : decode cX8_append 0 = .ok (.bipush 24, 2) := by decide +kernel
theorem dX8_append_2 : decode cX8_append 2 = .ok (.istore_n 2, 1) := by decide +kernel
theorem dX8_append_3 : decode cX8_append 3 = .ok (.iload_n 2, 1) := by decide +kernel
theorem dX8_append_4 : decode cX8_append 4 = .ok (.ifCond .lt 45, 3) := by decide +kernel
theorem dX8_append_7 : decode cX8_append 7 = .ok (.aload_n 0, 1) := by decide +kernel
theorem dX8_append_8 : decode cX8_append 8 = .ok (.getfield 15, 3) := by decide +kernel
theorem dX8_append_11 : decode cX8_append 11 = .ok (.sipush 400, 3) := by decide +kernel
theorem dX8_append_14 : decode cX8_append 14 = .ok (.if_icmp .ge 35, 3) := by decide +kernel
theorem dX8_append_17 : decode cX8_append 17 = .ok (.aload_n 0, 1) := by decide +kernel
theorem dX8_append_18 : decode cX8_append 18 = .ok (.getfield 9, 3) := by decide +kernel
theorem dX8_append_21 : decode cX8_append 21 = .ok (.aload_n 0, 1) := by decide +kernel
theorem dX8_append_22 : decode cX8_append 22 = .ok (.getfield 15, 3) := by decide +kernel
theorem dX8_append_25 : decode cX8_append 25 = .ok (.iload_n 1, 1) := by decide +kernel
theorem dX8_append_26 : decode cX8_append 26 = .ok (.iload_n 2, 1) := by decide +kernel
theorem dX8_append_27 : decode cX8_append 27 = .ok (.iushr, 1) := by decide +kernel
theorem dX8_append_28 : decode cX8_append 28 = .ok (.sipush 255, 3) := by decide +kernel
theorem dX8_append_31 : decode cX8_append 31 = .ok (.iand, 1) := by decide +kernel
theorem dX8_append_32 : decode cX8_append 32 = .ok (.iastore, 1) := by decide +kernel
theorem dX8_append_33 : decode cX8_append 33 = .ok (.aload_n 0, 1) := by decide +kernel
theorem dX8_append_34 : decode cX8_append 34 = .ok (.dup, 1) := by decide +kernel
theorem dX8_append_35 : decode cX8_append 35 = .ok (.getfield 15, 3) := by decide +kernel
theorem dX8_append_38 : decode cX8_append 38 = .ok (.iconst 1, 1) := by decide +kernel
theorem dX8_append_39 : decode cX8_append 39 = .ok (.iadd, 1) := by decide +kernel
theorem dX8_append_40 : decode cX8_append 40 = .ok (.putfield 15, 3) := by decide +kernel
theorem dX8_append_43 : decode cX8_append 43 = .ok (.iinc 2 (-8), 3) := by decide +kernel
theorem dX8_append_46 : decode cX8_append 46 = .ok (.goto (-43), 3) := by decide +kernel
theorem dX8_append_49 : decode cX8_append 49 = .ok (.return_, 1) := by decide +kernel
theorem dX9_init_0 : decode cX9_init 0 = .ok (.aload_n 0, 1) := by decide +kernel
theorem dX9_init_1 : decode cX9_init 1 = .ok (.invokespecial 3, 3) := by decide +kernel
theorem dX9_init_4 : decode cX9_init 4 = .ok (.aload_n 0, 1) := by decide +kernel
theorem dX9_init_5 : decode cX9_init 5 = .ok (.bipush 7, 2) := by decide +kernel
theorem dX9_init_7 : decode cX9_init 7 = .ok (.newarray .int, 2) := by decide +kernel
theorem dX9_init_9 : decode cX9_init 9 = .ok (.putfield 9, 3) := by decide +kernel
theorem dX9_init_12 : decode cX9_init 12 = .ok (.return_, 1) := by decide +kernel
theorem dX9_listen_0 : decode cX9_listen 0 = .ok (.aload_n 0, 1) := by decide +kernel
theorem dX9_listen_1 : decode cX9_listen 1 = .ok (.aload_n 1, 1) := by decide +kernel
theorem dX9_listen_2 : decode cX9_listen 2 = .ok (.getfield 15, 3) := by decide +kernel
theorem dX9_listen_5 : decode cX9_listen 5 = .ok (.bipush 7, 2) := by decide +kernel
theorem dX9_listen_7 : decode cX9_listen 7 = .ok (.if_icmp .gt 10, 3) := by decide +kernel
theorem dX9_listen_10 : decode cX9_listen 10 = .ok (.aload_n 1, 1) := by decide +kernel
theorem dX9_listen_11 : decode cX9_listen 11 = .ok (.getfield 15, 3) := by decide +kernel
theorem dX9_listen_14 : decode cX9_listen 14 = .ok (.goto 4, 3) := by decide +kernel
theorem dX9_listen_17 : decode cX9_listen 17 = .ok (.iconst 0, 1) := by decide +kernel
theorem dX9_listen_18 : decode cX9_listen 18 = .ok (.putfield 21, 3) := by decide +kernel
theorem dX9_listen_21 : decode cX9_listen 21 = .ok (.iconst 0, 1) := by decide +kernel
theorem dX9_listen_22 : decode cX9_listen 22 = .ok (.istore_n 2, 1) := by decide +kernel
theorem dX9_listen_23 : decode cX9_listen 23 = .ok (.iload_n 2, 1) := by decide +kernel
theorem dX9_listen_24 : decode cX9_listen 24 = .ok (.aload_n 0, 1) := by decide +kernel
theorem dX9_listen_25 : decode cX9_listen 25 = .ok (.getfield 21, 3) := by decide +kernel
theorem dX9_listen_28 : decode cX9_listen 28 = .ok (.if_icmp .ge 24, 3) := by decide +kernel
theorem dX9_listen_31 : decode cX9_listen 31 = .ok (.aload_n 0, 1) := by decide +kernel
theorem dX9_listen_32 : decode cX9_listen 32 = .ok (.getfield 9, 3) := by decide +kernel
theorem dX9_listen_35 : decode cX9_listen 35 = .ok (.iload_n 2, 1) := by decide +kernel
theorem dX9_listen_36 : decode cX9_listen 36 = .ok (.aload_n 1, 1) := by decide +kernel
theorem dX9_listen_37 : decode cX9_listen 37 = .ok (.getfield 24, 3) := by decide +kernel
theorem dX9_listen_40 : decode cX9_listen 40 = .ok (.iload_n 2, 1) := by decide +kernel
theorem dX9_listen_41 : decode cX9_listen 41 = .ok (.iaload, 1) := by decide +kernel
theorem dX9_listen_42 : decode cX9_listen 42 = .ok (.bipush 10, 2) := by decide +kernel
theorem dX9_listen_44 : decode cX9_listen 44 = .ok (.idiv, 1) := by decide +kernel
theorem dX9_listen_45 : decode cX9_listen 45 = .ok (.iastore, 1) := by decide +kernel
theorem dX9_listen_46 : decode cX9_listen 46 = .ok (.iinc 2 1, 3) := by decide +kernel
theorem dX9_listen_49 : decode cX9_listen 49 = .ok (.goto (-26), 3) := by decide +kernel
theorem dX9_listen_52 : decode cX9_listen 52 = .ok (.aload_n 0, 1) := by decide +kernel
theorem dX9_listen_53 : decode cX9_listen 53 = .ok (.getfield 21, 3) := by decide +kernel
theorem dX9_listen_56 : decode cX9_listen 56 = .ok (.ifCond .le 7, 3) := by decide +kernel
theorem dX9_listen_59 : decode cX9_listen 59 = .ok (.iconst 1, 1) := by decide +kernel
theorem dX9_listen_60 : decode cX9_listen 60 = .ok (.goto 4, 3) := by decide +kernel
theorem dX9_listen_63 : decode cX9_listen 63 = .ok (.iconst 0, 1) := by decide +kernel
theorem dX9_listen_64 : decode cX9_listen 64 = .ok (.ireturn, 1) := by decide +kernel
theorem dX9_countBelow_0 : decode cX9_countBelow 0 = .ok (.iconst 0, 1) := by decide +kernel
theorem dX9_countBelow_1 : decode cX9_countBelow 1 = .ok (.istore_n 2, 1) := by decide +kernel
theorem dX9_countBelow_2 : decode cX9_countBelow 2 = .ok (.lconst 0, 1) := by decide +kernel
theorem dX9_countBelow_3 : decode cX9_countBelow 3 = .ok (.lstore_n 3, 1) := by decide +kernel
theorem dX9_countBelow_4 : decode cX9_countBelow 4 = .ok (.lconst 1, 1) := by decide +kernel
theorem dX9_countBelow_5 : decode cX9_countBelow 5 = .ok (.lstore 5, 2) := by decide +kernel
theorem dX9_countBelow_7 : decode cX9_countBelow 7 = .ok (.iconst 0, 1) := by decide +kernel
theorem dX9_countBelow_8 : decode cX9_countBelow 8 = .ok (.istore 7, 2) := by decide +kernel
theorem dX9_countBelow_10 : decode cX9_countBelow 10 = .ok (.iconst 0, 1) := by decide +kernel
theorem dX9_countBelow_11 : decode cX9_countBelow 11 = .ok (.istore 8, 2) := by decide +kernel
theorem dX9_countBelow_13 : decode cX9_countBelow 13 = .ok (.iload 8, 2) := by decide +kernel
theorem dX9_countBelow_15 : decode cX9_countBelow 15 = .ok (.aload_n 0, 1) := by decide +kernel
theorem dX9_countBelow_16 : decode cX9_countBelow 16 = .ok (.getfield 21, 3) := by decide +kernel
theorem dX9_countBelow_19 : decode cX9_countBelow 19 = .ok (.if_icmp .ge 132, 3) := by decide +kernel
theorem dX9_countBelow_22 : decode cX9_countBelow 22 = .ok (.iload 8, 2) := by decide +kernel
theorem dX9_countBelow_24 : decode cX9_countBelow 24 = .ok (.iconst 1, 1) := by decide +kernel
theorem dX9_countBelow_25 : decode cX9_countBelow 25 = .ok (.iadd, 1) := by decide +kernel
theorem dX9_countBelow_26 : decode cX9_countBelow 26 = .ok (.aload_n 0, 1) := by decide +kernel
theorem dX9_countBelow_27 : decode cX9_countBelow 27 = .ok (.getfield 21, 3) := by decide +kernel
theorem dX9_countBelow_30 : decode cX9_countBelow 30 = .ok (.if_icmp .ge 16, 3) := by decide +kernel
theorem dX9_countBelow_33 : decode cX9_countBelow 33 = .ok (.aload_n 0, 1) := by decide +kernel
theorem dX9_countBelow_34 : decode cX9_countBelow 34 = .ok (.getfield 9, 3) := by decide +kernel
theorem dX9_countBelow_37 : decode cX9_countBelow 37 = .ok (.iload 8, 2) := by decide +kernel
theorem dX9_countBelow_39 : decode cX9_countBelow 39 = .ok (.iconst 1, 1) := by decide +kernel
theorem dX9_countBelow_40 : decode cX9_countBelow 40 = .ok (.iadd, 1) := by decide +kernel
theorem dX9_countBelow_41 : decode cX9_countBelow 41 = .ok (.iaload, 1) := by decide +kernel
theorem dX9_countBelow_42 : decode cX9_countBelow 42 = .ok (.i2l, 1) := by decide +kernel
theorem dX9_countBelow_43 : decode cX9_countBelow 43 = .ok (.goto 4, 3) := by decide +kernel
theorem dX9_countBelow_46 : decode cX9_countBelow 46 = .ok (.lconst 0, 1) := by decide +kernel
theorem dX9_countBelow_47 : decode cX9_countBelow 47 = .ok (.lstore 9, 2) := by decide +kernel
theorem dX9_countBelow_49 : decode cX9_countBelow 49 = .ok (.aload_n 0, 1) := by decide +kernel
theorem dX9_countBelow_50 : decode cX9_countBelow 50 = .ok (.getfield 9, 3) := by decide +kernel
theorem dX9_countBelow_53 : decode cX9_countBelow 53 = .ok (.iload 8, 2) := by decide +kernel
theorem dX9_countBelow_55 : decode cX9_countBelow 55 = .ok (.iaload, 1) := by decide +kernel
theorem dX9_countBelow_56 : decode cX9_countBelow 56 = .ok (.i2l, 1) := by decide +kernel
theorem dX9_countBelow_57 : decode cX9_countBelow 57 = .ok (.lstore 11, 2) := by decide +kernel
theorem dX9_countBelow_59 : decode cX9_countBelow 59 = .ok (.lload 11, 2) := by decide +kernel
theorem dX9_countBelow_61 : decode cX9_countBelow 61 = .ok (.lconst 0, 1) := by decide +kernel
theorem dX9_countBelow_62 : decode cX9_countBelow 62 = .ok (.lcmp, 1) := by decide +kernel
theorem dX9_countBelow_63 : decode cX9_countBelow 63 = .ok (.ifCond .ne 9, 3) := by decide +kernel
theorem dX9_countBelow_66 : decode cX9_countBelow 66 = .ok (.lconst 1, 1) := by decide +kernel
theorem dX9_countBelow_67 : decode cX9_countBelow 67 = .ok (.lstore 5, 2) := by decide +kernel
theorem dX9_countBelow_69 : decode cX9_countBelow 69 = .ok (.iconst 0, 1) := by decide +kernel
theorem dX9_countBelow_70 : decode cX9_countBelow 70 = .ok (.istore 7, 2) := by decide +kernel
theorem dX9_countBelow_72 : decode cX9_countBelow 72 = .ok (.aload_n 0, 1) := by decide +kernel
theorem dX9_countBelow_73 : decode cX9_countBelow 73 = .ok (.getfield 9, 3) := by decide +kernel
theorem dX9_countBelow_76 : decode cX9_countBelow 76 = .ok (.iload 8, 2) := by decide +kernel
theorem dX9_countBelow_78 : decode cX9_countBelow 78 = .ok (.iaload, 1) := by decide +kernel
theorem dX9_countBelow_79 : decode cX9_countBelow 79 = .ok (.i2l, 1) := by decide +kernel
theorem dX9_countBelow_80 : decode cX9_countBelow 80 = .ok (.lload 9, 2) := by decide +kernel
theorem dX9_countBelow_82 : decode cX9_countBelow 82 = .ok (.ladd, 1) := by decide +kernel
theorem dX9_countBelow_83 : decode cX9_countBelow 83 = .ok (.iload_n 1, 1) := by decide +kernel
theorem dX9_countBelow_84 : decode cX9_countBelow 84 = .ok (.i2l, 1) := by decide +kernel
theorem dX9_countBelow_85 : decode cX9_countBelow 85 = .ok (.lsub, 1) := by decide +kernel
theorem dX9_countBelow_86 : decode cX9_countBelow 86 = .ok (.lload 5, 2) := by decide +kernel
theorem dX9_countBelow_88 : decode cX9_countBelow 88 = .ok (.lmul, 1) := by decide +kernel
theorem dX9_countBelow_89 : decode cX9_countBelow 89 = .ok (.lload 11, 2) := by decide +kernel
theorem dX9_countBelow_91 : decode cX9_countBelow 91 = .ok (.lload 11, 2) := by decide +kernel
theorem dX9_countBelow_93 : decode cX9_countBelow 93 = .ok (.lmul, 1) := by decide +kernel
theorem dX9_countBelow_94 : decode cX9_countBelow 94 = .ok (.lload_n 3, 1) := by decide +kernel
theorem dX9_countBelow_95 : decode cX9_countBelow 95 = .ok (.lmul, 1) := by decide +kernel
theorem dX9_countBelow_96 : decode cX9_countBelow 96 = .ok (.lsub, 1) := by decide +kernel
theorem dX9_countBelow_97 : decode cX9_countBelow 97 = .ok (.lstore 13, 2) := by decide +kernel
theorem dX9_countBelow_99 : decode cX9_countBelow 99 = .ok (.lload 13, 2) := by decide +kernel
theorem dX9_countBelow_101 : decode cX9_countBelow 101 = .ok (.lconst 0, 1) := by decide +kernel
theorem dX9_countBelow_102 : decode cX9_countBelow 102 = .ok (.lcmp, 1) := by decide +kernel
theorem dX9_countBelow_103 : decode cX9_countBelow 103 = .ok (.ifCond .eq 35, 3) := by decide +kernel
theorem dX9_countBelow_106 : decode cX9_countBelow 106 = .ok (.lload 13, 2) := by decide +kernel
theorem dX9_countBelow_108 : decode cX9_countBelow 108 = .ok (.lconst 0, 1) := by decide +kernel
theorem dX9_countBelow_109 : decode cX9_countBelow 109 = .ok (.lcmp, 1) := by decide +kernel
theorem dX9_countBelow_110 : decode cX9_countBelow 110 = .ok (.ifCond .ge 7, 3) := by decide +kernel
theorem dX9_countBelow_113 : decode cX9_countBelow 113 = .ok (.iconst 1, 1) := by decide +kernel
theorem dX9_countBelow_114 : decode cX9_countBelow 114 = .ok (.goto 4, 3) := by decide +kernel
theorem dX9_countBelow_117 : decode cX9_countBelow 117 = .ok (.iconst 0, 1) := by decide +kernel
theorem dX9_countBelow_118 : decode cX9_countBelow 118 = .ok (.iload 7, 2) := by decide +kernel
theorem dX9_countBelow_120 : decode cX9_countBelow 120 = .ok (.if_icmp .eq 18, 3) := by decide +kernel
theorem dX9_countBelow_123 : decode cX9_countBelow 123 = .ok (.iinc 2 1, 3) := by decide +kernel
theorem dX9_countBelow_126 : decode cX9_countBelow 126 = .ok (.iload 7, 2) := by decide +kernel
theorem dX9_countBelow_128 : decode cX9_countBelow 128 = .ok (.ifCond .ne 7, 3) := by decide +kernel
theorem dX9_countBelow_131 : decode cX9_countBelow 131 = .ok (.iconst 1, 1) := by decide +kernel
theorem dX9_countBelow_132 : decode cX9_countBelow 132 = .ok (.goto 4, 3) := by decide +kernel
theorem dX9_countBelow_135 : decode cX9_countBelow 135 = .ok (.iconst 0, 1) := by decide +kernel
theorem dX9_countBelow_136 : decode cX9_countBelow 136 = .ok (.istore 7, 2) := by decide +kernel
theorem dX9_countBelow_138 : decode cX9_countBelow 138 = .ok (.lload 5, 2) := by decide +kernel
theorem dX9_countBelow_140 : decode cX9_countBelow 140 = .ok (.lstore_n 3, 1) := by decide +kernel
theorem dX9_countBelow_141 : decode cX9_countBelow 141 = .ok (.lload 13, 2) := by decide +kernel
theorem dX9_countBelow_143 : decode cX9_countBelow 143 = .ok (.lstore 5, 2) := by decide +kernel
theorem dX9_countBelow_145 : decode cX9_countBelow 145 = .ok (.iinc 8 1, 3) := by decide +kernel
theorem dX9_countBelow_148 : decode cX9_countBelow 148 = .ok (.goto (-135), 3) := by decide +kernel
theorem dX9_countBelow_151 : decode cX9_countBelow 151 = .ok (.iload_n 2, 1) := by decide +kernel
theorem dX9_countBelow_152 : decode cX9_countBelow 152 = .ok (.ireturn, 1) := by decide +kernel
theorem dX9_boxOf_0 : decode cX9_boxOf 0 = .ok (.iload_n 1, 1) := by decide +kernel
theorem dX9_boxOf_1 : decode cX9_boxOf 1 = .ok (.ifCond .lt 11, 3) := by decide +kernel
theorem dX9_boxOf_4 : decode cX9_boxOf 4 = .ok (.iload_n 1, 1) := by decide +kernel
theorem dX9_boxOf_5 : decode cX9_boxOf 5 = .ok (.aload_n 0, 1) := by decide +kernel
theorem dX9_boxOf_6 : decode cX9_boxOf 6 = .ok (.getfield 21, 3) := by decide +kernel
theorem dX9_boxOf_9 : decode cX9_boxOf 9 = .ok (.if_icmp .lt 5, 3) := by decide +kernel
theorem dX9_boxOf_12 : decode cX9_boxOf 12 = .ok (.iconst (-1), 1) := by decide +kernel
theorem dX9_boxOf_13 : decode cX9_boxOf 13 = .ok (.ireturn, 1) := by decide +kernel
theorem dX9_boxOf_14 : decode cX9_boxOf 14 = .ok (.iconst 0, 1) := by decide +kernel
theorem dX9_boxOf_15 : decode cX9_boxOf 15 = .ok (.istore_n 2, 1) := by decide +kernel
theorem dX9_boxOf_16 : decode cX9_boxOf 16 = .ok (.sipush 256, 3) := by decide +kernel
theorem dX9_boxOf_19 : decode cX9_boxOf 19 = .ok (.istore_n 3, 1) := by decide +kernel
theorem dX9_boxOf_20 : decode cX9_boxOf 20 = .ok (.iload_n 3, 1) := by decide +kernel
theorem dX9_boxOf_21 : decode cX9_boxOf 21 = .ok (.ifCond .le 34, 3) := by decide +kernel
theorem dX9_boxOf_24 : decode cX9_boxOf 24 = .ok (.iload_n 2, 1) := by decide +kernel
theorem dX9_boxOf_25 : decode cX9_boxOf 25 = .ok (.iload_n 3, 1) := by decide +kernel
theorem dX9_boxOf_26 : decode cX9_boxOf 26 = .ok (.iadd, 1) := by decide +kernel
theorem dX9_boxOf_27 : decode cX9_boxOf 27 = .ok (.sipush 400, 3) := by decide +kernel
theorem dX9_boxOf_30 : decode cX9_boxOf 30 = .ok (.if_icmp .gt 18, 3) := by decide +kernel
theorem dX9_boxOf_33 : decode cX9_boxOf 33 = .ok (.aload_n 0, 1) := by decide +kernel
theorem dX9_boxOf_34 : decode cX9_boxOf 34 = .ok (.iload_n 2, 1) := by decide +kernel
theorem dX9_boxOf_35 : decode cX9_boxOf 35 = .ok (.iload_n 3, 1) := by decide +kernel
theorem dX9_boxOf_36 : decode cX9_boxOf 36 = .ok (.iadd, 1) := by decide +kernel
theorem dX9_boxOf_37 : decode cX9_boxOf 37 = .ok (.invokevirtual 27, 3) := by decide +kernel
theorem dX9_boxOf_40 : decode cX9_boxOf 40 = .ok (.iload_n 1, 1) := by decide +kernel
theorem dX9_boxOf_41 : decode cX9_boxOf 41 = .ok (.if_icmp .gt 7, 3) := by decide +kernel
theorem dX9_boxOf_44 : decode cX9_boxOf 44 = .ok (.iload_n 2, 1) := by decide +kernel
theorem dX9_boxOf_45 : decode cX9_boxOf 45 = .ok (.iload_n 3, 1) := by decide +kernel
theorem dX9_boxOf_46 : decode cX9_boxOf 46 = .ok (.iadd, 1) := by decide +kernel
theorem dX9_boxOf_47 : decode cX9_boxOf 47 = .ok (.istore_n 2, 1) := by decide +kernel
theorem dX9_boxOf_48 : decode cX9_boxOf 48 = .ok (.iload_n 3, 1) := by decide +kernel
theorem dX9_boxOf_49 : decode cX9_boxOf 49 = .ok (.iconst 2, 1) := by decide +kernel
theorem dX9_boxOf_50 : decode cX9_boxOf 50 = .ok (.idiv, 1) := by decide +kernel
theorem dX9_boxOf_51 : decode cX9_boxOf 51 = .ok (.istore_n 3, 1) := by decide +kernel
theorem dX9_boxOf_52 : decode cX9_boxOf 52 = .ok (.goto (-32), 3) := by decide +kernel
theorem dX9_boxOf_55 : decode cX9_boxOf 55 = .ok (.iload_n 2, 1) := by decide +kernel
theorem dX9_boxOf_56 : decode cX9_boxOf 56 = .ok (.ireturn, 1) := by decide +kernel
theorem dX10_init_0 : decode cX10_init 0 = .ok (.aload_n 0, 1) := by decide +kernel
theorem dX10_init_1 : decode cX10_init 1 = .ok (.invokespecial 3, 3) := by decide +kernel
theorem dX10_init_4 : decode cX10_init 4 = .ok (.aload_n 0, 1) := by decide +kernel
theorem dX10_init_5 : decode cX10_init 5 = .ok (.iconst 2, 1) := by decide +kernel
theorem dX10_init_6 : decode cX10_init 6 = .ok (.anewarray 9, 3) := by decide +kernel
theorem dX10_init_9 : decode cX10_init 9 = .ok (.putfield 11, 3) := by decide +kernel
theorem dX10_init_12 : decode cX10_init 12 = .ok (.iconst 0, 1) := by decide +kernel
theorem dX10_init_13 : decode cX10_init 13 = .ok (.istore_n 1, 1) := by decide +kernel
theorem dX10_init_14 : decode cX10_init 14 = .ok (.iload_n 1, 1) := by decide +kernel
theorem dX10_init_15 : decode cX10_init 15 = .ok (.iconst 2, 1) := by decide +kernel
theorem dX10_init_16 : decode cX10_init 16 = .ok (.if_icmp .ge 22, 3) := by decide +kernel
theorem dX10_init_19 : decode cX10_init 19 = .ok (.aload_n 0, 1) := by decide +kernel
theorem dX10_init_20 : decode cX10_init 20 = .ok (.getfield 11, 3) := by decide +kernel
theorem dX10_init_23 : decode cX10_init 23 = .ok (.iload_n 1, 1) := by decide +kernel
theorem dX10_init_24 : decode cX10_init 24 = .ok (.new 9, 3) := by decide +kernel
theorem dX10_init_27 : decode cX10_init 27 = .ok (.dup, 1) := by decide +kernel
theorem dX10_init_28 : decode cX10_init 28 = .ok (.invokespecial 17, 3) := by decide +kernel
theorem dX10_init_31 : decode cX10_init 31 = .ok (.aastore, 1) := by decide +kernel
theorem dX10_init_32 : decode cX10_init 32 = .ok (.iinc 1 1, 3) := by decide +kernel
theorem dX10_init_35 : decode cX10_init 35 = .ok (.goto (-21), 3) := by decide +kernel
theorem dX10_init_38 : decode cX10_init 38 = .ok (.return_, 1) := by decide +kernel
theorem dX10_copyFrom_0 : decode cX10_copyFrom 0 = .ok (.iconst 0, 1) := by decide +kernel
theorem dX10_copyFrom_1 : decode cX10_copyFrom 1 = .ok (.istore_n 2, 1) := by decide +kernel
theorem dX10_copyFrom_2 : decode cX10_copyFrom 2 = .ok (.iload_n 2, 1) := by decide +kernel
theorem dX10_copyFrom_3 : decode cX10_copyFrom 3 = .ok (.iconst 2, 1) := by decide +kernel
theorem dX10_copyFrom_4 : decode cX10_copyFrom 4 = .ok (.if_icmp .ge 24, 3) := by decide +kernel
theorem dX10_copyFrom_7 : decode cX10_copyFrom 7 = .ok (.aload_n 0, 1) := by decide +kernel
theorem dX10_copyFrom_8 : decode cX10_copyFrom 8 = .ok (.getfield 11, 3) := by decide +kernel
theorem dX10_copyFrom_11 : decode cX10_copyFrom 11 = .ok (.iload_n 2, 1) := by decide +kernel
theorem dX10_copyFrom_12 : decode cX10_copyFrom 12 = .ok (.aaload, 1) := by decide +kernel
theorem dX10_copyFrom_13 : decode cX10_copyFrom 13 = .ok (.aload_n 1, 1) := by decide +kernel
theorem dX10_copyFrom_14 : decode cX10_copyFrom 14 = .ok (.getfield 11, 3) := by decide +kernel
theorem dX10_copyFrom_17 : decode cX10_copyFrom 17 = .ok (.iload_n 2, 1) := by decide +kernel
theorem dX10_copyFrom_18 : decode cX10_copyFrom 18 = .ok (.aaload, 1) := by decide +kernel
theorem dX10_copyFrom_19 : decode cX10_copyFrom 19 = .ok (.invokevirtual 18, 3) := by decide +kernel
theorem dX10_copyFrom_22 : decode cX10_copyFrom 22 = .ok (.iinc 2 1, 3) := by decide +kernel
theorem dX10_copyFrom_25 : decode cX10_copyFrom 25 = .ok (.goto (-23), 3) := by decide +kernel
theorem dX10_copyFrom_28 : decode cX10_copyFrom 28 = .ok (.aload_n 0, 1) := by decide +kernel
theorem dX10_copyFrom_29 : decode cX10_copyFrom 29 = .ok (.aload_n 1, 1) := by decide +kernel
theorem dX10_copyFrom_30 : decode cX10_copyFrom 30 = .ok (.getfield 22, 3) := by decide +kernel
theorem dX10_copyFrom_33 : decode cX10_copyFrom 33 = .ok (.putfield 22, 3) := by decide +kernel
theorem dX10_copyFrom_36 : decode cX10_copyFrom 36 = .ok (.aload_n 0, 1) := by decide +kernel
theorem dX10_copyFrom_37 : decode cX10_copyFrom 37 = .ok (.aload_n 1, 1) := by decide +kernel
theorem dX10_copyFrom_38 : decode cX10_copyFrom 38 = .ok (.getfield 26, 3) := by decide +kernel
theorem dX10_copyFrom_41 : decode cX10_copyFrom 41 = .ok (.putfield 26, 3) := by decide +kernel
theorem dX10_copyFrom_44 : decode cX10_copyFrom 44 = .ok (.aload_n 0, 1) := by decide +kernel
theorem dX10_copyFrom_45 : decode cX10_copyFrom 45 = .ok (.aload_n 1, 1) := by decide +kernel
theorem dX10_copyFrom_46 : decode cX10_copyFrom 46 = .ok (.getfield 29, 3) := by decide +kernel
theorem dX10_copyFrom_49 : decode cX10_copyFrom 49 = .ok (.putfield 29, 3) := by decide +kernel
theorem dX10_copyFrom_52 : decode cX10_copyFrom 52 = .ok (.aload_n 0, 1) := by decide +kernel
theorem dX10_copyFrom_53 : decode cX10_copyFrom 53 = .ok (.aload_n 1, 1) := by decide +kernel
theorem dX10_copyFrom_54 : decode cX10_copyFrom 54 = .ok (.getfield 32, 3) := by decide +kernel
theorem dX10_copyFrom_57 : decode cX10_copyFrom 57 = .ok (.putfield 32, 3) := by decide +kernel
theorem dX10_copyFrom_60 : decode cX10_copyFrom 60 = .ok (.aload_n 0, 1) := by decide +kernel
theorem dX10_copyFrom_61 : decode cX10_copyFrom 61 = .ok (.aload_n 1, 1) := by decide +kernel
theorem dX10_copyFrom_62 : decode cX10_copyFrom 62 = .ok (.getfield 35, 3) := by decide +kernel
theorem dX10_copyFrom_65 : decode cX10_copyFrom 65 = .ok (.putfield 35, 3) := by decide +kernel
theorem dX10_copyFrom_68 : decode cX10_copyFrom 68 = .ok (.return_, 1) := by decide +kernel
theorem dX11_init_0 : decode cX11_init 0 = .ok (.aload_n 0, 1) := by decide +kernel
theorem dX11_init_1 : decode cX11_init 1 = .ok (.invokespecial 3, 3) := by decide +kernel
theorem dX11_init_4 : decode cX11_init 4 = .ok (.aload_n 0, 1) := by decide +kernel
theorem dX11_init_5 : decode cX11_init 5 = .ok (.new 9, 3) := by decide +kernel
theorem dX11_init_8 : decode cX11_init 8 = .ok (.dup, 1) := by decide +kernel
theorem dX11_init_9 : decode cX11_init 9 = .ok (.invokespecial 11, 3) := by decide +kernel
theorem dX11_init_12 : decode cX11_init 12 = .ok (.putfield 12, 3) := by decide +kernel
theorem dX11_init_15 : decode cX11_init 15 = .ok (.aload_n 0, 1) := by decide +kernel
theorem dX11_init_16 : decode cX11_init 16 = .ok (.new 16, 3) := by decide +kernel
theorem dX11_init_19 : decode cX11_init 19 = .ok (.dup, 1) := by decide +kernel
theorem dX11_init_20 : decode cX11_init 20 = .ok (.aload_n 0, 1) := by decide +kernel
theorem dX11_init_21 : decode cX11_init 21 = .ok (.getfield 12, 3) := by decide +kernel
theorem dX11_init_24 : decode cX11_init 24 = .ok (.invokespecial 18, 3) := by decide +kernel
theorem dX11_init_27 : decode cX11_init 27 = .ok (.putfield 21, 3) := by decide +kernel
theorem dX11_init_30 : decode cX11_init 30 = .ok (.aload_n 0, 1) := by decide +kernel
theorem dX11_init_31 : decode cX11_init 31 = .ok (.bipush 31, 2) := by decide +kernel
theorem dX11_init_33 : decode cX11_init 33 = .ok (.anewarray 25, 3) := by decide +kernel
theorem dX11_init_36 : decode cX11_init 36 = .ok (.putfield 27, 3) := by decide +kernel
theorem dX11_init_39 : decode cX11_init 39 = .ok (.iconst 0, 1) := by decide +kernel
theorem dX11_init_40 : decode cX11_init 40 = .ok (.istore_n 1, 1) := by decide +kernel
theorem dX11_init_41 : decode cX11_init 41 = .ok (.iload_n 1, 1) := by decide +kernel
theorem dX11_init_42 : decode cX11_init 42 = .ok (.bipush 30, 2) := by decide +kernel
theorem dX11_init_44 : decode cX11_init 44 = .ok (.if_icmp .gt 22, 3) := by decide +kernel
theorem dX11_init_47 : decode cX11_init 47 = .ok (.aload_n 0, 1) := by decide +kernel
theorem dX11_init_48 : decode cX11_init 48 = .ok (.getfield 27, 3) := by decide +kernel
theorem dX11_init_51 : decode cX11_init 51 = .ok (.iload_n 1, 1) := by decide +kernel
theorem dX11_init_52 : decode cX11_init 52 = .ok (.new 25, 3) := by decide +kernel
theorem dX11_init_55 : decode cX11_init 55 = .ok (.dup, 1) := by decide +kernel
theorem dX11_init_56 : decode cX11_init 56 = .ok (.invokespecial 31, 3) := by decide +kernel
theorem dX11_init_59 : decode cX11_init 59 = .ok (.aastore, 1) := by decide +kernel
theorem dX11_init_60 : decode cX11_init 60 = .ok (.iinc 1 1, 3) := by decide +kernel
theorem dX11_init_63 : decode cX11_init 63 = .ok (.goto (-22), 3) := by decide +kernel
theorem dX11_init_66 : decode cX11_init 66 = .ok (.aload_n 0, 1) := by decide +kernel
theorem dX11_init_67 : decode cX11_init 67 = .ok (.new 32, 3) := by decide +kernel
theorem dX11_init_70 : decode cX11_init 70 = .ok (.dup, 1) := by decide +kernel
theorem dX11_init_71 : decode cX11_init 71 = .ok (.invokespecial 34, 3) := by decide +kernel
theorem dX11_init_74 : decode cX11_init 74 = .ok (.putfield 35, 3) := by decide +kernel
theorem dX11_init_77 : decode cX11_init 77 = .ok (.aload_n 0, 1) := by decide +kernel
theorem dX11_init_78 : decode cX11_init 78 = .ok (.new 32, 3) := by decide +kernel
theorem dX11_init_81 : decode cX11_init 81 = .ok (.dup, 1) := by decide +kernel
theorem dX11_init_82 : decode cX11_init 82 = .ok (.invokespecial 34, 3) := by decide +kernel
theorem dX11_init_85 : decode cX11_init 85 = .ok (.putfield 39, 3) := by decide +kernel
theorem dX11_init_88 : decode cX11_init 88 = .ok (.aload_n 0, 1) := by decide +kernel
theorem dX11_init_89 : decode cX11_init 89 = .ok (.new 42, 3) := by decide +kernel
theorem dX11_init_92 : decode cX11_init 92 = .ok (.dup, 1) := by decide +kernel
theorem dX11_init_93 : decode cX11_init 93 = .ok (.invokespecial 44, 3) := by decide +kernel
theorem dX11_init_96 : decode cX11_init 96 = .ok (.putfield 45, 3) := by decide +kernel
theorem dX11_init_99 : decode cX11_init 99 = .ok (.aload_n 0, 1) := by decide +kernel
theorem dX11_init_100 : decode cX11_init 100 = .ok (.new 49, 3) := by decide +kernel
theorem dX11_init_103 : decode cX11_init 103 = .ok (.dup, 1) := by decide +kernel
theorem dX11_init_104 : decode cX11_init 104 = .ok (.invokespecial 51, 3) := by decide +kernel
theorem dX11_init_107 : decode cX11_init 107 = .ok (.putfield 52, 3) := by decide +kernel
theorem dX11_init_110 : decode cX11_init 110 = .ok (.aload_n 0, 1) := by decide +kernel
theorem dX11_init_111 : decode cX11_init 111 = .ok (.new 56, 3) := by decide +kernel
theorem dX11_init_114 : decode cX11_init 114 = .ok (.dup, 1) := by decide +kernel
theorem dX11_init_115 : decode cX11_init 115 = .ok (.invokespecial 58, 3) := by decide +kernel
theorem dX11_init_118 : decode cX11_init 118 = .ok (.putfield 59, 3) := by decide +kernel
theorem dX11_init_121 : decode cX11_init 121 = .ok (.aload_n 0, 1) := by decide +kernel
theorem dX11_init_122 : decode cX11_init 122 = .ok (.new 63, 3) := by decide +kernel
theorem dX11_init_125 : decode cX11_init 125 = .ok (.dup, 1) := by decide +kernel
theorem dX11_init_126 : decode cX11_init 126 = .ok (.invokespecial 65, 3) := by decide +kernel
theorem dX11_init_129 : decode cX11_init 129 = .ok (.putfield 66, 3) := by decide +kernel
theorem dX11_init_132 : decode cX11_init 132 = .ok (.aload_n 0, 1) := by decide +kernel
theorem dX11_init_133 : decode cX11_init 133 = .ok (.new 70, 3) := by decide +kernel
theorem dX11_init_136 : decode cX11_init 136 = .ok (.dup, 1) := by decide +kernel
theorem dX11_init_137 : decode cX11_init 137 = .ok (.invokespecial 72, 3) := by decide +kernel
theorem dX11_init_140 : decode cX11_init 140 = .ok (.putfield 73, 3) := by decide +kernel
theorem dX11_init_143 : decode cX11_init 143 = .ok (.aload_n 0, 1) := by decide +kernel
theorem dX11_init_144 : decode cX11_init 144 = .ok (.bipush 6, 2) := by decide +kernel
theorem dX11_init_146 : decode cX11_init 146 = .ok (.newarray .int, 2) := by decide +kernel
theorem dX11_init_148 : decode cX11_init 148 = .ok (.putfield 77, 3) := by decide +kernel
theorem dX11_init_151 : decode cX11_init 151 = .ok (.aload_n 0, 1) := by decide +kernel
theorem dX11_init_152 : decode cX11_init 152 = .ok (.iconst 5, 1) := by decide +kernel
theorem dX11_init_153 : decode cX11_init 153 = .ok (.newarray .long, 2) := by decide +kernel
theorem dX11_init_155 : decode cX11_init 155 = .ok (.putfield 81, 3) := by decide +kernel
theorem dX11_init_158 : decode cX11_init 158 = .ok (.return_, 1) := by decide +kernel
theorem dX11_feed_0 : decode cX11_feed 0 = .ok (.aload_n 0, 1) := by decide +kernel
theorem dX11_feed_1 : decode cX11_feed 1 = .ok (.getfield 12, 3) := by decide +kernel
theorem dX11_feed_4 : decode cX11_feed 4 = .ok (.getfield 85, 3) := by decide +kernel
theorem dX11_feed_7 : decode cX11_feed 7 = .ok (.bipush 20, 2) := by decide +kernel
theorem dX11_feed_9 : decode cX11_feed 9 = .ok (.iadd, 1) := by decide +kernel
theorem dX11_feed_10 : decode cX11_feed 10 = .ok (.sipush 400, 3) := by decide +kernel
theorem dX11_feed_13 : decode cX11_feed 13 = .ok (.if_icmp .le 5, 3) := by decide +kernel
theorem dX11_feed_16 : decode cX11_feed 16 = .ok (.iconst (-1), 1) := by decide +kernel
theorem dX11_feed_17 : decode cX11_feed 17 = .ok (.ireturn, 1) := by decide +kernel
theorem dX11_feed_18 : decode cX11_feed 18 = .ok (.aload_n 0, 1) := by decide +kernel
theorem dX11_feed_19 : decode cX11_feed 19 = .ok (.getfield 12, 3) := by decide +kernel
theorem dX11_feed_22 : decode cX11_feed 22 = .ok (.iload_n 1, 1) := by decide +kernel
theorem dX11_feed_23 : decode cX11_feed 23 = .ok (.invokevirtual 89, 3) := by decide +kernel
theorem dX11_feed_26 : decode cX11_feed 26 = .ok (.aload_n 0, 1) := by decide +kernel
theorem dX11_feed_27 : decode cX11_feed 27 = .ok (.getfield 12, 3) := by decide +kernel
theorem dX11_feed_30 : decode cX11_feed 30 = .ok (.iload_n 2, 1) := by decide +kernel
theorem dX11_feed_31 : decode cX11_feed 31 = .ok (.invokevirtual 89, 3) := by decide +kernel
theorem dX11_feed_34 : decode cX11_feed 34 = .ok (.aload_n 0, 1) := by decide +kernel
theorem dX11_feed_35 : decode cX11_feed 35 = .ok (.getfield 12, 3) := by decide +kernel
theorem dX11_feed_38 : decode cX11_feed 38 = .ok (.iload_n 3, 1) := by decide +kernel
theorem dX11_feed_39 : decode cX11_feed 39 = .ok (.invokevirtual 89, 3) := by decide +kernel
theorem dX11_feed_42 : decode cX11_feed 42 = .ok (.aload_n 0, 1) := by decide +kernel
theorem dX11_feed_43 : decode cX11_feed 43 = .ok (.getfield 12, 3) := by decide +kernel
theorem dX11_feed_46 : decode cX11_feed 46 = .ok (.iload 4, 2) := by decide +kernel
theorem dX11_feed_48 : decode cX11_feed 48 = .ok (.invokevirtual 89, 3) := by decide +kernel
theorem dX11_feed_51 : decode cX11_feed 51 = .ok (.aload_n 0, 1) := by decide +kernel
theorem dX11_feed_52 : decode cX11_feed 52 = .ok (.getfield 12, 3) := by decide +kernel
theorem dX11_feed_55 : decode cX11_feed 55 = .ok (.iload 5, 2) := by decide +kernel
theorem dX11_feed_57 : decode cX11_feed 57 = .ok (.invokevirtual 89, 3) := by decide +kernel
theorem dX11_feed_60 : decode cX11_feed 60 = .ok (.aload_n 0, 1) := by decide +kernel
theorem dX11_feed_61 : decode cX11_feed 61 = .ok (.getfield 12, 3) := by decide +kernel
theorem dX11_feed_64 : decode cX11_feed 64 = .ok (.getfield 85, 3) := by decide +kernel
theorem dX11_feed_67 : decode cX11_feed 67 = .ok (.ireturn, 1) := by decide +kernel
theorem dX11_end_0 : decode cX11_end 0 = .ok (.iload_n 1, 1) := by decide +kernel
theorem dX11_end_1 : decode cX11_end 1 = .ok (.ifCond .lt 14, 3) := by decide +kernel
theorem dX11_end_4 : decode cX11_end 4 = .ok (.iload_n 1, 1) := by decide +kernel
theorem dX11_end_5 : decode cX11_end 5 = .ok (.aload_n 0, 1) := by decide +kernel
theorem dX11_end_6 : decode cX11_end 6 = .ok (.getfield 12, 3) := by decide +kernel
theorem dX11_end_9 : decode cX11_end 9 = .ok (.getfield 85, 3) := by decide +kernel
theorem dX11_end_12 : decode cX11_end 12 = .ok (.if_icmp .le 5, 3) := by decide +kernel
theorem dX11_end_15 : decode cX11_end 15 = .ok (.iconst (-1), 1) := by decide +kernel
theorem dX11_end_16 : decode cX11_end 16 = .ok (.ireturn, 1) := by decide +kernel
theorem dX11_end_17 : decode cX11_end 17 = .ok (.aload_n 0, 1) := by decide +kernel
theorem dX11_end_18 : decode cX11_end 18 = .ok (.getfield 12, 3) := by decide +kernel
theorem dX11_end_21 : decode cX11_end 21 = .ok (.iload_n 1, 1) := by decide +kernel
theorem dX11_end_22 : decode cX11_end 22 = .ok (.putfield 85, 3) := by decide +kernel
theorem dX11_end_25 : decode cX11_end 25 = .ok (.iload_n 1, 1) := by decide +kernel
theorem dX11_end_26 : decode cX11_end 26 = .ok (.ireturn, 1) := by decide +kernel
theorem dX11_text_0 : decode cX11_text 0 = .ok (.aload_n 0, 1) := by decide +kernel
theorem dX11_text_1 : decode cX11_text 1 = .ok (.getfield 35, 3) := by decide +kernel
theorem dX11_text_4 : decode cX11_text 4 = .ok (.getfield 93, 3) := by decide +kernel
theorem dX11_text_7 : decode cX11_text 7 = .ok (.bipush 30, 2) := by decide +kernel
theorem dX11_text_9 : decode cX11_text 9 = .ok (.if_icmp .lt 5, 3) := by decide +kernel
theorem dX11_text_12 : decode cX11_text 12 = .ok (.iconst (-1), 1) := by decide +kernel
theorem dX11_text_13 : decode cX11_text 13 = .ok (.ireturn, 1) := by decide +kernel
theorem dX11_text_14 : decode cX11_text 14 = .ok (.aload_n 0, 1) := by decide +kernel
theorem dX11_text_15 : decode cX11_text 15 = .ok (.getfield 27, 3) := by decide +kernel
theorem dX11_text_18 : decode cX11_text 18 = .ok (.aload_n 0, 1) := by decide +kernel
theorem dX11_text_19 : decode cX11_text 19 = .ok (.getfield 35, 3) := by decide +kernel
theorem dX11_text_22 : decode cX11_text 22 = .ok (.getfield 93, 3) := by decide +kernel
theorem dX11_text_25 : decode cX11_text 25 = .ok (.iconst 1, 1) := by decide +kernel
theorem dX11_text_26 : decode cX11_text 26 = .ok (.iadd, 1) := by decide +kernel
theorem dX11_text_27 : decode cX11_text 27 = .ok (.aaload, 1) := by decide +kernel
theorem dX11_text_28 : decode cX11_text 28 = .ok (.astore_n 1, 1) := by decide +kernel
theorem dX11_text_29 : decode cX11_text 29 = .ok (.aload_n 1, 1) := by decide +kernel
theorem dX11_text_30 : decode cX11_text 30 = .ok (.aload_n 0, 1) := by decide +kernel
theorem dX11_text_31 : decode cX11_text 31 = .ok (.getfield 27, 3) := by decide +kernel
theorem dX11_text_34 : decode cX11_text 34 = .ok (.aload_n 0, 1) := by decide +kernel
theorem dX11_text_35 : decode cX11_text 35 = .ok (.getfield 35, 3) := by decide +kernel
theorem dX11_text_38 : decode cX11_text 38 = .ok (.getfield 93, 3) := by decide +kernel
theorem dX11_text_41 : decode cX11_text 41 = .ok (.aaload, 1) := by decide +kernel
theorem dX11_text_42 : decode cX11_text 42 = .ok (.invokevirtual 96, 3) := by decide +kernel
theorem dX11_text_45 : decode cX11_text 45 = .ok (.aload_n 0, 1) := by decide +kernel
theorem dX11_text_46 : decode cX11_text 46 = .ok (.getfield 21, 3) := by decide +kernel
theorem dX11_text_49 : decode cX11_text 49 = .ok (.aload_n 1, 1) := by decide +kernel
theorem dX11_text_50 : decode cX11_text 50 = .ok (.invokevirtual 100, 3) := by decide +kernel
theorem dX11_text_53 : decode cX11_text 53 = .ok (.istore_n 2, 1) := by decide +kernel
theorem dX11_text_54 : decode cX11_text 54 = .ok (.aload_n 0, 1) := by decide +kernel
theorem dX11_text_55 : decode cX11_text 55 = .ok (.getfield 12, 3) := by decide +kernel
theorem dX11_text_58 : decode cX11_text 58 = .ok (.iconst 0, 1) := by decide +kernel
theorem dX11_text_59 : decode cX11_text 59 = .ok (.putfield 85, 3) := by decide +kernel
theorem dX11_text_62 : decode cX11_text 62 = .ok (.iload_n 2, 1) := by decide +kernel
theorem dX11_text_63 : decode cX11_text 63 = .ok (.ifCond .ne 5, 3) := by decide +kernel
theorem dX11_text_66 : decode cX11_text 66 = .ok (.iconst (-1), 1) := by decide +kernel
theorem dX11_text_67 : decode cX11_text 67 = .ok (.ireturn, 1) := by decide +kernel
theorem dX11_text_68 : decode cX11_text 68 = .ok (.aload_n 0, 1) := by decide +kernel
theorem dX11_text_69 : decode cX11_text 69 = .ok (.getfield 35, 3) := by decide +kernel
theorem dX11_text_72 : decode cX11_text 72 = .ok (.dup, 1) := by decide +kernel
theorem dX11_text_73 : decode cX11_text 73 = .ok (.getfield 93, 3) := by decide +kernel
theorem dX11_text_76 : decode cX11_text 76 = .ok (.iconst 1, 1) := by decide +kernel
theorem dX11_text_77 : decode cX11_text 77 = .ok (.iadd, 1) := by decide +kernel
theorem dX11_text_78 : decode cX11_text 78 = .ok (.putfield 93, 3) := by decide +kernel
theorem dX11_text_81 : decode cX11_text 81 = .ok (.aload_n 0, 1) := by decide +kernel
theorem dX11_text_82 : decode cX11_text 82 = .ok (.getfield 35, 3) := by decide +kernel
theorem dX11_text_85 : decode cX11_text 85 = .ok (.aload_n 0, 1) := by decide +kernel
theorem dX11_text_86 : decode cX11_text 86 = .ok (.getfield 35, 3) := by decide +kernel
theorem dX11_text_89 : decode cX11_text 89 = .ok (.getfield 93, 3) := by decide +kernel
theorem dX11_text_92 : decode cX11_text 92 = .ok (.putfield 104, 3) := by decide +kernel
theorem dX11_text_95 : decode cX11_text 95 = .ok (.aload_n 0, 1) := by decide +kernel
theorem dX11_text_96 : decode cX11_text 96 = .ok (.getfield 35, 3) := by decide +kernel
theorem dX11_text_99 : decode cX11_text 99 = .ok (.getfield 93, 3) := by decide +kernel
theorem dX11_text_102 : decode cX11_text 102 = .ok (.ireturn, 1) := by decide +kernel
theorem dX11_fault_0 : decode cX11_fault 0 = .ok (.aload_n 0, 1) := by decide +kernel
theorem dX11_fault_1 : decode cX11_fault 1 = .ok (.getfield 21, 3) := by decide +kernel
theorem dX11_fault_4 : decode cX11_fault 4 = .ok (.getfield 107, 3) := by decide +kernel
theorem dX11_fault_7 : decode cX11_fault 7 = .ok (.ifCond .eq 12, 3) := by decide +kernel
theorem dX11_fault_10 : decode cX11_fault 10 = .ok (.iload_n 1, 1) := by decide +kernel
theorem dX11_fault_11 : decode cX11_fault 11 = .ok (.ifCond .lt 8, 3) := by decide +kernel
theorem dX11_fault_14 : decode cX11_fault 14 = .ok (.iload_n 1, 1) := by decide +kernel
theorem dX11_fault_15 : decode cX11_fault 15 = .ok (.iconst 1, 1) := by decide +kernel
theorem dX11_fault_16 : decode cX11_fault 16 = .ok (.if_icmp .le 5, 3) := by decide +kernel
theorem dX11_fault_19 : decode cX11_fault 19 = .ok (.iconst (-1), 1) := by decide +kernel
theorem dX11_fault_20 : decode cX11_fault 20 = .ok (.ireturn, 1) := by decide +kernel
theorem dX11_fault_21 : decode cX11_fault 21 = .ok (.iload_n 1, 1) := by decide +kernel
theorem dX11_fault_22 : decode cX11_fault 22 = .ok (.ifCond .ne 13, 3) := by decide +kernel
theorem dX11_fault_25 : decode cX11_fault 25 = .ok (.aload_n 0, 1) := by decide +kernel
theorem dX11_fault_26 : decode cX11_fault 26 = .ok (.getfield 21, 3) := by decide +kernel
theorem dX11_fault_29 : decode cX11_fault 29 = .ok (.getfield 111, 3) := by decide +kernel
theorem dX11_fault_32 : decode cX11_fault 32 = .ok (.goto 10, 3) := by decide +kernel
theorem dX11_fault_35 : decode cX11_fault 35 = .ok (.aload_n 0, 1) := by decide +kernel
theorem dX11_fault_36 : decode cX11_fault 36 = .ok (.getfield 21, 3) := by decide +kernel
theorem dX11_fault_39 : decode cX11_fault 39 = .ok (.getfield 114, 3) := by decide +kernel
theorem dX11_fault_42 : decode cX11_fault 42 = .ok (.ireturn, 1) := by decide +kernel
theorem dX11_look_0 : decode cX11_look 0 = .ok (.iload_n 1, 1) := by decide +kernel
theorem dX11_look_1 : decode cX11_look 1 = .ok (.ifCond .lt 14, 3) := by decide +kernel
theorem dX11_look_4 : decode cX11_look 4 = .ok (.iload_n 1, 1) := by decide +kernel
theorem dX11_look_5 : decode cX11_look 5 = .ok (.aload_n 0, 1) := by decide +kernel
theorem dX11_look_6 : decode cX11_look 6 = .ok (.getfield 35, 3) := by decide +kernel
theorem dX11_look_9 : decode cX11_look 9 = .ok (.getfield 93, 3) := by decide +kernel
theorem dX11_look_12 : decode cX11_look 12 = .ok (.if_icmp .le 5, 3) := by decide +kernel
theorem dX11_look_15 : decode cX11_look 15 = .ok (.iconst 0, 1) := by decide +kernel
theorem dX11_look_16 : decode cX11_look 16 = .ok (.ireturn, 1) := by decide +kernel
theorem dX11_look_17 : decode cX11_look 17 = .ok (.aload_n 0, 1) := by decide +kernel
theorem dX11_look_18 : decode cX11_look 18 = .ok (.getfield 35, 3) := by decide +kernel
theorem dX11_look_21 : decode cX11_look 21 = .ok (.iload_n 1, 1) := by decide +kernel
theorem dX11_look_22 : decode cX11_look 22 = .ok (.putfield 104, 3) := by decide +kernel
theorem dX11_look_25 : decode cX11_look 25 = .ok (.iconst 1, 1) := by decide +kernel
theorem dX11_look_26 : decode cX11_look 26 = .ok (.ireturn, 1) := by decide +kernel
theorem dX11_weight_0 : decode cX11_weight 0 = .ok (.iload_n 1, 1) := by decide +kernel
theorem dX11_weight_1 : decode cX11_weight 1 = .ok (.invokestatic 117, 3) := by decide +kernel
theorem dX11_weight_4 : decode cX11_weight 4 = .ok (.ifCond .eq 15, 3) := by decide +kernel
theorem dX11_weight_7 : decode cX11_weight 7 = .ok (.aload_n 0, 1) := by decide +kernel
theorem dX11_weight_8 : decode cX11_weight 8 = .ok (.invokevirtual 121, 3) := by decide +kernel
theorem dX11_weight_11 : decode cX11_weight 11 = .ok (.getfield 125, 3) := by decide +kernel
theorem dX11_weight_14 : decode cX11_weight 14 = .ok (.iload_n 1, 1) := by decide +kernel
theorem dX11_weight_15 : decode cX11_weight 15 = .ok (.iaload, 1) := by decide +kernel
theorem dX11_weight_16 : decode cX11_weight 16 = .ok (.goto 4, 3) := by decide +kernel
theorem dX11_weight_19 : decode cX11_weight 19 = .ok (.iconst (-1), 1) := by decide +kernel
theorem dX11_weight_20 : decode cX11_weight 20 = .ok (.ireturn, 1) := by decide +kernel
theorem dX11_chain_0 : decode cX11_chain 0 = .ok (.iload_n 1, 1) := by decide +kernel
theorem dX11_chain_1 : decode cX11_chain 1 = .ok (.invokestatic 128, 3) := by decide +kernel
theorem dX11_chain_4 : decode cX11_chain 4 = .ok (.ifCond .eq 12, 3) := by decide +kernel
theorem dX11_chain_7 : decode cX11_chain 7 = .ok (.iload_n 2, 1) := by decide +kernel
theorem dX11_chain_8 : decode cX11_chain 8 = .ok (.ifCond .lt 8, 3) := by decide +kernel
theorem dX11_chain_11 : decode cX11_chain 11 = .ok (.iload_n 2, 1) := by decide +kernel
theorem dX11_chain_12 : decode cX11_chain 12 = .ok (.iconst 5, 1) := by decide +kernel
theorem dX11_chain_13 : decode cX11_chain 13 = .ok (.if_icmp .lt 5, 3) := by decide +kernel
theorem dX11_chain_16 : decode cX11_chain 16 = .ok (.iconst (-1), 1) := by decide +kernel
theorem dX11_chain_17 : decode cX11_chain 17 = .ok (.ireturn, 1) := by decide +kernel
theorem dX11_chain_18 : decode cX11_chain 18 = .ok (.aload_n 0, 1) := by decide +kernel
theorem dX11_chain_19 : decode cX11_chain 19 = .ok (.invokevirtual 121, 3) := by decide +kernel
theorem dX11_chain_22 : decode cX11_chain 22 = .ok (.iload_n 1, 1) := by decide +kernel
theorem dX11_chain_23 : decode cX11_chain 23 = .ok (.invokevirtual 131, 3) := by decide +kernel
theorem dX11_chain_26 : decode cX11_chain 26 = .ok (.ifCond .eq 15, 3) := by decide +kernel
theorem dX11_chain_29 : decode cX11_chain 29 = .ok (.aload_n 0, 1) := by decide +kernel
theorem dX11_chain_30 : decode cX11_chain 30 = .ok (.invokevirtual 121, 3) := by decide +kernel
theorem dX11_chain_33 : decode cX11_chain 33 = .ok (.iload_n 1, 1) := by decide +kernel
theorem dX11_chain_34 : decode cX11_chain 34 = .ok (.iload_n 2, 1) := by decide +kernel
theorem dX11_chain_35 : decode cX11_chain 35 = .ok (.invokevirtual 134, 3) := by decide +kernel
theorem dX11_chain_38 : decode cX11_chain 38 = .ok (.goto 4, 3) := by decide +kernel
theorem dX11_chain_41 : decode cX11_chain 41 = .ok (.iconst (-1), 1) := by decide +kernel
theorem dX11_chain_42 : decode cX11_chain 42 = .ok (.ireturn, 1) := by decide +kernel
theorem dX11_law_0 : decode cX11_law 0 = .ok (.iload_n 1, 1) := by decide +kernel
theorem dX11_law_1 : decode cX11_law 1 = .ok (.ifCond .lt 20, 3) := by decide +kernel
theorem dX11_law_4 : decode cX11_law 4 = .ok (.iload_n 1, 1) := by decide +kernel
theorem dX11_law_5 : decode cX11_law 5 = .ok (.bipush 7, 2) := by decide +kernel
theorem dX11_law_7 : decode cX11_law 7 = .ok (.if_icmp .ge 14, 3) := by decide +kernel
theorem dX11_law_10 : decode cX11_law 10 = .ok (.iload_n 2, 1) := by decide +kernel
theorem dX11_law_11 : decode cX11_law 11 = .ok (.ifCond .lt 10, 3) := by decide +kernel
theorem dX11_law_14 : decode cX11_law 14 = .ok (.iload_n 2, 1) := by decide +kernel
theorem dX11_law_15 : decode cX11_law 15 = .ok (.sipush 999, 3) := by decide +kernel
theorem dX11_law_18 : decode cX11_law 18 = .ok (.if_icmp .le 5, 3) := by decide +kernel
theorem dX11_law_21 : decode cX11_law 21 = .ok (.iconst (-1), 1) := by decide +kernel
theorem dX11_law_22 : decode cX11_law 22 = .ok (.ireturn, 1) := by decide +kernel
theorem dX11_law_23 : decode cX11_law 23 = .ok (.aload_n 0, 1) := by decide +kernel
theorem dX11_law_24 : decode cX11_law 24 = .ok (.invokevirtual 121, 3) := by decide +kernel
theorem dX11_law_27 : decode cX11_law 27 = .ok (.iload_n 1, 1) := by decide +kernel
theorem dX11_law_28 : decode cX11_law 28 = .ok (.iload_n 2, 1) := by decide +kernel
theorem dX11_law_29 : decode cX11_law 29 = .ok (.iload_n 3, 1) := by decide +kernel
theorem dX11_law_30 : decode cX11_law 30 = .ok (.invokevirtual 138, 3) := by decide +kernel
theorem dX11_law_33 : decode cX11_law 33 = .ok (.ireturn, 1) := by decide +kernel
theorem dX11_shell_0 : decode cX11_shell 0 = .ok (.iload_n 1, 1) := by decide +kernel
theorem dX11_shell_1 : decode cX11_shell 1 = .ok (.invokestatic 142, 3) := by decide +kernel
theorem dX11_shell_4 : decode cX11_shell 4 = .ok (.ifCond .eq 20, 3) := by decide +kernel
theorem dX11_shell_7 : decode cX11_shell 7 = .ok (.aload_n 0, 1) := by decide +kernel
theorem dX11_shell_8 : decode cX11_shell 8 = .ok (.getfield 35, 3) := by decide +kernel
theorem dX11_shell_11 : decode cX11_shell 11 = .ok (.getfield 145, 3) := by decide +kernel
theorem dX11_shell_14 : decode cX11_shell 14 = .ok (.iload_n 1, 1) := by decide +kernel
theorem dX11_shell_15 : decode cX11_shell 15 = .ok (.aaload, 1) := by decide +kernel
theorem dX11_shell_16 : decode cX11_shell 16 = .ok (.getfield 149, 3) := by decide +kernel
theorem dX11_shell_19 : decode cX11_shell 19 = .ok (.bipush 16, 2) := by decide +kernel
theorem dX11_shell_21 : decode cX11_shell 21 = .ok (.if_icmp .lt 5, 3) := by decide +kernel
theorem dX11_shell_24 : decode cX11_shell 24 = .ok (.iconst (-1), 1) := by decide +kernel
theorem dX11_shell_25 : decode cX11_shell 25 = .ok (.ireturn, 1) := by decide +kernel
theorem dX11_shell_26 : decode cX11_shell 26 = .ok (.aload_n 0, 1) := by decide +kernel
theorem dX11_shell_27 : decode cX11_shell 27 = .ok (.getfield 35, 3) := by decide +kernel
theorem dX11_shell_30 : decode cX11_shell 30 = .ok (.getfield 145, 3) := by decide +kernel
theorem dX11_shell_33 : decode cX11_shell 33 = .ok (.iload_n 1, 1) := by decide +kernel
theorem dX11_shell_34 : decode cX11_shell 34 = .ok (.aaload, 1) := by decide +kernel
theorem dX11_shell_35 : decode cX11_shell 35 = .ok (.dup, 1) := by decide +kernel
theorem dX11_shell_36 : decode cX11_shell 36 = .ok (.getfield 149, 3) := by decide +kernel
theorem dX11_shell_39 : decode cX11_shell 39 = .ok (.iconst 1, 1) := by decide +kernel
theorem dX11_shell_40 : decode cX11_shell 40 = .ok (.iadd, 1) := by decide +kernel
theorem dX11_shell_41 : decode cX11_shell 41 = .ok (.putfield 149, 3) := by decide +kernel
theorem dX11_shell_44 : decode cX11_shell 44 = .ok (.aload_n 0, 1) := by decide +kernel
theorem dX11_shell_45 : decode cX11_shell 45 = .ok (.getfield 35, 3) := by decide +kernel
theorem dX11_shell_48 : decode cX11_shell 48 = .ok (.getfield 145, 3) := by decide +kernel
theorem dX11_shell_51 : decode cX11_shell 51 = .ok (.iload_n 1, 1) := by decide +kernel
theorem dX11_shell_52 : decode cX11_shell 52 = .ok (.aaload, 1) := by decide +kernel
theorem dX11_shell_53 : decode cX11_shell 53 = .ok (.getfield 149, 3) := by decide +kernel
theorem dX11_shell_56 : decode cX11_shell 56 = .ok (.iconst 1, 1) := by decide +kernel
theorem dX11_shell_57 : decode cX11_shell 57 = .ok (.isub, 1) := by decide +kernel
theorem dX11_shell_58 : decode cX11_shell 58 = .ok (.ireturn, 1) := by decide +kernel
theorem dX11_fill_0 : decode cX11_fill 0 = .ok (.aload_n 0, 1) := by decide +kernel
theorem dX11_fill_1 : decode cX11_fill 1 = .ok (.iload_n 1, 1) := by decide +kernel
theorem dX11_fill_2 : decode cX11_fill 2 = .ok (.iload_n 2, 1) := by decide +kernel
theorem dX11_fill_3 : decode cX11_fill 3 = .ok (.invokevirtual 154, 3) := by decide +kernel
theorem dX11_fill_6 : decode cX11_fill 6 = .ok (.ifCond .eq 22, 3) := by decide +kernel
theorem dX11_fill_9 : decode cX11_fill 9 = .ok (.iload_n 3, 1) := by decide +kernel
theorem dX11_fill_10 : decode cX11_fill 10 = .ok (.invokestatic 117, 3) := by decide +kernel
theorem dX11_fill_13 : decode cX11_fill 13 = .ok (.ifCond .eq 15, 3) := by decide +kernel
theorem dX11_fill_16 : decode cX11_fill 16 = .ok (.iload 4, 2) := by decide +kernel
theorem dX11_fill_18 : decode cX11_fill 18 = .ok (.ifCond .lt 10, 3) := by decide +kernel
theorem dX11_fill_21 : decode cX11_fill 21 = .ok (.iload 4, 2) := by decide +kernel
theorem dX11_fill_23 : decode cX11_fill 23 = .ok (.ldc 158, 2) := by decide +kernel
theorem dX11_fill_25 : decode cX11_fill 25 = .ok (.if_icmp .le 5, 3) := by decide +kernel
theorem dX11_fill_28 : decode cX11_fill 28 = .ok (.iconst 0, 1) := by decide +kernel
theorem dX11_fill_29 : decode cX11_fill 29 = .ok (.ireturn, 1) := by decide +kernel
theorem dX11_fill_30 : decode cX11_fill 30 = .ok (.aload_n 0, 1) := by decide +kernel
theorem dX11_fill_31 : decode cX11_fill 31 = .ok (.getfield 35, 3) := by decide +kernel
theorem dX11_fill_34 : decode cX11_fill 34 = .ok (.getfield 145, 3) := by decide +kernel
theorem dX11_fill_37 : decode cX11_fill 37 = .ok (.iload_n 1, 1) := by decide +kernel
theorem dX11_fill_38 : decode cX11_fill 38 = .ok (.aaload, 1) := by decide +kernel
theorem dX11_fill_39 : decode cX11_fill 39 = .ok (.iload_n 2, 1) := by decide +kernel
theorem dX11_fill_40 : decode cX11_fill 40 = .ok (.iload_n 3, 1) := by decide +kernel
theorem dX11_fill_41 : decode cX11_fill 41 = .ok (.iload 4, 2) := by decide +kernel
theorem dX11_fill_43 : decode cX11_fill 43 = .ok (.invokevirtual 159, 3) := by decide +kernel
theorem dX11_fill_46 : decode cX11_fill 46 = .ok (.iconst 1, 1) := by decide +kernel
theorem dX11_fill_47 : decode cX11_fill 47 = .ok (.ireturn, 1) := by decide +kernel
theorem dX11_parts_0 : decode cX11_parts 0 = .ok (.aload_n 0, 1) := by decide +kernel
theorem dX11_parts_1 : decode cX11_parts 1 = .ok (.iload_n 1, 1) := by decide +kernel
theorem dX11_parts_2 : decode cX11_parts 2 = .ok (.iload_n 2, 1) := by decide +kernel
theorem dX11_parts_3 : decode cX11_parts 3 = .ok (.invokevirtual 154, 3) := by decide +kernel
theorem dX11_parts_6 : decode cX11_parts 6 = .ok (.ifCond .eq 10, 3) := by decide +kernel
theorem dX11_parts_9 : decode cX11_parts 9 = .ok (.iload_n 3, 1) := by decide +kernel
theorem dX11_parts_10 : decode cX11_parts 10 = .ok (.invokestatic 117, 3) := by decide +kernel
theorem dX11_parts_13 : decode cX11_parts 13 = .ok (.ifCond .ne 5, 3) := by decide +kernel
theorem dX11_parts_16 : decode cX11_parts 16 = .ok (.iconst (-1), 1) := by decide +kernel
theorem dX11_parts_17 : decode cX11_parts 17 = .ok (.ireturn, 1) := by decide +kernel
theorem dX11_parts_18 : decode cX11_parts 18 = .ok (.aload_n 0, 1) := by decide +kernel
theorem dX11_parts_19 : decode cX11_parts 19 = .ok (.getfield 35, 3) := by decide +kernel
theorem dX11_parts_22 : decode cX11_parts 22 = .ok (.getfield 145, 3) := by decide +kernel
theorem dX11_parts_25 : decode cX11_parts 25 = .ok (.iload_n 1, 1) := by decide +kernel
theorem dX11_parts_26 : decode cX11_parts 26 = .ok (.aaload, 1) := by decide +kernel
theorem dX11_parts_27 : decode cX11_parts 27 = .ok (.iload_n 2, 1) := by decide +kernel
theorem dX11_parts_28 : decode cX11_parts 28 = .ok (.iload_n 3, 1) := by decide +kernel
theorem dX11_parts_29 : decode cX11_parts 29 = .ok (.invokevirtual 163, 3) := by decide +kernel
theorem dX11_parts_32 : decode cX11_parts 32 = .ok (.ireturn, 1) := by decide +kernel
theorem dX11_rules_0 : decode cX11_rules 0 = .ok (.iload_n 1, 1) := by decide +kernel
theorem dX11_rules_1 : decode cX11_rules 1 = .ok (.invokestatic 142, 3) := by decide +kernel
theorem dX11_rules_4 : decode cX11_rules 4 = .ok (.ifCond .eq 24, 3) := by decide +kernel
theorem dX11_rules_7 : decode cX11_rules 7 = .ok (.iload_n 2, 1) := by decide +kernel
theorem dX11_rules_8 : decode cX11_rules 8 = .ok (.iconst 1, 1) := by decide +kernel
theorem dX11_rules_9 : decode cX11_rules 9 = .ok (.if_icmp .lt 19, 3) := by decide +kernel
theorem dX11_rules_12 : decode cX11_rules 12 = .ok (.iload_n 2, 1) := by decide +kernel
theorem dX11_rules_13 : decode cX11_rules 13 = .ok (.ldc 158, 2) := by decide +kernel
theorem dX11_rules_15 : decode cX11_rules 15 = .ok (.if_icmp .gt 13, 3) := by decide +kernel
theorem dX11_rules_18 : decode cX11_rules 18 = .ok (.iload_n 3, 1) := by decide +kernel
theorem dX11_rules_19 : decode cX11_rules 19 = .ok (.ifCond .lt 9, 3) := by decide +kernel
theorem dX11_rules_22 : decode cX11_rules 22 = .ok (.iload_n 3, 1) := by decide +kernel
theorem dX11_rules_23 : decode cX11_rules 23 = .ok (.ldc 166, 2) := by decide +kernel
theorem dX11_rules_25 : decode cX11_rules 25 = .ok (.if_icmp .le 5, 3) := by decide +kernel
theorem dX11_rules_28 : decode cX11_rules 28 = .ok (.iconst 0, 1) := by decide +kernel
theorem dX11_rules_29 : decode cX11_rules 29 = .ok (.ireturn, 1) := by decide +kernel
theorem dX11_rules_30 : decode cX11_rules 30 = .ok (.aload_n 0, 1) := by decide +kernel
theorem dX11_rules_31 : decode cX11_rules 31 = .ok (.getfield 35, 3) := by decide +kernel
theorem dX11_rules_34 : decode cX11_rules 34 = .ok (.getfield 145, 3) := by decide +kernel
theorem dX11_rules_37 : decode cX11_rules 37 = .ok (.iload_n 1, 1) := by decide +kernel
theorem dX11_rules_38 : decode cX11_rules 38 = .ok (.aaload, 1) := by decide +kernel
theorem dX11_rules_39 : decode cX11_rules 39 = .ok (.iload_n 2, 1) := by decide +kernel
theorem dX11_rules_40 : decode cX11_rules 40 = .ok (.putfield 167, 3) := by decide +kernel
theorem dX11_rules_43 : decode cX11_rules 43 = .ok (.aload_n 0, 1) := by decide +kernel
theorem dX11_rules_44 : decode cX11_rules 44 = .ok (.getfield 35, 3) := by decide +kernel
theorem dX11_rules_47 : decode cX11_rules 47 = .ok (.getfield 145, 3) := by decide +kernel
theorem dX11_rules_50 : decode cX11_rules 50 = .ok (.iload_n 1, 1) := by decide +kernel
theorem dX11_rules_51 : decode cX11_rules 51 = .ok (.aaload, 1) := by decide +kernel
theorem dX11_rules_52 : decode cX11_rules 52 = .ok (.iload_n 3, 1) := by decide +kernel
theorem dX11_rules_53 : decode cX11_rules 53 = .ok (.putfield 170, 3) := by decide +kernel
theorem dX11_rules_56 : decode cX11_rules 56 = .ok (.iconst 1, 1) := by decide +kernel
theorem dX11_rules_57 : decode cX11_rules 57 = .ok (.ireturn, 1) := by decide +kernel
theorem dX11_of_0 : decode cX11_of 0 = .ok (.aload_n 0, 1) := by decide +kernel
theorem dX11_of_1 : decode cX11_of 1 = .ok (.iload_n 1, 1) := by decide +kernel
theorem dX11_of_2 : decode cX11_of 2 = .ok (.iload_n 2, 1) := by decide +kernel
theorem dX11_of_3 : decode cX11_of 3 = .ok (.invokevirtual 154, 3) := by decide +kernel
theorem dX11_of_6 : decode cX11_of 6 = .ok (.ifCond .ne 5, 3) := by decide +kernel
theorem dX11_of_9 : decode cX11_of 9 = .ok (.iconst (-1), 1) := by decide +kernel
theorem dX11_of_10 : decode cX11_of 10 = .ok (.ireturn, 1) := by decide +kernel
theorem dX11_of_11 : decode cX11_of 11 = .ok (.aload_n 0, 1) := by decide +kernel
theorem dX11_of_12 : decode cX11_of 12 = .ok (.iload_n 1, 1) := by decide +kernel
theorem dX11_of_13 : decode cX11_of 13 = .ok (.invokevirtual 173, 3) := by decide +kernel
theorem dX11_of_16 : decode cX11_of 16 = .ok (.iload_n 3, 1) := by decide +kernel
theorem dX11_of_17 : decode cX11_of 17 = .ok (.tableswitch 119 0 5 #[39, 49, 59, 69, 79, 89], 39) := by decide +kernel
theorem dX11_of_56 : decode cX11_of 56 = .ok (.aload_n 0, 1) := by decide +kernel
theorem dX11_of_57 : decode cX11_of 57 = .ok (.getfield 66, 3) := by decide +kernel
theorem dX11_of_60 : decode cX11_of 60 = .ok (.getfield 176, 3) := by decide +kernel
theorem dX11_of_63 : decode cX11_of 63 = .ok (.iload_n 2, 1) := by decide +kernel
theorem dX11_of_64 : decode cX11_of 64 = .ok (.iaload, 1) := by decide +kernel
theorem dX11_of_65 : decode cX11_of 65 = .ok (.ireturn, 1) := by decide +kernel
theorem dX11_of_66 : decode cX11_of 66 = .ok (.aload_n 0, 1) := by decide +kernel
theorem dX11_of_67 : decode cX11_of 67 = .ok (.getfield 66, 3) := by decide +kernel
theorem dX11_of_70 : decode cX11_of 70 = .ok (.getfield 177, 3) := by decide +kernel
theorem dX11_of_73 : decode cX11_of 73 = .ok (.iload_n 2, 1) := by decide +kernel
theorem dX11_of_74 : decode cX11_of 74 = .ok (.iaload, 1) := by decide +kernel
theorem dX11_of_75 : decode cX11_of 75 = .ok (.ireturn, 1) := by decide +kernel
theorem dX11_of_76 : decode cX11_of 76 = .ok (.aload_n 0, 1) := by decide +kernel
theorem dX11_of_77 : decode cX11_of 77 = .ok (.getfield 66, 3) := by decide +kernel
theorem dX11_of_80 : decode cX11_of 80 = .ok (.getfield 180, 3) := by decide +kernel
theorem dX11_of_83 : decode cX11_of 83 = .ok (.iload_n 2, 1) := by decide +kernel
theorem dX11_of_84 : decode cX11_of 84 = .ok (.iaload, 1) := by decide +kernel
theorem dX11_of_85 : decode cX11_of 85 = .ok (.ireturn, 1) := by decide +kernel
theorem dX11_of_86 : decode cX11_of 86 = .ok (.aload_n 0, 1) := by decide +kernel
theorem dX11_of_87 : decode cX11_of 87 = .ok (.getfield 66, 3) := by decide +kernel
theorem dX11_of_90 : decode cX11_of 90 = .ok (.getfield 183, 3) := by decide +kernel
theorem dX11_of_93 : decode cX11_of 93 = .ok (.iload_n 2, 1) := by decide +kernel
theorem dX11_of_94 : decode cX11_of 94 = .ok (.iaload, 1) := by decide +kernel
theorem dX11_of_95 : decode cX11_of 95 = .ok (.ireturn, 1) := by decide +kernel
theorem dX11_of_96 : decode cX11_of 96 = .ok (.aload_n 0, 1) := by decide +kernel
theorem dX11_of_97 : decode cX11_of 97 = .ok (.getfield 66, 3) := by decide +kernel
theorem dX11_of_100 : decode cX11_of 100 = .ok (.getfield 186, 3) := by decide +kernel
theorem dX11_of_103 : decode cX11_of 103 = .ok (.iload_n 2, 1) := by decide +kernel
theorem dX11_of_104 : decode cX11_of 104 = .ok (.iaload, 1) := by decide +kernel
theorem dX11_of_105 : decode cX11_of 105 = .ok (.ireturn, 1) := by decide +kernel
theorem dX11_of_106 : decode cX11_of 106 = .ok (.aload_n 0, 1) := by decide +kernel
theorem dX11_of_107 : decode cX11_of 107 = .ok (.getfield 66, 3) := by decide +kernel
theorem dX11_of_110 : decode cX11_of 110 = .ok (.aload_n 0, 1) := by decide +kernel
theorem dX11_of_111 : decode cX11_of 111 = .ok (.getfield 35, 3) := by decide +kernel
theorem dX11_of_114 : decode cX11_of 114 = .ok (.getfield 145, 3) := by decide +kernel
theorem dX11_of_117 : decode cX11_of 117 = .ok (.iload_n 1, 1) := by decide +kernel
theorem dX11_of_118 : decode cX11_of 118 = .ok (.aaload, 1) := by decide +kernel
theorem dX11_of_119 : decode cX11_of 119 = .ok (.aload_n 0, 1) := by decide +kernel
theorem dX11_of_120 : decode cX11_of 120 = .ok (.invokevirtual 121, 3) := by decide +kernel
theorem dX11_of_123 : decode cX11_of 123 = .ok (.invokevirtual 189, 3) := by decide +kernel
theorem dX11_of_126 : decode cX11_of 126 = .ok (.aload_n 0, 1) := by decide +kernel
theorem dX11_of_127 : decode cX11_of 127 = .ok (.getfield 66, 3) := by decide +kernel
theorem dX11_of_130 : decode cX11_of 130 = .ok (.getfield 193, 3) := by decide +kernel
theorem dX11_of_133 : decode cX11_of 133 = .ok (.iload_n 2, 1) := by decide +kernel
theorem dX11_of_134 : decode cX11_of 134 = .ok (.iaload, 1) := by decide +kernel
theorem dX11_of_135 : decode cX11_of 135 = .ok (.ireturn, 1) := by decide +kernel
theorem dX11_of_136 : decode cX11_of 136 = .ok (.iconst (-1), 1) := by decide +kernel
theorem dX11_of_137 : decode cX11_of 137 = .ok (.ireturn, 1) := by decide +kernel
theorem dX11_box_0 : decode cX11_box 0 = .ok (.aload_n 0, 1) := by decide +kernel
theorem dX11_box_1 : decode cX11_box 1 = .ok (.iload_n 1, 1) := by decide +kernel
theorem dX11_box_2 : decode cX11_box 2 = .ok (.iload_n 2, 1) := by decide +kernel
theorem dX11_box_3 : decode cX11_box 3 = .ok (.invokevirtual 154, 3) := by decide +kernel
theorem dX11_box_6 : decode cX11_box 6 = .ok (.ifCond .ne 5, 3) := by decide +kernel
theorem dX11_box_9 : decode cX11_box 9 = .ok (.iconst (-1), 1) := by decide +kernel
theorem dX11_box_10 : decode cX11_box 10 = .ok (.ireturn, 1) := by decide +kernel
theorem dX11_box_11 : decode cX11_box 11 = .ok (.aload_n 0, 1) := by decide +kernel
theorem dX11_box_12 : decode cX11_box 12 = .ok (.iload_n 1, 1) := by decide +kernel
theorem dX11_box_13 : decode cX11_box 13 = .ok (.invokevirtual 173, 3) := by decide +kernel
theorem dX11_box_16 : decode cX11_box 16 = .ok (.aload_n 0, 1) := by decide +kernel
theorem dX11_box_17 : decode cX11_box 17 = .ok (.getfield 66, 3) := by decide +kernel
theorem dX11_box_20 : decode cX11_box 20 = .ok (.getfield 196, 3) := by decide +kernel
theorem dX11_box_23 : decode cX11_box 23 = .ok (.astore 5, 2) := by decide +kernel
theorem dX11_box_25 : decode cX11_box 25 = .ok (.aload 5, 2) := by decide +kernel
theorem dX11_box_27 : decode cX11_box 27 = .ok (.aload_n 0, 1) := by decide +kernel
theorem dX11_box_28 : decode cX11_box 28 = .ok (.invokevirtual 121, 3) := by decide +kernel
theorem dX11_box_31 : decode cX11_box 31 = .ok (.aload_n 0, 1) := by decide +kernel
theorem dX11_box_32 : decode cX11_box 32 = .ok (.getfield 66, 3) := by decide +kernel
theorem dX11_box_35 : decode cX11_box 35 = .ok (.getfield 177, 3) := by decide +kernel
theorem dX11_box_38 : decode cX11_box 38 = .ok (.iload_n 2, 1) := by decide +kernel
theorem dX11_box_39 : decode cX11_box 39 = .ok (.iaload, 1) := by decide +kernel
theorem dX11_box_40 : decode cX11_box 40 = .ok (.invokevirtual 200, 3) := by decide +kernel
theorem dX11_box_43 : decode cX11_box 43 = .ok (.iload_n 3, 1) := by decide +kernel
theorem dX11_box_44 : decode cX11_box 44 = .ok (.ifCond .lt 12, 3) := by decide +kernel
theorem dX11_box_47 : decode cX11_box 47 = .ok (.iload_n 3, 1) := by decide +kernel
theorem dX11_box_48 : decode cX11_box 48 = .ok (.aload 5, 2) := by decide +kernel
theorem dX11_box_50 : decode cX11_box 50 = .ok (.getfield 206, 3) := by decide +kernel
theorem dX11_box_53 : decode cX11_box 53 = .ok (.if_icmp .lt 5, 3) := by decide +kernel
theorem dX11_box_56 : decode cX11_box 56 = .ok (.iconst (-1), 1) := by decide +kernel
theorem dX11_box_57 : decode cX11_box 57 = .ok (.ireturn, 1) := by decide +kernel
theorem dX11_box_58 : decode cX11_box 58 = .ok (.iload 4, 2) := by decide +kernel
theorem dX11_box_60 : decode cX11_box 60 = .ok (.ifCond .eq 13, 3) := by decide +kernel
theorem dX11_box_63 : decode cX11_box 63 = .ok (.aload 5, 2) := by decide +kernel
theorem dX11_box_65 : decode cX11_box 65 = .ok (.getfield 209, 3) := by decide +kernel
theorem dX11_box_68 : decode cX11_box 68 = .ok (.iload_n 3, 1) := by decide +kernel
theorem dX11_box_69 : decode cX11_box 69 = .ok (.iaload, 1) := by decide +kernel
theorem dX11_box_70 : decode cX11_box 70 = .ok (.goto 10, 3) := by decide +kernel
theorem dX11_box_73 : decode cX11_box 73 = .ok (.aload 5, 2) := by decide +kernel
theorem dX11_box_75 : decode cX11_box 75 = .ok (.getfield 212, 3) := by decide +kernel
theorem dX11_box_78 : decode cX11_box 78 = .ok (.iload_n 3, 1) := by decide +kernel
theorem dX11_box_79 : decode cX11_box 79 = .ok (.iaload, 1) := by decide +kernel
theorem dX11_box_80 : decode cX11_box 80 = .ok (.ireturn, 1) := by decide +kernel
theorem dX11_through_0 : decode cX11_through 0 = .ok (.aload_n 0, 1) := by decide +kernel
theorem dX11_through_1 : decode cX11_through 1 = .ok (.iload_n 1, 1) := by decide +kernel
theorem dX11_through_2 : decode cX11_through 2 = .ok (.iload_n 2, 1) := by decide +kernel
theorem dX11_through_3 : decode cX11_through 3 = .ok (.invokevirtual 154, 3) := by decide +kernel
theorem dX11_through_6 : decode cX11_through 6 = .ok (.ifCond .ne 7, 3) := by decide +kernel
theorem dX11_through_9 : decode cX11_through 9 = .ok (.ldc2_w 215, 3) := by decide +kernel
theorem dX11_through_12 : decode cX11_through 12 = .ok (.lreturn, 1) := by decide +kernel
theorem dX11_through_13 : decode cX11_through 13 = .ok (.aload_n 0, 1) := by decide +kernel
theorem dX11_through_14 : decode cX11_through 14 = .ok (.iload_n 1, 1) := by decide +kernel
theorem dX11_through_15 : decode cX11_through 15 = .ok (.invokevirtual 173, 3) := by decide +kernel
theorem dX11_through_18 : decode cX11_through 18 = .ok (.aload_n 0, 1) := by decide +kernel
theorem dX11_through_19 : decode cX11_through 19 = .ok (.getfield 66, 3) := by decide +kernel
theorem dX11_through_22 : decode cX11_through 22 = .ok (.aload_n 0, 1) := by decide +kernel
theorem dX11_through_23 : decode cX11_through 23 = .ok (.getfield 35, 3) := by decide +kernel
theorem dX11_through_26 : decode cX11_through 26 = .ok (.getfield 145, 3) := by decide +kernel
theorem dX11_through_29 : decode cX11_through 29 = .ok (.iload_n 1, 1) := by decide +kernel
theorem dX11_through_30 : decode cX11_through 30 = .ok (.aaload, 1) := by decide +kernel
theorem dX11_through_31 : decode cX11_through 31 = .ok (.aload_n 0, 1) := by decide +kernel
theorem dX11_through_32 : decode cX11_through 32 = .ok (.invokevirtual 121, 3) := by decide +kernel
theorem dX11_through_35 : decode cX11_through 35 = .ok (.invokevirtual 189, 3) := by decide +kernel
theorem dX11_through_38 : decode cX11_through 38 = .ok (.iload_n 3, 1) := by decide +kernel
theorem dX11_through_39 : decode cX11_through 39 = .ok (.ifCond .eq 15, 3) := by decide +kernel
theorem dX11_through_42 : decode cX11_through 42 = .ok (.aload_n 0, 1) := by decide +kernel
theorem dX11_through_43 : decode cX11_through 43 = .ok (.getfield 66, 3) := by decide +kernel
theorem dX11_through_46 : decode cX11_through 46 = .ok (.getfield 217, 3) := by decide +kernel
theorem dX11_through_49 : decode cX11_through 49 = .ok (.iload_n 2, 1) := by decide +kernel
theorem dX11_through_50 : decode cX11_through 50 = .ok (.laload, 1) := by decide +kernel
theorem dX11_through_51 : decode cX11_through 51 = .ok (.goto 12, 3) := by decide +kernel
theorem dX11_through_54 : decode cX11_through 54 = .ok (.aload_n 0, 1) := by decide +kernel
theorem dX11_through_55 : decode cX11_through 55 = .ok (.getfield 66, 3) := by decide +kernel
theorem dX11_through_58 : decode cX11_through 58 = .ok (.getfield 220, 3) := by decide +kernel
theorem dX11_through_61 : decode cX11_through 61 = .ok (.iload_n 2, 1) := by decide +kernel
theorem dX11_through_62 : decode cX11_through 62 = .ok (.laload, 1) := by decide +kernel
theorem dX11_through_63 : decode cX11_through 63 = .ok (.lreturn, 1) := by decide +kernel
theorem dX11_settled_0 : decode cX11_settled 0 = .ok (.iload_n 1, 1) := by decide +kernel
theorem dX11_settled_1 : decode cX11_settled 1 = .ok (.invokestatic 142, 3) := by decide +kernel
theorem dX11_settled_4 : decode cX11_settled 4 = .ok (.ifCond .ne 5, 3) := by decide +kernel
theorem dX11_settled_7 : decode cX11_settled 7 = .ok (.iconst (-1), 1) := by decide +kernel
theorem dX11_settled_8 : decode cX11_settled 8 = .ok (.ireturn, 1) := by decide +kernel
theorem dX11_settled_9 : decode cX11_settled 9 = .ok (.aload_n 0, 1) := by decide +kernel
theorem dX11_settled_10 : decode cX11_settled 10 = .ok (.iload_n 1, 1) := by decide +kernel
theorem dX11_settled_11 : decode cX11_settled 11 = .ok (.invokevirtual 173, 3) := by decide +kernel
theorem dX11_settled_14 : decode cX11_settled 14 = .ok (.aload_n 0, 1) := by decide +kernel
theorem dX11_settled_15 : decode cX11_settled 15 = .ok (.getfield 66, 3) := by decide +kernel
theorem dX11_settled_18 : decode cX11_settled 18 = .ok (.getfield 223, 3) := by decide +kernel
theorem dX11_settled_21 : decode cX11_settled 21 = .ok (.ireturn, 1) := by decide +kernel
theorem dX11_steps_0 : decode cX11_steps 0 = .ok (.iload_n 1, 1) := by decide +kernel
theorem dX11_steps_1 : decode cX11_steps 1 = .ok (.invokestatic 142, 3) := by decide +kernel
theorem dX11_steps_4 : decode cX11_steps 4 = .ok (.ifCond .eq 14, 3) := by decide +kernel
theorem dX11_steps_7 : decode cX11_steps 7 = .ok (.iload_n 2, 1) := by decide +kernel
theorem dX11_steps_8 : decode cX11_steps 8 = .ok (.iconst 1, 1) := by decide +kernel
theorem dX11_steps_9 : decode cX11_steps 9 = .ok (.if_icmp .lt 9, 3) := by decide +kernel
theorem dX11_steps_12 : decode cX11_steps 12 = .ok (.iload_n 2, 1) := by decide +kernel
theorem dX11_steps_13 : decode cX11_steps 13 = .ok (.bipush 50, 2) := by decide +kernel
theorem dX11_steps_15 : decode cX11_steps 15 = .ok (.if_icmp .le 5, 3) := by decide +kernel
theorem dX11_steps_18 : decode cX11_steps 18 = .ok (.iconst (-1), 1) := by decide +kernel
theorem dX11_steps_19 : decode cX11_steps 19 = .ok (.ireturn, 1) := by decide +kernel
theorem dX11_steps_20 : decode cX11_steps 20 = .ok (.iconst 0, 1) := by decide +kernel
theorem dX11_steps_21 : decode cX11_steps 21 = .ok (.istore_n 3, 1) := by decide +kernel
theorem dX11_steps_22 : decode cX11_steps 22 = .ok (.iload_n 3, 1) := by decide +kernel
theorem dX11_steps_23 : decode cX11_steps 23 = .ok (.iload_n 2, 1) := by decide +kernel
theorem dX11_steps_24 : decode cX11_steps 24 = .ok (.if_icmp .ge 17, 3) := by decide +kernel
theorem dX11_steps_27 : decode cX11_steps 27 = .ok (.aload_n 0, 1) := by decide +kernel
theorem dX11_steps_28 : decode cX11_steps 28 = .ok (.iload_n 1, 1) := by decide +kernel
theorem dX11_steps_29 : decode cX11_steps 29 = .ok (.invokevirtual 226, 3) := by decide +kernel
theorem dX11_steps_32 : decode cX11_steps 32 = .ok (.ifCond .eq 9, 3) := by decide +kernel
theorem dX11_steps_35 : decode cX11_steps 35 = .ok (.iinc 3 1, 3) := by decide +kernel
theorem dX11_steps_38 : decode cX11_steps 38 = .ok (.goto (-16), 3) := by decide +kernel
theorem dX11_steps_41 : decode cX11_steps 41 = .ok (.iload_n 3, 1) := by decide +kernel
theorem dX11_steps_42 : decode cX11_steps 42 = .ok (.ireturn, 1) := by decide +kernel
theorem dX11_event_0 : decode cX11_event 0 = .ok (.iload_n 1, 1) := by decide +kernel
theorem dX11_event_1 : decode cX11_event 1 = .ok (.ifCond .lt 23, 3) := by decide +kernel
theorem dX11_event_4 : decode cX11_event 4 = .ok (.iload_n 1, 1) := by decide +kernel
theorem dX11_event_5 : decode cX11_event 5 = .ok (.aload_n 0, 1) := by decide +kernel
theorem dX11_event_6 : decode cX11_event 6 = .ok (.getfield 35, 3) := by decide +kernel
theorem dX11_event_9 : decode cX11_event 9 = .ok (.getfield 229, 3) := by decide +kernel
theorem dX11_event_12 : decode cX11_event 12 = .ok (.if_icmp .ge 12, 3) := by decide +kernel
theorem dX11_event_15 : decode cX11_event 15 = .ok (.iload_n 2, 1) := by decide +kernel
theorem dX11_event_16 : decode cX11_event 16 = .ok (.ifCond .lt 8, 3) := by decide +kernel
theorem dX11_event_19 : decode cX11_event 19 = .ok (.iload_n 2, 1) := by decide +kernel
theorem dX11_event_20 : decode cX11_event 20 = .ok (.iconst 5, 1) := by decide +kernel
theorem dX11_event_21 : decode cX11_event 21 = .ok (.if_icmp .lt 5, 3) := by decide +kernel
theorem dX11_event_24 : decode cX11_event 24 = .ok (.iconst (-1), 1) := by decide +kernel
theorem dX11_event_25 : decode cX11_event 25 = .ok (.ireturn, 1) := by decide +kernel
theorem dX11_event_26 : decode cX11_event 26 = .ok (.aload_n 0, 1) := by decide +kernel
theorem dX11_event_27 : decode cX11_event 27 = .ok (.getfield 45, 3) := by decide +kernel
theorem dX11_event_30 : decode cX11_event 30 = .ok (.getfield 231, 3) := by decide +kernel
theorem dX11_event_33 : decode cX11_event 33 = .ok (.iload_n 1, 1) := by decide +kernel
theorem dX11_event_34 : decode cX11_event 34 = .ok (.iconst 5, 1) := by decide +kernel
theorem dX11_event_35 : decode cX11_event 35 = .ok (.imul, 1) := by decide +kernel
theorem dX11_event_36 : decode cX11_event 36 = .ok (.iload_n 2, 1) := by decide +kernel
theorem dX11_event_37 : decode cX11_event 37 = .ok (.iadd, 1) := by decide +kernel
theorem dX11_event_38 : decode cX11_event 38 = .ok (.iaload, 1) := by decide +kernel
theorem dX11_event_39 : decode cX11_event 39 = .ok (.ireturn, 1) := by decide +kernel
theorem dX11_hand_0 : decode cX11_hand 0 = .ok (.iload_n 1, 1) := by decide +kernel
theorem dX11_hand_1 : decode cX11_hand 1 = .ok (.invokestatic 142, 3) := by decide +kernel
theorem dX11_hand_4 : decode cX11_hand 4 = .ok (.ifCond .eq 14, 3) := by decide +kernel
theorem dX11_hand_7 : decode cX11_hand 7 = .ok (.iload_n 2, 1) := by decide +kernel
theorem dX11_hand_8 : decode cX11_hand 8 = .ok (.iconst 1, 1) := by decide +kernel
theorem dX11_hand_9 : decode cX11_hand 9 = .ok (.if_icmp .lt 9, 3) := by decide +kernel
theorem dX11_hand_12 : decode cX11_hand 12 = .ok (.iload_n 2, 1) := by decide +kernel
theorem dX11_hand_13 : decode cX11_hand 13 = .ok (.ldc 158, 2) := by decide +kernel
theorem dX11_hand_15 : decode cX11_hand 15 = .ok (.if_icmp .le 5, 3) := by decide +kernel
theorem dX11_hand_18 : decode cX11_hand 18 = .ok (.iconst 0, 1) := by decide +kernel
theorem dX11_hand_19 : decode cX11_hand 19 = .ok (.ireturn, 1) := by decide +kernel
theorem dX11_hand_20 : decode cX11_hand 20 = .ok (.aload_n 0, 1) := by decide +kernel
theorem dX11_hand_21 : decode cX11_hand 21 = .ok (.getfield 35, 3) := by decide +kernel
theorem dX11_hand_24 : decode cX11_hand 24 = .ok (.getfield 145, 3) := by decide +kernel
theorem dX11_hand_27 : decode cX11_hand 27 = .ok (.iload_n 1, 1) := by decide +kernel
theorem dX11_hand_28 : decode cX11_hand 28 = .ok (.aaload, 1) := by decide +kernel
theorem dX11_hand_29 : decode cX11_hand 29 = .ok (.aload_n 0, 1) := by decide +kernel
theorem dX11_hand_30 : decode cX11_hand 30 = .ok (.getfield 35, 3) := by decide +kernel
theorem dX11_hand_33 : decode cX11_hand 33 = .ok (.getfield 145, 3) := by decide +kernel
theorem dX11_hand_36 : decode cX11_hand 36 = .ok (.iconst 1, 1) := by decide +kernel
theorem dX11_hand_37 : decode cX11_hand 37 = .ok (.iload_n 1, 1) := by decide +kernel
theorem dX11_hand_38 : decode cX11_hand 38 = .ok (.isub, 1) := by decide +kernel
theorem dX11_hand_39 : decode cX11_hand 39 = .ok (.aaload, 1) := by decide +kernel
theorem dX11_hand_40 : decode cX11_hand 40 = .ok (.iload_n 2, 1) := by decide +kernel
theorem dX11_hand_41 : decode cX11_hand 41 = .ok (.invokevirtual 234, 3) := by decide +kernel
theorem dX11_hand_44 : decode cX11_hand 44 = .ok (.ireturn, 1) := by decide +kernel
theorem dX11_light_0 : decode cX11_light 0 = .ok (.aload_n 0, 1) := by decide +kernel
theorem dX11_light_1 : decode cX11_light 1 = .ok (.iload_n 1, 1) := by decide +kernel
theorem dX11_light_2 : decode cX11_light 2 = .ok (.iload_n 2, 1) := by decide +kernel
theorem dX11_light_3 : decode cX11_light 3 = .ok (.invokevirtual 154, 3) := by decide +kernel
theorem dX11_light_6 : decode cX11_light 6 = .ok (.ifCond .eq 10, 3) := by decide +kernel
theorem dX11_light_9 : decode cX11_light 9 = .ok (.iload_n 3, 1) := by decide +kernel
theorem dX11_light_10 : decode cX11_light 10 = .ok (.invokestatic 128, 3) := by decide +kernel
theorem dX11_light_13 : decode cX11_light 13 = .ok (.ifCond .ne 7, 3) := by decide +kernel
theorem dX11_light_16 : decode cX11_light 16 = .ok (.ldc2_w 215, 3) := by decide +kernel
theorem dX11_light_19 : decode cX11_light 19 = .ok (.lreturn, 1) := by decide +kernel
theorem dX11_light_20 : decode cX11_light 20 = .ok (.aload_n 0, 1) := by decide +kernel
theorem dX11_light_21 : decode cX11_light 21 = .ok (.getfield 35, 3) := by decide +kernel
theorem dX11_light_24 : decode cX11_light 24 = .ok (.getfield 145, 3) := by decide +kernel
theorem dX11_light_27 : decode cX11_light 27 = .ok (.iload_n 1, 1) := by decide +kernel
theorem dX11_light_28 : decode cX11_light 28 = .ok (.aaload, 1) := by decide +kernel
theorem dX11_light_29 : decode cX11_light 29 = .ok (.getfield 238, 3) := by decide +kernel
theorem dX11_light_32 : decode cX11_light 32 = .ok (.iload_n 2, 1) := by decide +kernel
theorem dX11_light_33 : decode cX11_light 33 = .ok (.iconst 5, 1) := by decide +kernel
theorem dX11_light_34 : decode cX11_light 34 = .ok (.imul, 1) := by decide +kernel
theorem dX11_light_35 : decode cX11_light 35 = .ok (.iload_n 3, 1) := by decide +kernel
theorem dX11_light_36 : decode cX11_light 36 = .ok (.iadd, 1) := by decide +kernel
theorem dX11_light_37 : decode cX11_light 37 = .ok (.laload, 1) := by decide +kernel
theorem dX11_light_38 : decode cX11_light 38 = .ok (.lreturn, 1) := by decide +kernel
theorem dX11_sheet_0 : decode cX11_sheet 0 = .ok (.iload_n 1, 1) := by decide +kernel
theorem dX11_sheet_1 : decode cX11_sheet 1 = .ok (.invokestatic 142, 3) := by decide +kernel
theorem dX11_sheet_4 : decode cX11_sheet 4 = .ok (.ifCond .ne 5, 3) := by decide +kernel
theorem dX11_sheet_7 : decode cX11_sheet 7 = .ok (.iconst 0, 1) := by decide +kernel
theorem dX11_sheet_8 : decode cX11_sheet 8 = .ok (.ireturn, 1) := by decide +kernel
theorem dX11_sheet_9 : decode cX11_sheet 9 = .ok (.aload_n 0, 1) := by decide +kernel
theorem dX11_sheet_10 : decode cX11_sheet 10 = .ok (.getfield 59, 3) := by decide +kernel
theorem dX11_sheet_13 : decode cX11_sheet 13 = .ok (.iload_n 1, 1) := by decide +kernel
theorem dX11_sheet_14 : decode cX11_sheet 14 = .ok (.aload_n 0, 1) := by decide +kernel
theorem dX11_sheet_15 : decode cX11_sheet 15 = .ok (.getfield 35, 3) := by decide +kernel
theorem dX11_sheet_18 : decode cX11_sheet 18 = .ok (.getfield 145, 3) := by decide +kernel
theorem dX11_sheet_21 : decode cX11_sheet 21 = .ok (.iload_n 1, 1) := by decide +kernel
theorem dX11_sheet_22 : decode cX11_sheet 22 = .ok (.aaload, 1) := by decide +kernel
theorem dX11_sheet_23 : decode cX11_sheet 23 = .ok (.getfield 238, 3) := by decide +kernel
theorem dX11_sheet_26 : decode cX11_sheet 26 = .ok (.invokevirtual 241, 3) := by decide +kernel
theorem dX11_sheet_29 : decode cX11_sheet 29 = .ok (.iconst 1, 1) := by decide +kernel
theorem dX11_sheet_30 : decode cX11_sheet 30 = .ok (.ireturn, 1) := by decide +kernel
theorem dX11_alter_0 : decode cX11_alter 0 = .ok (.aload_n 0, 1) := by decide +kernel
theorem dX11_alter_1 : decode cX11_alter 1 = .ok (.getfield 59, 3) := by decide +kernel
theorem dX11_alter_4 : decode cX11_alter 4 = .ok (.getfield 245, 3) := by decide +kernel
theorem dX11_alter_7 : decode cX11_alter 7 = .ok (.iconst (-1), 1) := by decide +kernel
theorem dX11_alter_8 : decode cX11_alter 8 = .ok (.if_icmp .eq 26, 3) := by decide +kernel
theorem dX11_alter_11 : decode cX11_alter 11 = .ok (.iload_n 1, 1) := by decide +kernel
theorem dX11_alter_12 : decode cX11_alter 12 = .ok (.ifCond .lt 22, 3) := by decide +kernel
theorem dX11_alter_15 : decode cX11_alter 15 = .ok (.iload_n 1, 1) := by decide +kernel
theorem dX11_alter_16 : decode cX11_alter 16 = .ok (.bipush 16, 2) := by decide +kernel
theorem dX11_alter_18 : decode cX11_alter 18 = .ok (.if_icmp .ge 16, 3) := by decide +kernel
theorem dX11_alter_21 : decode cX11_alter 21 = .ok (.iload_n 2, 1) := by decide +kernel
theorem dX11_alter_22 : decode cX11_alter 22 = .ok (.invokestatic 128, 3) := by decide +kernel
theorem dX11_alter_25 : decode cX11_alter 25 = .ok (.ifCond .eq 9, 3) := by decide +kernel
theorem dX11_alter_28 : decode cX11_alter 28 = .ok (.lload_n 3, 1) := by decide +kernel
theorem dX11_alter_29 : decode cX11_alter 29 = .ok (.lconst 0, 1) := by decide +kernel
theorem dX11_alter_30 : decode cX11_alter 30 = .ok (.lcmp, 1) := by decide +kernel
theorem dX11_alter_31 : decode cX11_alter 31 = .ok (.ifCond .ne 5, 3) := by decide +kernel
theorem dX11_alter_34 : decode cX11_alter 34 = .ok (.iconst 0, 1) := by decide +kernel
theorem dX11_alter_35 : decode cX11_alter 35 = .ok (.ireturn, 1) := by decide +kernel
theorem dX11_alter_36 : decode cX11_alter 36 = .ok (.aload_n 0, 1) := by decide +kernel
theorem dX11_alter_37 : decode cX11_alter 37 = .ok (.getfield 59, 3) := by decide +kernel
theorem dX11_alter_40 : decode cX11_alter 40 = .ok (.getfield 248, 3) := by decide +kernel
theorem dX11_alter_43 : decode cX11_alter 43 = .ok (.iload_n 1, 1) := by decide +kernel
theorem dX11_alter_44 : decode cX11_alter 44 = .ok (.iconst 5, 1) := by decide +kernel
theorem dX11_alter_45 : decode cX11_alter 45 = .ok (.imul, 1) := by decide +kernel
theorem dX11_alter_46 : decode cX11_alter 46 = .ok (.iload_n 2, 1) := by decide +kernel
theorem dX11_alter_47 : decode cX11_alter 47 = .ok (.iadd, 1) := by decide +kernel
theorem dX11_alter_48 : decode cX11_alter 48 = .ok (.dup2, 1) := by decide +kernel
theorem dX11_alter_49 : decode cX11_alter 49 = .ok (.laload, 1) := by decide +kernel
theorem dX11_alter_50 : decode cX11_alter 50 = .ok (.lload_n 3, 1) := by decide +kernel
theorem dX11_alter_51 : decode cX11_alter 51 = .ok (.lxor, 1) := by decide +kernel
theorem dX11_alter_52 : decode cX11_alter 52 = .ok (.lastore, 1) := by decide +kernel
theorem dX11_alter_53 : decode cX11_alter 53 = .ok (.iconst 1, 1) := by decide +kernel
theorem dX11_alter_54 : decode cX11_alter 54 = .ok (.ireturn, 1) := by decide +kernel
theorem dX11_check_0 : decode cX11_check 0 = .ok (.aload_n 0, 1) := by decide +kernel
theorem dX11_check_1 : decode cX11_check 1 = .ok (.getfield 59, 3) := by decide +kernel
theorem dX11_check_4 : decode cX11_check 4 = .ok (.getfield 245, 3) := by decide +kernel
theorem dX11_check_7 : decode cX11_check 7 = .ok (.invokestatic 142, 3) := by decide +kernel
theorem dX11_check_10 : decode cX11_check 10 = .ok (.ifCond .eq 12, 3) := by decide +kernel
theorem dX11_check_13 : decode cX11_check 13 = .ok (.iload_n 1, 1) := by decide +kernel
theorem dX11_check_14 : decode cX11_check 14 = .ok (.ifCond .lt 8, 3) := by decide +kernel
theorem dX11_check_17 : decode cX11_check 17 = .ok (.iload_n 1, 1) := by decide +kernel
theorem dX11_check_18 : decode cX11_check 18 = .ok (.iconst 2, 1) := by decide +kernel
theorem dX11_check_19 : decode cX11_check 19 = .ok (.if_icmp .le 5, 3) := by decide +kernel
theorem dX11_check_22 : decode cX11_check 22 = .ok (.iconst (-1), 1) := by decide +kernel
theorem dX11_check_23 : decode cX11_check 23 = .ok (.ireturn, 1) := by decide +kernel
theorem dX11_check_24 : decode cX11_check 24 = .ok (.aload_n 0, 1) := by decide +kernel
theorem dX11_check_25 : decode cX11_check 25 = .ok (.getfield 59, 3) := by decide +kernel
theorem dX11_check_28 : decode cX11_check 28 = .ok (.aload_n 0, 1) := by decide +kernel
theorem dX11_check_29 : decode cX11_check 29 = .ok (.getfield 35, 3) := by decide +kernel
theorem dX11_check_32 : decode cX11_check 32 = .ok (.getfield 145, 3) := by decide +kernel
theorem dX11_check_35 : decode cX11_check 35 = .ok (.aload_n 0, 1) := by decide +kernel
theorem dX11_check_36 : decode cX11_check 36 = .ok (.getfield 59, 3) := by decide +kernel
theorem dX11_check_39 : decode cX11_check 39 = .ok (.getfield 245, 3) := by decide +kernel
theorem dX11_check_42 : decode cX11_check 42 = .ok (.aaload, 1) := by decide +kernel
theorem dX11_check_43 : decode cX11_check 43 = .ok (.getfield 238, 3) := by decide +kernel
theorem dX11_check_46 : decode cX11_check 46 = .ok (.invokevirtual 251, 3) := by decide +kernel
theorem dX11_check_49 : decode cX11_check 49 = .ok (.iload_n 1, 1) := by decide +kernel
theorem dX11_check_50 : decode cX11_check 50 = .ok (.ifCond .ne 11, 3) := by decide +kernel
theorem dX11_check_53 : decode cX11_check 53 = .ok (.aload_n 0, 1) := by decide +kernel
theorem dX11_check_54 : decode cX11_check 54 = .ok (.getfield 59, 3) := by decide +kernel
theorem dX11_check_57 : decode cX11_check 57 = .ok (.getfield 255, 3) := by decide +kernel
theorem dX11_check_60 : decode cX11_check 60 = .ok (.ireturn, 1) := by decide +kernel
theorem dX11_check_61 : decode cX11_check 61 = .ok (.aload_n 0, 1) := by decide +kernel
theorem dX11_check_62 : decode cX11_check 62 = .ok (.getfield 59, 3) := by decide +kernel
theorem dX11_check_65 : decode cX11_check 65 = .ok (.getfield 255, 3) := by decide +kernel
theorem dX11_check_68 : decode cX11_check 68 = .ok (.iconst 1, 1) := by decide +kernel
theorem dX11_check_69 : decode cX11_check 69 = .ok (.if_icmp .eq 5, 3) := by decide +kernel
theorem dX11_check_72 : decode cX11_check 72 = .ok (.iconst (-1), 1) := by decide +kernel
theorem dX11_check_73 : decode cX11_check 73 = .ok (.ireturn, 1) := by decide +kernel
theorem dX11_check_74 : decode cX11_check 74 = .ok (.iload_n 1, 1) := by decide +kernel
theorem dX11_check_75 : decode cX11_check 75 = .ok (.iconst 1, 1) := by decide +kernel
theorem dX11_check_76 : decode cX11_check 76 = .ok (.if_icmp .ne 15, 3) := by decide +kernel
theorem dX11_check_79 : decode cX11_check 79 = .ok (.aload_n 0, 1) := by decide +kernel
theorem dX11_check_80 : decode cX11_check 80 = .ok (.getfield 59, 3) := by decide +kernel
theorem dX11_check_83 : decode cX11_check 83 = .ok (.getfield 258, 3) := by decide +kernel
theorem dX11_check_86 : decode cX11_check 86 = .ok (.iconst 5, 1) := by decide +kernel
theorem dX11_check_87 : decode cX11_check 87 = .ok (.idiv, 1) := by decide +kernel
theorem dX11_check_88 : decode cX11_check 88 = .ok (.goto 12, 3) := by decide +kernel
theorem dX11_check_91 : decode cX11_check 91 = .ok (.aload_n 0, 1) := by decide +kernel
theorem dX11_check_92 : decode cX11_check 92 = .ok (.getfield 59, 3) := by decide +kernel
theorem dX11_check_95 : decode cX11_check 95 = .ok (.getfield 258, 3) := by decide +kernel
theorem dX11_check_98 : decode cX11_check 98 = .ok (.iconst 5, 1) := by decide +kernel
theorem dX11_check_99 : decode cX11_check 99 = .ok (.irem, 1) := by decide +kernel
theorem dX11_check_100 : decode cX11_check 100 = .ok (.ireturn, 1) := by decide +kernel
theorem dX11_below_0 : decode cX11_below 0 = .ok (.iload_n 2, 1) := by decide +kernel
theorem dX11_below_1 : decode cX11_below 1 = .ok (.ifCond .lt 18, 3) := by decide +kernel
theorem dX11_below_4 : decode cX11_below 4 = .ok (.iload_n 2, 1) := by decide +kernel
theorem dX11_below_5 : decode cX11_below 5 = .ok (.sipush 400, 3) := by decide +kernel
theorem dX11_below_8 : decode cX11_below 8 = .ok (.if_icmp .gt 11, 3) := by decide +kernel
theorem dX11_below_11 : decode cX11_below 11 = .ok (.aload_n 0, 1) := by decide +kernel
theorem dX11_below_12 : decode cX11_below 12 = .ok (.iload_n 1, 1) := by decide +kernel
theorem dX11_below_13 : decode cX11_below 13 = .ok (.invokevirtual 261, 3) := by decide +kernel
theorem dX11_below_16 : decode cX11_below 16 = .ok (.ifCond .ne 5, 3) := by decide +kernel
theorem dX11_below_19 : decode cX11_below 19 = .ok (.iconst (-1), 1) := by decide +kernel
theorem dX11_below_20 : decode cX11_below 20 = .ok (.ireturn, 1) := by decide +kernel
theorem dX11_below_21 : decode cX11_below 21 = .ok (.aload_n 0, 1) := by decide +kernel
theorem dX11_below_22 : decode cX11_below 22 = .ok (.getfield 73, 3) := by decide +kernel
theorem dX11_below_25 : decode cX11_below 25 = .ok (.iload_n 2, 1) := by decide +kernel
theorem dX11_below_26 : decode cX11_below 26 = .ok (.invokevirtual 264, 3) := by decide +kernel
theorem dX11_below_29 : decode cX11_below 29 = .ok (.ireturn, 1) := by decide +kernel
theorem dX11_tone_0 : decode cX11_tone 0 = .ok (.aload_n 0, 1) := by decide +kernel
theorem dX11_tone_1 : decode cX11_tone 1 = .ok (.iload_n 1, 1) := by decide +kernel
theorem dX11_tone_2 : decode cX11_tone 2 = .ok (.invokevirtual 261, 3) := by decide +kernel
theorem dX11_tone_5 : decode cX11_tone 5 = .ok (.ifCond .eq 14, 3) := by decide +kernel
theorem dX11_tone_8 : decode cX11_tone 8 = .ok (.aload_n 0, 1) := by decide +kernel
theorem dX11_tone_9 : decode cX11_tone 9 = .ok (.getfield 73, 3) := by decide +kernel
theorem dX11_tone_12 : decode cX11_tone 12 = .ok (.iload_n 2, 1) := by decide +kernel
theorem dX11_tone_13 : decode cX11_tone 13 = .ok (.invokevirtual 268, 3) := by decide +kernel
theorem dX11_tone_16 : decode cX11_tone 16 = .ok (.goto 4, 3) := by decide +kernel
theorem dX11_tone_19 : decode cX11_tone 19 = .ok (.iconst (-1), 1) := by decide +kernel
theorem dX11_tone_20 : decode cX11_tone 20 = .ok (.ireturn, 1) := by decide +kernel
theorem dX11_seen_0 : decode cX11_seen 0 = .ok (.iload_n 2, 1) := by decide +kernel
theorem dX11_seen_1 : decode cX11_seen 1 = .ok (.iconst (-1), 1) := by decide +kernel
theorem dX11_seen_2 : decode cX11_seen 2 = .ok (.if_icmp .ne 9, 3) := by decide +kernel
theorem dX11_seen_5 : decode cX11_seen 5 = .ok (.ldc_w 271, 3) := by decide +kernel
theorem dX11_seen_8 : decode cX11_seen 8 = .ok (.goto 6, 3) := by decide +kernel
theorem dX11_seen_11 : decode cX11_seen 11 = .ok (.sipush 400, 3) := by decide +kernel
theorem dX11_seen_14 : decode cX11_seen 14 = .ok (.istore 5, 2) := by decide +kernel
theorem dX11_seen_16 : decode cX11_seen 16 = .ok (.iload_n 1, 1) := by decide +kernel
theorem dX11_seen_17 : decode cX11_seen 17 = .ok (.invokestatic 142, 3) := by decide +kernel
theorem dX11_seen_20 : decode cX11_seen 20 = .ok (.ifCond .eq 26, 3) := by decide +kernel
theorem dX11_seen_23 : decode cX11_seen 23 = .ok (.iload_n 2, 1) := by decide +kernel
theorem dX11_seen_24 : decode cX11_seen 24 = .ok (.iconst (-1), 1) := by decide +kernel
theorem dX11_seen_25 : decode cX11_seen 25 = .ok (.if_icmp .lt 21, 3) := by decide +kernel
theorem dX11_seen_28 : decode cX11_seen 28 = .ok (.iload_n 2, 1) := by decide +kernel
theorem dX11_seen_29 : decode cX11_seen 29 = .ok (.bipush 7, 2) := by decide +kernel
theorem dX11_seen_31 : decode cX11_seen 31 = .ok (.if_icmp .ge 15, 3) := by decide +kernel
theorem dX11_seen_34 : decode cX11_seen 34 = .ok (.aload_n 0, 1) := by decide +kernel
theorem dX11_seen_35 : decode cX11_seen 35 = .ok (.getfield 35, 3) := by decide +kernel
theorem dX11_seen_38 : decode cX11_seen 38 = .ok (.getfield 272, 3) := by decide +kernel
theorem dX11_seen_41 : decode cX11_seen 41 = .ok (.bipush 20, 2) := by decide +kernel
theorem dX11_seen_43 : decode cX11_seen 43 = .ok (.if_icmp .lt 5, 3) := by decide +kernel
theorem dX11_seen_46 : decode cX11_seen 46 = .ok (.iconst (-1), 1) := by decide +kernel
theorem dX11_seen_47 : decode cX11_seen 47 = .ok (.ireturn, 1) := by decide +kernel
theorem dX11_seen_48 : decode cX11_seen 48 = .ok (.iload_n 3, 1) := by decide +kernel
theorem dX11_seen_49 : decode cX11_seen 49 = .ok (.ifCond .lt 16, 3) := by decide +kernel
theorem dX11_seen_52 : decode cX11_seen 52 = .ok (.iload_n 3, 1) := by decide +kernel
theorem dX11_seen_53 : decode cX11_seen 53 = .ok (.iload 4, 2) := by decide +kernel
theorem dX11_seen_55 : decode cX11_seen 55 = .ok (.if_icmp .gt 10, 3) := by decide +kernel
theorem dX11_seen_58 : decode cX11_seen 58 = .ok (.iload 4, 2) := by decide +kernel
theorem dX11_seen_60 : decode cX11_seen 60 = .ok (.iload 5, 2) := by decide +kernel
theorem dX11_seen_62 : decode cX11_seen 62 = .ok (.if_icmp .le 5, 3) := by decide +kernel
theorem dX11_seen_65 : decode cX11_seen 65 = .ok (.iconst (-1), 1) := by decide +kernel
theorem dX11_seen_66 : decode cX11_seen 66 = .ok (.ireturn, 1) := by decide +kernel
theorem dX11_seen_67 : decode cX11_seen 67 = .ok (.aload_n 0, 1) := by decide +kernel
theorem dX11_seen_68 : decode cX11_seen 68 = .ok (.getfield 52, 3) := by decide +kernel
theorem dX11_seen_71 : decode cX11_seen 71 = .ok (.getfield 274, 3) := by decide +kernel
theorem dX11_seen_74 : decode cX11_seen 74 = .ok (.aload_n 0, 1) := by decide +kernel
theorem dX11_seen_75 : decode cX11_seen 75 = .ok (.getfield 35, 3) := by decide +kernel
theorem dX11_seen_78 : decode cX11_seen 78 = .ok (.getfield 272, 3) := by decide +kernel
theorem dX11_seen_81 : decode cX11_seen 81 = .ok (.iload_n 1, 1) := by decide +kernel
theorem dX11_seen_82 : decode cX11_seen 82 = .ok (.iastore, 1) := by decide +kernel
theorem dX11_seen_83 : decode cX11_seen 83 = .ok (.aload_n 0, 1) := by decide +kernel
theorem dX11_seen_84 : decode cX11_seen 84 = .ok (.getfield 52, 3) := by decide +kernel
theorem dX11_seen_87 : decode cX11_seen 87 = .ok (.getfield 276, 3) := by decide +kernel
theorem dX11_seen_90 : decode cX11_seen 90 = .ok (.aload_n 0, 1) := by decide +kernel
theorem dX11_seen_91 : decode cX11_seen 91 = .ok (.getfield 35, 3) := by decide +kernel
theorem dX11_seen_94 : decode cX11_seen 94 = .ok (.getfield 272, 3) := by decide +kernel
theorem dX11_seen_97 : decode cX11_seen 97 = .ok (.iload_n 2, 1) := by decide +kernel
theorem dX11_seen_98 : decode cX11_seen 98 = .ok (.iastore, 1) := by decide +kernel
theorem dX11_seen_99 : decode cX11_seen 99 = .ok (.aload_n 0, 1) := by decide +kernel
theorem dX11_seen_100 : decode cX11_seen 100 = .ok (.getfield 52, 3) := by decide +kernel
theorem dX11_seen_103 : decode cX11_seen 103 = .ok (.getfield 278, 3) := by decide +kernel
theorem dX11_seen_106 : decode cX11_seen 106 = .ok (.aload_n 0, 1) := by decide +kernel
theorem dX11_seen_107 : decode cX11_seen 107 = .ok (.getfield 35, 3) := by decide +kernel
theorem dX11_seen_110 : decode cX11_seen 110 = .ok (.getfield 272, 3) := by decide +kernel
theorem dX11_seen_113 : decode cX11_seen 113 = .ok (.iload_n 3, 1) := by decide +kernel
theorem dX11_seen_114 : decode cX11_seen 114 = .ok (.iastore, 1) := by decide +kernel
theorem dX11_seen_115 : decode cX11_seen 115 = .ok (.aload_n 0, 1) := by decide +kernel
theorem dX11_seen_116 : decode cX11_seen 116 = .ok (.getfield 52, 3) := by decide +kernel
theorem dX11_seen_119 : decode cX11_seen 119 = .ok (.getfield 281, 3) := by decide +kernel
theorem dX11_seen_122 : decode cX11_seen 122 = .ok (.aload_n 0, 1) := by decide +kernel
theorem dX11_seen_123 : decode cX11_seen 123 = .ok (.getfield 35, 3) := by decide +kernel
theorem dX11_seen_126 : decode cX11_seen 126 = .ok (.getfield 272, 3) := by decide +kernel
theorem dX11_seen_129 : decode cX11_seen 129 = .ok (.iload 4, 2) := by decide +kernel
theorem dX11_seen_131 : decode cX11_seen 131 = .ok (.iastore, 1) := by decide +kernel
theorem dX11_seen_132 : decode cX11_seen 132 = .ok (.aload_n 0, 1) := by decide +kernel
theorem dX11_seen_133 : decode cX11_seen 133 = .ok (.getfield 35, 3) := by decide +kernel
theorem dX11_seen_136 : decode cX11_seen 136 = .ok (.dup, 1) := by decide +kernel
theorem dX11_seen_137 : decode cX11_seen 137 = .ok (.getfield 272, 3) := by decide +kernel
theorem dX11_seen_140 : decode cX11_seen 140 = .ok (.iconst 1, 1) := by decide +kernel
theorem dX11_seen_141 : decode cX11_seen 141 = .ok (.iadd, 1) := by decide +kernel
theorem dX11_seen_142 : decode cX11_seen 142 = .ok (.putfield 272, 3) := by decide +kernel
theorem dX11_seen_145 : decode cX11_seen 145 = .ok (.aload_n 0, 1) := by decide +kernel
theorem dX11_seen_146 : decode cX11_seen 146 = .ok (.getfield 35, 3) := by decide +kernel
theorem dX11_seen_149 : decode cX11_seen 149 = .ok (.getfield 272, 3) := by decide +kernel
theorem dX11_seen_152 : decode cX11_seen 152 = .ok (.ireturn, 1) := by decide +kernel
theorem dX11_fits_0 : decode cX11_fits 0 = .ok (.iload_n 1, 1) := by decide +kernel
theorem dX11_fits_1 : decode cX11_fits 1 = .ok (.invokestatic 142, 3) := by decide +kernel
theorem dX11_fits_4 : decode cX11_fits 4 = .ok (.ifCond .eq 8, 3) := by decide +kernel
theorem dX11_fits_7 : decode cX11_fits 7 = .ok (.iload_n 2, 1) := by decide +kernel
theorem dX11_fits_8 : decode cX11_fits 8 = .ok (.iconst (-1), 1) := by decide +kernel
theorem dX11_fits_9 : decode cX11_fits 9 = .ok (.if_icmp .ge 5, 3) := by decide +kernel
theorem dX11_fits_12 : decode cX11_fits 12 = .ok (.iconst (-1), 1) := by decide +kernel
theorem dX11_fits_13 : decode cX11_fits 13 = .ok (.ireturn, 1) := by decide +kernel
theorem dX11_fits_14 : decode cX11_fits 14 = .ok (.aload_n 0, 1) := by decide +kernel
theorem dX11_fits_15 : decode cX11_fits 15 = .ok (.iload_n 1, 1) := by decide +kernel
theorem dX11_fits_16 : decode cX11_fits 16 = .ok (.invokevirtual 284, 3) := by decide +kernel
theorem dX11_fits_19 : decode cX11_fits 19 = .ok (.istore_n 3, 1) := by decide +kernel
theorem dX11_fits_20 : decode cX11_fits 20 = .ok (.iconst 0, 1) := by decide +kernel
theorem dX11_fits_21 : decode cX11_fits 21 = .ok (.istore 4, 2) := by decide +kernel
theorem dX11_fits_23 : decode cX11_fits 23 = .ok (.iconst 1, 1) := by decide +kernel
theorem dX11_fits_24 : decode cX11_fits 24 = .ok (.istore 5, 2) := by decide +kernel
theorem dX11_fits_26 : decode cX11_fits 26 = .ok (.iload 5, 2) := by decide +kernel
theorem dX11_fits_28 : decode cX11_fits 28 = .ok (.sipush 200, 3) := by decide +kernel
theorem dX11_fits_31 : decode cX11_fits 31 = .ok (.if_icmp .gt 32, 3) := by decide +kernel
theorem dX11_fits_34 : decode cX11_fits 34 = .ok (.aload_n 0, 1) := by decide +kernel
theorem dX11_fits_35 : decode cX11_fits 35 = .ok (.iload_n 1, 1) := by decide +kernel
theorem dX11_fits_36 : decode cX11_fits 36 = .ok (.iload 5, 2) := by decide +kernel
theorem dX11_fits_38 : decode cX11_fits 38 = .ok (.iload_n 3, 1) := by decide +kernel
theorem dX11_fits_39 : decode cX11_fits 39 = .ok (.invokevirtual 287, 3) := by decide +kernel
theorem dX11_fits_42 : decode cX11_fits 42 = .ok (.ifCond .eq 15, 3) := by decide +kernel
theorem dX11_fits_45 : decode cX11_fits 45 = .ok (.iload 4, 2) := by decide +kernel
theorem dX11_fits_47 : decode cX11_fits 47 = .ok (.iload_n 2, 1) := by decide +kernel
theorem dX11_fits_48 : decode cX11_fits 48 = .ok (.if_icmp .ne 6, 3) := by decide +kernel
theorem dX11_fits_51 : decode cX11_fits 51 = .ok (.iload 5, 2) := by decide +kernel
theorem dX11_fits_53 : decode cX11_fits 53 = .ok (.ireturn, 1) := by decide +kernel
theorem dX11_fits_54 : decode cX11_fits 54 = .ok (.iinc 4 1, 3) := by decide +kernel
theorem dX11_fits_57 : decode cX11_fits 57 = .ok (.iinc 5 1, 3) := by decide +kernel
theorem dX11_fits_60 : decode cX11_fits 60 = .ok (.goto (-34), 3) := by decide +kernel
theorem dX11_fits_63 : decode cX11_fits 63 = .ok (.iload_n 2, 1) := by decide +kernel
theorem dX11_fits_64 : decode cX11_fits 64 = .ok (.iconst (-1), 1) := by decide +kernel
theorem dX11_fits_65 : decode cX11_fits 65 = .ok (.if_icmp .ne 8, 3) := by decide +kernel
theorem dX11_fits_68 : decode cX11_fits 68 = .ok (.iload 4, 2) := by decide +kernel
theorem dX11_fits_70 : decode cX11_fits 70 = .ok (.goto 4, 3) := by decide +kernel
theorem dX11_fits_73 : decode cX11_fits 73 = .ok (.iconst (-1), 1) := by decide +kernel
theorem dX11_fits_74 : decode cX11_fits 74 = .ok (.ireturn, 1) := by decide +kernel
theorem dX11_image_0 : decode cX11_image 0 = .ok (.aload_n 0, 1) := by decide +kernel
theorem dX11_image_1 : decode cX11_image 1 = .ok (.getfield 39, 3) := by decide +kernel
theorem dX11_image_4 : decode cX11_image 4 = .ok (.aload_n 0, 1) := by decide +kernel
theorem dX11_image_5 : decode cX11_image 5 = .ok (.getfield 35, 3) := by decide +kernel
theorem dX11_image_8 : decode cX11_image 8 = .ok (.invokevirtual 291, 3) := by decide +kernel
theorem dX11_image_11 : decode cX11_image 11 = .ok (.aload_n 0, 1) := by decide +kernel
theorem dX11_image_12 : decode cX11_image 12 = .ok (.getfield 35, 3) := by decide +kernel
theorem dX11_image_15 : decode cX11_image 15 = .ok (.getfield 93, 3) := by decide +kernel
theorem dX11_image_18 : decode cX11_image 18 = .ok (.ireturn, 1) := by decide +kernel
theorem dX11_back_0 : decode cX11_back 0 = .ok (.aload_n 0, 1) := by decide +kernel
theorem dX11_back_1 : decode cX11_back 1 = .ok (.getfield 35, 3) := by decide +kernel
theorem dX11_back_4 : decode cX11_back 4 = .ok (.aload_n 0, 1) := by decide +kernel
theorem dX11_back_5 : decode cX11_back 5 = .ok (.getfield 39, 3) := by decide +kernel
theorem dX11_back_8 : decode cX11_back 8 = .ok (.invokevirtual 291, 3) := by decide +kernel
theorem dX11_back_11 : decode cX11_back 11 = .ok (.aload_n 0, 1) := by decide +kernel
theorem dX11_back_12 : decode cX11_back 12 = .ok (.getfield 35, 3) := by decide +kernel
theorem dX11_back_15 : decode cX11_back 15 = .ok (.getfield 93, 3) := by decide +kernel
theorem dX11_back_18 : decode cX11_back 18 = .ok (.ireturn, 1) := by decide +kernel
theorem dX11_about_0 : decode cX11_about 0 = .ok (.iload_n 1, 1) := by decide +kernel
theorem dX11_about_1 : decode cX11_about 1 = .ok (.tableswitch 214 0 21 #[103, 111, 119, 119, 134, 142, 150, 158, 166, 214, 182, 182, 214, 214, 214, 214, 214, 214, 214, 214, 198, 198], 103) := by decide +kernel
theorem dX11_about_104 : decode cX11_about 104 = .ok (.aload_n 0, 1) := by decide +kernel
theorem dX11_about_105 : decode cX11_about 105 = .ok (.getfield 35, 3) := by decide +kernel
theorem dX11_about_108 : decode cX11_about 108 = .ok (.getfield 93, 3) := by decide +kernel
theorem dX11_about_111 : decode cX11_about 111 = .ok (.ireturn, 1) := by decide +kernel
theorem dX11_about_112 : decode cX11_about 112 = .ok (.aload_n 0, 1) := by decide +kernel
theorem dX11_about_113 : decode cX11_about 113 = .ok (.getfield 35, 3) := by decide +kernel
theorem dX11_about_116 : decode cX11_about 116 = .ok (.getfield 104, 3) := by decide +kernel
theorem dX11_about_119 : decode cX11_about 119 = .ok (.ireturn, 1) := by decide +kernel
theorem dX11_about_120 : decode cX11_about 120 = .ok (.aload_n 0, 1) := by decide +kernel
theorem dX11_about_121 : decode cX11_about 121 = .ok (.getfield 35, 3) := by decide +kernel
theorem dX11_about_124 : decode cX11_about 124 = .ok (.getfield 145, 3) := by decide +kernel
theorem dX11_about_127 : decode cX11_about 127 = .ok (.iload_n 1, 1) := by decide +kernel
theorem dX11_about_128 : decode cX11_about 128 = .ok (.iconst 2, 1) := by decide +kernel
theorem dX11_about_129 : decode cX11_about 129 = .ok (.isub, 1) := by decide +kernel
theorem dX11_about_130 : decode cX11_about 130 = .ok (.aaload, 1) := by decide +kernel
theorem dX11_about_131 : decode cX11_about 131 = .ok (.getfield 149, 3) := by decide +kernel
theorem dX11_about_134 : decode cX11_about 134 = .ok (.ireturn, 1) := by decide +kernel
theorem dX11_about_135 : decode cX11_about 135 = .ok (.aload_n 0, 1) := by decide +kernel
theorem dX11_about_136 : decode cX11_about 136 = .ok (.getfield 35, 3) := by decide +kernel
theorem dX11_about_139 : decode cX11_about 139 = .ok (.getfield 294, 3) := by decide +kernel
theorem dX11_about_142 : decode cX11_about 142 = .ok (.ireturn, 1) := by decide +kernel
theorem dX11_about_143 : decode cX11_about 143 = .ok (.aload_n 0, 1) := by decide +kernel
theorem dX11_about_144 : decode cX11_about 144 = .ok (.getfield 35, 3) := by decide +kernel
theorem dX11_about_147 : decode cX11_about 147 = .ok (.getfield 229, 3) := by decide +kernel
theorem dX11_about_150 : decode cX11_about 150 = .ok (.ireturn, 1) := by decide +kernel
theorem dX11_about_151 : decode cX11_about 151 = .ok (.aload_n 0, 1) := by decide +kernel
theorem dX11_about_152 : decode cX11_about 152 = .ok (.getfield 35, 3) := by decide +kernel
theorem dX11_about_155 : decode cX11_about 155 = .ok (.getfield 272, 3) := by decide +kernel
theorem dX11_about_158 : decode cX11_about 158 = .ok (.ireturn, 1) := by decide +kernel
theorem dX11_about_159 : decode cX11_about 159 = .ok (.aload_n 0, 1) := by decide +kernel
theorem dX11_about_160 : decode cX11_about 160 = .ok (.getfield 12, 3) := by decide +kernel
theorem dX11_about_163 : decode cX11_about 163 = .ok (.getfield 85, 3) := by decide +kernel
theorem dX11_about_166 : decode cX11_about 166 = .ok (.ireturn, 1) := by decide +kernel
theorem dX11_about_167 : decode cX11_about 167 = .ok (.aload_n 0, 1) := by decide +kernel
theorem dX11_about_168 : decode cX11_about 168 = .ok (.getfield 27, 3) := by decide +kernel
theorem dX11_about_171 : decode cX11_about 171 = .ok (.aload_n 0, 1) := by decide +kernel
theorem dX11_about_172 : decode cX11_about 172 = .ok (.getfield 35, 3) := by decide +kernel
theorem dX11_about_175 : decode cX11_about 175 = .ok (.getfield 93, 3) := by decide +kernel
theorem dX11_about_178 : decode cX11_about 178 = .ok (.aaload, 1) := by decide +kernel
theorem dX11_about_179 : decode cX11_about 179 = .ok (.getfield 297, 3) := by decide +kernel
theorem dX11_about_182 : decode cX11_about 182 = .ok (.ireturn, 1) := by decide +kernel
theorem dX11_about_183 : decode cX11_about 183 = .ok (.aload_n 0, 1) := by decide +kernel
theorem dX11_about_184 : decode cX11_about 184 = .ok (.getfield 35, 3) := by decide +kernel
theorem dX11_about_187 : decode cX11_about 187 = .ok (.getfield 145, 3) := by decide +kernel
theorem dX11_about_190 : decode cX11_about 190 = .ok (.iload_n 1, 1) := by decide +kernel
theorem dX11_about_191 : decode cX11_about 191 = .ok (.bipush 10, 2) := by decide +kernel
theorem dX11_about_193 : decode cX11_about 193 = .ok (.isub, 1) := by decide +kernel
theorem dX11_about_194 : decode cX11_about 194 = .ok (.aaload, 1) := by decide +kernel
theorem dX11_about_195 : decode cX11_about 195 = .ok (.getfield 167, 3) := by decide +kernel
theorem dX11_about_198 : decode cX11_about 198 = .ok (.ireturn, 1) := by decide +kernel
theorem dX11_about_199 : decode cX11_about 199 = .ok (.aload_n 0, 1) := by decide +kernel
theorem dX11_about_200 : decode cX11_about 200 = .ok (.getfield 35, 3) := by decide +kernel
theorem dX11_about_203 : decode cX11_about 203 = .ok (.getfield 145, 3) := by decide +kernel
theorem dX11_about_206 : decode cX11_about 206 = .ok (.iload_n 1, 1) := by decide +kernel
theorem dX11_about_207 : decode cX11_about 207 = .ok (.bipush 20, 2) := by decide +kernel
theorem dX11_about_209 : decode cX11_about 209 = .ok (.isub, 1) := by decide +kernel
theorem dX11_about_210 : decode cX11_about 210 = .ok (.aaload, 1) := by decide +kernel
theorem dX11_about_211 : decode cX11_about 211 = .ok (.getfield 170, 3) := by decide +kernel
theorem dX11_about_214 : decode cX11_about 214 = .ok (.ireturn, 1) := by decide +kernel
theorem dX11_about_215 : decode cX11_about 215 = .ok (.iconst (-1), 1) := by decide +kernel
theorem dX11_about_216 : decode cX11_about 216 = .ok (.ireturn, 1) := by decide +kernel
theorem dX11_isStar_0 : decode cX11_isStar 0 = .ok (.iload_n 0, 1) := by decide +kernel
theorem dX11_isStar_1 : decode cX11_isStar 1 = .ok (.ifCond .lt 12, 3) := by decide +kernel
theorem dX11_isStar_4 : decode cX11_isStar 4 = .ok (.iload_n 0, 1) := by decide +kernel
theorem dX11_isStar_5 : decode cX11_isStar 5 = .ok (.iconst 2, 1) := by decide +kernel
theorem dX11_isStar_6 : decode cX11_isStar 6 = .ok (.if_icmp .ge 7, 3) := by decide +kernel
theorem dX11_isStar_9 : decode cX11_isStar 9 = .ok (.iconst 1, 1) := by decide +kernel
theorem dX11_isStar_10 : decode cX11_isStar 10 = .ok (.goto 4, 3) := by decide +kernel
theorem dX11_isStar_13 : decode cX11_isStar 13 = .ok (.iconst 0, 1) := by decide +kernel
theorem dX11_isStar_14 : decode cX11_isStar 14 = .ok (.ireturn, 1) := by decide +kernel
theorem dX11_isKind_0 : decode cX11_isKind 0 = .ok (.iload_n 0, 1) := by decide +kernel
theorem dX11_isKind_1 : decode cX11_isKind 1 = .ok (.ifCond .lt 13, 3) := by decide +kernel
theorem dX11_isKind_4 : decode cX11_isKind 4 = .ok (.iload_n 0, 1) := by decide +kernel
theorem dX11_isKind_5 : decode cX11_isKind 5 = .ok (.bipush 6, 2) := by decide +kernel
theorem dX11_isKind_7 : decode cX11_isKind 7 = .ok (.if_icmp .ge 7, 3) := by decide +kernel
theorem dX11_isKind_10 : decode cX11_isKind 10 = .ok (.iconst 1, 1) := by decide +kernel
theorem dX11_isKind_11 : decode cX11_isKind 11 = .ok (.goto 4, 3) := by decide +kernel
theorem dX11_isKind_14 : decode cX11_isKind 14 = .ok (.iconst 0, 1) := by decide +kernel
theorem dX11_isKind_15 : decode cX11_isKind 15 = .ok (.ireturn, 1) := by decide +kernel
theorem dX11_isChain_0 : decode cX11_isChain 0 = .ok (.iload_n 0, 1) := by decide +kernel
theorem dX11_isChain_1 : decode cX11_isChain 1 = .ok (.ifCond .lt 12, 3) := by decide +kernel
theorem dX11_isChain_4 : decode cX11_isChain 4 = .ok (.iload_n 0, 1) := by decide +kernel
theorem dX11_isChain_5 : decode cX11_isChain 5 = .ok (.iconst 5, 1) := by decide +kernel
theorem dX11_isChain_6 : decode cX11_isChain 6 = .ok (.if_icmp .ge 7, 3) := by decide +kernel
theorem dX11_isChain_9 : decode cX11_isChain 9 = .ok (.iconst 1, 1) := by decide +kernel
theorem dX11_isChain_10 : decode cX11_isChain 10 = .ok (.goto 4, 3) := by decide +kernel
theorem dX11_isChain_13 : decode cX11_isChain 13 = .ok (.iconst 0, 1) := by decide +kernel
theorem dX11_isChain_14 : decode cX11_isChain 14 = .ok (.ireturn, 1) := by decide +kernel
theorem dX11_isShell_0 : decode cX11_isShell 0 = .ok (.iload_n 1, 1) := by decide +kernel
theorem dX11_isShell_1 : decode cX11_isShell 1 = .ok (.invokestatic 142, 3) := by decide +kernel
theorem dX11_isShell_4 : decode cX11_isShell 4 = .ok (.ifCond .eq 27, 3) := by decide +kernel
theorem dX11_isShell_7 : decode cX11_isShell 7 = .ok (.iload_n 2, 1) := by decide +kernel
theorem dX11_isShell_8 : decode cX11_isShell 8 = .ok (.ifCond .lt 23, 3) := by decide +kernel
theorem dX11_isShell_11 : decode cX11_isShell 11 = .ok (.iload_n 2, 1) := by decide +kernel
theorem dX11_isShell_12 : decode cX11_isShell 12 = .ok (.aload_n 0, 1) := by decide +kernel
theorem dX11_isShell_13 : decode cX11_isShell 13 = .ok (.getfield 35, 3) := by decide +kernel
theorem dX11_isShell_16 : decode cX11_isShell 16 = .ok (.getfield 145, 3) := by decide +kernel
theorem dX11_isShell_19 : decode cX11_isShell 19 = .ok (.iload_n 1, 1) := by decide +kernel
theorem dX11_isShell_20 : decode cX11_isShell 20 = .ok (.aaload, 1) := by decide +kernel
theorem dX11_isShell_21 : decode cX11_isShell 21 = .ok (.getfield 149, 3) := by decide +kernel
theorem dX11_isShell_24 : decode cX11_isShell 24 = .ok (.if_icmp .ge 7, 3) := by decide +kernel
theorem dX11_isShell_27 : decode cX11_isShell 27 = .ok (.iconst 1, 1) := by decide +kernel
theorem dX11_isShell_28 : decode cX11_isShell 28 = .ok (.goto 4, 3) := by decide +kernel
theorem dX11_isShell_31 : decode cX11_isShell 31 = .ok (.iconst 0, 1) := by decide +kernel
theorem dX11_isShell_32 : decode cX11_isShell 32 = .ok (.ireturn, 1) := by decide +kernel
theorem dX11_cut_0 : decode cX11_cut 0 = .ok (.iload_n 1, 1) := by decide +kernel
theorem dX11_cut_1 : decode cX11_cut 1 = .ok (.ifCond .le 9, 3) := by decide +kernel
theorem dX11_cut_4 : decode cX11_cut 4 = .ok (.iload_n 0, 1) := by decide +kernel
theorem dX11_cut_5 : decode cX11_cut 5 = .ok (.iload_n 1, 1) := by decide +kernel
theorem dX11_cut_6 : decode cX11_cut 6 = .ok (.idiv, 1) := by decide +kernel
theorem dX11_cut_7 : decode cX11_cut 7 = .ok (.goto 4, 3) := by decide +kernel
theorem dX11_cut_10 : decode cX11_cut 10 = .ok (.iconst 0, 1) := by decide +kernel
theorem dX11_cut_11 : decode cX11_cut 11 = .ok (.ireturn, 1) := by decide +kernel
theorem dX11_lawsNow_0 : decode cX11_lawsNow 0 = .ok (.aload_n 0, 1) := by decide +kernel
theorem dX11_lawsNow_1 : decode cX11_lawsNow 1 = .ok (.getfield 27, 3) := by decide +kernel
theorem dX11_lawsNow_4 : decode cX11_lawsNow 4 = .ok (.aload_n 0, 1) := by decide +kernel
theorem dX11_lawsNow_5 : decode cX11_lawsNow 5 = .ok (.getfield 35, 3) := by decide +kernel
theorem dX11_lawsNow_8 : decode cX11_lawsNow 8 = .ok (.getfield 104, 3) := by decide +kernel
theorem dX11_lawsNow_11 : decode cX11_lawsNow 11 = .ok (.aaload, 1) := by decide +kernel
theorem dX11_lawsNow_12 : decode cX11_lawsNow 12 = .ok (.areturn, 1) := by decide +kernel
theorem dX11_enter_0 : decode cX11_enter 0 = .ok (.aload_n 0, 1) := by decide +kernel
theorem dX11_enter_1 : decode cX11_enter 1 = .ok (.getfield 66, 3) := by decide +kernel
theorem dX11_enter_4 : decode cX11_enter 4 = .ok (.aload_n 0, 1) := by decide +kernel
theorem dX11_enter_5 : decode cX11_enter 5 = .ok (.getfield 35, 3) := by decide +kernel
theorem dX11_enter_8 : decode cX11_enter 8 = .ok (.getfield 145, 3) := by decide +kernel
theorem dX11_enter_11 : decode cX11_enter 11 = .ok (.iload_n 1, 1) := by decide +kernel
theorem dX11_enter_12 : decode cX11_enter 12 = .ok (.aaload, 1) := by decide +kernel
theorem dX11_enter_13 : decode cX11_enter 13 = .ok (.aload_n 0, 1) := by decide +kernel
theorem dX11_enter_14 : decode cX11_enter 14 = .ok (.invokevirtual 121, 3) := by decide +kernel
theorem dX11_enter_17 : decode cX11_enter 17 = .ok (.aload_n 0, 1) := by decide +kernel
theorem dX11_enter_18 : decode cX11_enter 18 = .ok (.getfield 35, 3) := by decide +kernel
theorem dX11_enter_21 : decode cX11_enter 21 = .ok (.getfield 145, 3) := by decide +kernel
theorem dX11_enter_24 : decode cX11_enter 24 = .ok (.iload_n 1, 1) := by decide +kernel
theorem dX11_enter_25 : decode cX11_enter 25 = .ok (.aaload, 1) := by decide +kernel
theorem dX11_enter_26 : decode cX11_enter 26 = .ok (.getfield 167, 3) := by decide +kernel
theorem dX11_enter_29 : decode cX11_enter 29 = .ok (.invokevirtual 300, 3) := by decide +kernel
theorem dX11_enter_32 : decode cX11_enter 32 = .ok (.return_, 1) := by decide +kernel
theorem dX11_hear_0 : decode cX11_hear 0 = .ok (.iload_n 1, 1) := by decide +kernel
theorem dX11_hear_1 : decode cX11_hear 1 = .ok (.invokestatic 142, 3) := by decide +kernel
theorem dX11_hear_4 : decode cX11_hear 4 = .ok (.ifCond .ne 5, 3) := by decide +kernel
theorem dX11_hear_7 : decode cX11_hear 7 = .ok (.iconst 0, 1) := by decide +kernel
theorem dX11_hear_8 : decode cX11_hear 8 = .ok (.ireturn, 1) := by decide +kernel
theorem dX11_hear_9 : decode cX11_hear 9 = .ok (.aload_n 0, 1) := by decide +kernel
theorem dX11_hear_10 : decode cX11_hear 10 = .ok (.iload_n 1, 1) := by decide +kernel
theorem dX11_hear_11 : decode cX11_hear 11 = .ok (.invokevirtual 173, 3) := by decide +kernel
theorem dX11_hear_14 : decode cX11_hear 14 = .ok (.aload_n 0, 1) := by decide +kernel
theorem dX11_hear_15 : decode cX11_hear 15 = .ok (.getfield 66, 3) := by decide +kernel
theorem dX11_hear_18 : decode cX11_hear 18 = .ok (.getfield 223, 3) := by decide +kernel
theorem dX11_hear_21 : decode cX11_hear 21 = .ok (.ifCond .le 21, 3) := by decide +kernel
theorem dX11_hear_24 : decode cX11_hear 24 = .ok (.aload_n 0, 1) := by decide +kernel
theorem dX11_hear_25 : decode cX11_hear 25 = .ok (.getfield 73, 3) := by decide +kernel
theorem dX11_hear_28 : decode cX11_hear 28 = .ok (.aload_n 0, 1) := by decide +kernel
theorem dX11_hear_29 : decode cX11_hear 29 = .ok (.getfield 66, 3) := by decide +kernel
theorem dX11_hear_32 : decode cX11_hear 32 = .ok (.invokevirtual 304, 3) := by decide +kernel
theorem dX11_hear_35 : decode cX11_hear 35 = .ok (.ifCond .eq 7, 3) := by decide +kernel
theorem dX11_hear_38 : decode cX11_hear 38 = .ok (.iconst 1, 1) := by decide +kernel
theorem dX11_hear_39 : decode cX11_hear 39 = .ok (.goto 4, 3) := by decide +kernel
theorem dX11_hear_42 : decode cX11_hear 42 = .ok (.iconst 0, 1) := by decide +kernel
theorem dX11_hear_43 : decode cX11_hear 43 = .ok (.ireturn, 1) := by decide +kernel
theorem dX11_sawLight_0 : decode cX11_sawLight 0 = .ok (.iconst 0, 1) := by decide +kernel
theorem dX11_sawLight_1 : decode cX11_sawLight 1 = .ok (.istore_n 2, 1) := by decide +kernel
theorem dX11_sawLight_2 : decode cX11_sawLight 2 = .ok (.iload_n 2, 1) := by decide +kernel
theorem dX11_sawLight_3 : decode cX11_sawLight 3 = .ok (.aload_n 0, 1) := by decide +kernel
theorem dX11_sawLight_4 : decode cX11_sawLight 4 = .ok (.getfield 35, 3) := by decide +kernel
theorem dX11_sawLight_7 : decode cX11_sawLight 7 = .ok (.getfield 272, 3) := by decide +kernel
theorem dX11_sawLight_10 : decode cX11_sawLight 10 = .ok (.if_icmp .ge 37, 3) := by decide +kernel
theorem dX11_sawLight_13 : decode cX11_sawLight 13 = .ok (.aload_n 0, 1) := by decide +kernel
theorem dX11_sawLight_14 : decode cX11_sawLight 14 = .ok (.getfield 52, 3) := by decide +kernel
theorem dX11_sawLight_17 : decode cX11_sawLight 17 = .ok (.getfield 274, 3) := by decide +kernel
theorem dX11_sawLight_20 : decode cX11_sawLight 20 = .ok (.iload_n 2, 1) := by decide +kernel
theorem dX11_sawLight_21 : decode cX11_sawLight 21 = .ok (.iaload, 1) := by decide +kernel
theorem dX11_sawLight_22 : decode cX11_sawLight 22 = .ok (.iload_n 1, 1) := by decide +kernel
theorem dX11_sawLight_23 : decode cX11_sawLight 23 = .ok (.if_icmp .ne 18, 3) := by decide +kernel
theorem dX11_sawLight_26 : decode cX11_sawLight 26 = .ok (.aload_n 0, 1) := by decide +kernel
theorem dX11_sawLight_27 : decode cX11_sawLight 27 = .ok (.getfield 52, 3) := by decide +kernel
theorem dX11_sawLight_30 : decode cX11_sawLight 30 = .ok (.getfield 276, 3) := by decide +kernel
theorem dX11_sawLight_33 : decode cX11_sawLight 33 = .ok (.iload_n 2, 1) := by decide +kernel
theorem dX11_sawLight_34 : decode cX11_sawLight 34 = .ok (.iaload, 1) := by decide +kernel
theorem dX11_sawLight_35 : decode cX11_sawLight 35 = .ok (.iconst (-1), 1) := by decide +kernel
theorem dX11_sawLight_36 : decode cX11_sawLight 36 = .ok (.if_icmp .ne 5, 3) := by decide +kernel
theorem dX11_sawLight_39 : decode cX11_sawLight 39 = .ok (.iconst 1, 1) := by decide +kernel
theorem dX11_sawLight_40 : decode cX11_sawLight 40 = .ok (.ireturn, 1) := by decide +kernel
theorem dX11_sawLight_41 : decode cX11_sawLight 41 = .ok (.iinc 2 1, 3) := by decide +kernel
theorem dX11_sawLight_44 : decode cX11_sawLight 44 = .ok (.goto (-42), 3) := by decide +kernel
theorem dX11_sawLight_47 : decode cX11_sawLight 47 = .ok (.iconst 0, 1) := by decide +kernel
theorem dX11_sawLight_48 : decode cX11_sawLight 48 = .ok (.ireturn, 1) := by decide +kernel
theorem dX11_fitsWith_0 : decode cX11_fitsWith 0 = .ok (.aload_n 0, 1) := by decide +kernel
theorem dX11_fitsWith_1 : decode cX11_fitsWith 1 = .ok (.getfield 66, 3) := by decide +kernel
theorem dX11_fitsWith_4 : decode cX11_fitsWith 4 = .ok (.aload_n 0, 1) := by decide +kernel
theorem dX11_fitsWith_5 : decode cX11_fitsWith 5 = .ok (.getfield 35, 3) := by decide +kernel
theorem dX11_fitsWith_8 : decode cX11_fitsWith 8 = .ok (.getfield 145, 3) := by decide +kernel
theorem dX11_fitsWith_11 : decode cX11_fitsWith 11 = .ok (.iload_n 1, 1) := by decide +kernel
theorem dX11_fitsWith_12 : decode cX11_fitsWith 12 = .ok (.aaload, 1) := by decide +kernel
theorem dX11_fitsWith_13 : decode cX11_fitsWith 13 = .ok (.aload_n 0, 1) := by decide +kernel
theorem dX11_fitsWith_14 : decode cX11_fitsWith 14 = .ok (.invokevirtual 121, 3) := by decide +kernel
theorem dX11_fitsWith_17 : decode cX11_fitsWith 17 = .ok (.iload_n 2, 1) := by decide +kernel
theorem dX11_fitsWith_18 : decode cX11_fitsWith 18 = .ok (.invokevirtual 300, 3) := by decide +kernel
theorem dX11_fitsWith_21 : decode cX11_fitsWith 21 = .ok (.aload_n 0, 1) := by decide +kernel
theorem dX11_fitsWith_22 : decode cX11_fitsWith 22 = .ok (.getfield 66, 3) := by decide +kernel
theorem dX11_fitsWith_25 : decode cX11_fitsWith 25 = .ok (.getfield 223, 3) := by decide +kernel
theorem dX11_fitsWith_28 : decode cX11_fitsWith 28 = .ok (.ifCond .ne 5, 3) := by decide +kernel
theorem dX11_fitsWith_31 : decode cX11_fitsWith 31 = .ok (.iconst 0, 1) := by decide +kernel
theorem dX11_fitsWith_32 : decode cX11_fitsWith 32 = .ok (.ireturn, 1) := by decide +kernel
theorem dX11_fitsWith_33 : decode cX11_fitsWith 33 = .ok (.iload_n 3, 1) := by decide +kernel
theorem dX11_fitsWith_34 : decode cX11_fitsWith 34 = .ok (.ifCond .eq 23, 3) := by decide +kernel
theorem dX11_fitsWith_37 : decode cX11_fitsWith 37 = .ok (.aload_n 0, 1) := by decide +kernel
theorem dX11_fitsWith_38 : decode cX11_fitsWith 38 = .ok (.getfield 66, 3) := by decide +kernel
theorem dX11_fitsWith_41 : decode cX11_fitsWith 41 = .ok (.aload_n 0, 1) := by decide +kernel
theorem dX11_fitsWith_42 : decode cX11_fitsWith 42 = .ok (.getfield 35, 3) := by decide +kernel
theorem dX11_fitsWith_45 : decode cX11_fitsWith 45 = .ok (.getfield 145, 3) := by decide +kernel
theorem dX11_fitsWith_48 : decode cX11_fitsWith 48 = .ok (.iload_n 1, 1) := by decide +kernel
theorem dX11_fitsWith_49 : decode cX11_fitsWith 49 = .ok (.aaload, 1) := by decide +kernel
theorem dX11_fitsWith_50 : decode cX11_fitsWith 50 = .ok (.aload_n 0, 1) := by decide +kernel
theorem dX11_fitsWith_51 : decode cX11_fitsWith 51 = .ok (.invokevirtual 121, 3) := by decide +kernel
theorem dX11_fitsWith_54 : decode cX11_fitsWith 54 = .ok (.invokevirtual 189, 3) := by decide +kernel
theorem dX11_fitsWith_57 : decode cX11_fitsWith 57 = .ok (.aload_n 0, 1) := by decide +kernel
theorem dX11_fitsWith_58 : decode cX11_fitsWith 58 = .ok (.getfield 73, 3) := by decide +kernel
theorem dX11_fitsWith_61 : decode cX11_fitsWith 61 = .ok (.aload_n 0, 1) := by decide +kernel
theorem dX11_fitsWith_62 : decode cX11_fitsWith 62 = .ok (.getfield 66, 3) := by decide +kernel
theorem dX11_fitsWith_65 : decode cX11_fitsWith 65 = .ok (.invokevirtual 304, 3) := by decide +kernel
theorem dX11_fitsWith_68 : decode cX11_fitsWith 68 = .ok (.istore 4, 2) := by decide +kernel
theorem dX11_fitsWith_70 : decode cX11_fitsWith 70 = .ok (.iconst 0, 1) := by decide +kernel
theorem dX11_fitsWith_71 : decode cX11_fitsWith 71 = .ok (.istore 5, 2) := by decide +kernel
theorem dX11_fitsWith_73 : decode cX11_fitsWith 73 = .ok (.iload 5, 2) := by decide +kernel
theorem dX11_fitsWith_75 : decode cX11_fitsWith 75 = .ok (.aload_n 0, 1) := by decide +kernel
theorem dX11_fitsWith_76 : decode cX11_fitsWith 76 = .ok (.getfield 35, 3) := by decide +kernel
theorem dX11_fitsWith_79 : decode cX11_fitsWith 79 = .ok (.getfield 272, 3) := by decide +kernel
theorem dX11_fitsWith_82 : decode cX11_fitsWith 82 = .ok (.if_icmp .ge 36, 3) := by decide +kernel
theorem dX11_fitsWith_85 : decode cX11_fitsWith 85 = .ok (.aload_n 0, 1) := by decide +kernel
theorem dX11_fitsWith_86 : decode cX11_fitsWith 86 = .ok (.getfield 52, 3) := by decide +kernel
theorem dX11_fitsWith_89 : decode cX11_fitsWith 89 = .ok (.getfield 274, 3) := by decide +kernel
theorem dX11_fitsWith_92 : decode cX11_fitsWith 92 = .ok (.iload 5, 2) := by decide +kernel
theorem dX11_fitsWith_94 : decode cX11_fitsWith 94 = .ok (.iaload, 1) := by decide +kernel
theorem dX11_fitsWith_95 : decode cX11_fitsWith 95 = .ok (.iload_n 1, 1) := by decide +kernel
theorem dX11_fitsWith_96 : decode cX11_fitsWith 96 = .ok (.if_icmp .ne 16, 3) := by decide +kernel
theorem dX11_fitsWith_99 : decode cX11_fitsWith 99 = .ok (.aload_n 0, 1) := by decide +kernel
theorem dX11_fitsWith_100 : decode cX11_fitsWith 100 = .ok (.iload 5, 2) := by decide +kernel
theorem dX11_fitsWith_102 : decode cX11_fitsWith 102 = .ok (.iload 4, 2) := by decide +kernel
theorem dX11_fitsWith_104 : decode cX11_fitsWith 104 = .ok (.invokevirtual 308, 3) := by decide +kernel
theorem dX11_fitsWith_107 : decode cX11_fitsWith 107 = .ok (.ifCond .ne 5, 3) := by decide +kernel
theorem dX11_fitsWith_110 : decode cX11_fitsWith 110 = .ok (.iconst 0, 1) := by decide +kernel
theorem dX11_fitsWith_111 : decode cX11_fitsWith 111 = .ok (.ireturn, 1) := by decide +kernel
theorem dX11_fitsWith_112 : decode cX11_fitsWith 112 = .ok (.iinc 5 1, 3) := by decide +kernel
theorem dX11_fitsWith_115 : decode cX11_fitsWith 115 = .ok (.goto (-42), 3) := by decide +kernel
theorem dX11_fitsWith_118 : decode cX11_fitsWith 118 = .ok (.iconst 1, 1) := by decide +kernel
theorem dX11_fitsWith_119 : decode cX11_fitsWith 119 = .ok (.ireturn, 1) := by decide +kernel
theorem dX11_agrees_0 : decode cX11_agrees 0 = .ok (.aload_n 0, 1) := by decide +kernel
theorem dX11_agrees_1 : decode cX11_agrees 1 = .ok (.getfield 52, 3) := by decide +kernel
theorem dX11_agrees_4 : decode cX11_agrees 4 = .ok (.getfield 278, 3) := by decide +kernel
theorem dX11_agrees_7 : decode cX11_agrees 7 = .ok (.iload_n 1, 1) := by decide +kernel
theorem dX11_agrees_8 : decode cX11_agrees 8 = .ok (.iaload, 1) := by decide +kernel
theorem dX11_agrees_9 : decode cX11_agrees 9 = .ok (.istore_n 3, 1) := by decide +kernel
theorem dX11_agrees_10 : decode cX11_agrees 10 = .ok (.aload_n 0, 1) := by decide +kernel
theorem dX11_agrees_11 : decode cX11_agrees 11 = .ok (.getfield 52, 3) := by decide +kernel
theorem dX11_agrees_14 : decode cX11_agrees 14 = .ok (.getfield 281, 3) := by decide +kernel
theorem dX11_agrees_17 : decode cX11_agrees 17 = .ok (.iload_n 1, 1) := by decide +kernel
theorem dX11_agrees_18 : decode cX11_agrees 18 = .ok (.iaload, 1) := by decide +kernel
theorem dX11_agrees_19 : decode cX11_agrees 19 = .ok (.istore 4, 2) := by decide +kernel
theorem dX11_agrees_21 : decode cX11_agrees 21 = .ok (.aload_n 0, 1) := by decide +kernel
theorem dX11_agrees_22 : decode cX11_agrees 22 = .ok (.getfield 52, 3) := by decide +kernel
theorem dX11_agrees_25 : decode cX11_agrees 25 = .ok (.getfield 276, 3) := by decide +kernel
theorem dX11_agrees_28 : decode cX11_agrees 28 = .ok (.iload_n 1, 1) := by decide +kernel
theorem dX11_agrees_29 : decode cX11_agrees 29 = .ok (.iaload, 1) := by decide +kernel
theorem dX11_agrees_30 : decode cX11_agrees 30 = .ok (.istore 5, 2) := by decide +kernel
theorem dX11_agrees_32 : decode cX11_agrees 32 = .ok (.iload 5, 2) := by decide +kernel
theorem dX11_agrees_34 : decode cX11_agrees 34 = .ok (.iconst (-1), 1) := by decide +kernel
theorem dX11_agrees_35 : decode cX11_agrees 35 = .ok (.if_icmp .ne 58, 3) := by decide +kernel
theorem dX11_agrees_38 : decode cX11_agrees 38 = .ok (.aload_n 0, 1) := by decide +kernel
theorem dX11_agrees_39 : decode cX11_agrees 39 = .ok (.getfield 66, 3) := by decide +kernel
theorem dX11_agrees_42 : decode cX11_agrees 42 = .ok (.getfield 312, 3) := by decide +kernel
theorem dX11_agrees_45 : decode cX11_agrees 45 = .ok (.iconst 1, 1) := by decide +kernel
theorem dX11_agrees_46 : decode cX11_agrees 46 = .ok (.isub, 1) := by decide +kernel
theorem dX11_agrees_47 : decode cX11_agrees 47 = .ok (.istore 6, 2) := by decide +kernel
theorem dX11_agrees_49 : decode cX11_agrees 49 = .ok (.iload 6, 2) := by decide +kernel
theorem dX11_agrees_51 : decode cX11_agrees 51 = .ok (.ifCond .lt 40, 3) := by decide +kernel
theorem dX11_agrees_54 : decode cX11_agrees 54 = .ok (.aload_n 0, 1) := by decide +kernel
theorem dX11_agrees_55 : decode cX11_agrees 55 = .ok (.getfield 66, 3) := by decide +kernel
theorem dX11_agrees_58 : decode cX11_agrees 58 = .ok (.getfield 220, 3) := by decide +kernel
theorem dX11_agrees_61 : decode cX11_agrees 61 = .ok (.iload 6, 2) := by decide +kernel
theorem dX11_agrees_63 : decode cX11_agrees 63 = .ok (.laload, 1) := by decide +kernel
theorem dX11_agrees_64 : decode cX11_agrees 64 = .ok (.iload 4, 2) := by decide +kernel
theorem dX11_agrees_66 : decode cX11_agrees 66 = .ok (.i2l, 1) := by decide +kernel
theorem dX11_agrees_67 : decode cX11_agrees 67 = .ok (.lcmp, 1) := by decide +kernel
theorem dX11_agrees_68 : decode cX11_agrees 68 = .ok (.ifCond .gt 23, 3) := by decide +kernel
theorem dX11_agrees_71 : decode cX11_agrees 71 = .ok (.aload_n 0, 1) := by decide +kernel
theorem dX11_agrees_72 : decode cX11_agrees 72 = .ok (.getfield 66, 3) := by decide +kernel
theorem dX11_agrees_75 : decode cX11_agrees 75 = .ok (.getfield 217, 3) := by decide +kernel
theorem dX11_agrees_78 : decode cX11_agrees 78 = .ok (.iload 6, 2) := by decide +kernel
theorem dX11_agrees_80 : decode cX11_agrees 80 = .ok (.laload, 1) := by decide +kernel
theorem dX11_agrees_81 : decode cX11_agrees 81 = .ok (.iload_n 3, 1) := by decide +kernel
theorem dX11_agrees_82 : decode cX11_agrees 82 = .ok (.i2l, 1) := by decide +kernel
theorem dX11_agrees_83 : decode cX11_agrees 83 = .ok (.lcmp, 1) := by decide +kernel
theorem dX11_agrees_84 : decode cX11_agrees 84 = .ok (.ifCond .lt 7, 3) := by decide +kernel
theorem dX11_agrees_87 : decode cX11_agrees 87 = .ok (.iconst 1, 1) := by decide +kernel
theorem dX11_agrees_88 : decode cX11_agrees 88 = .ok (.goto 4, 3) := by decide +kernel
theorem dX11_agrees_91 : decode cX11_agrees 91 = .ok (.iconst 0, 1) := by decide +kernel
theorem dX11_agrees_92 : decode cX11_agrees 92 = .ok (.ireturn, 1) := by decide +kernel
theorem dX11_agrees_93 : decode cX11_agrees 93 = .ok (.iload_n 2, 1) := by decide +kernel
theorem dX11_agrees_94 : decode cX11_agrees 94 = .ok (.ifCond .eq 15, 3) := by decide +kernel
theorem dX11_agrees_97 : decode cX11_agrees 97 = .ok (.aload_n 0, 1) := by decide +kernel
theorem dX11_agrees_98 : decode cX11_agrees 98 = .ok (.getfield 73, 3) := by decide +kernel
theorem dX11_agrees_101 : decode cX11_agrees 101 = .ok (.iload 5, 2) := by decide +kernel
theorem dX11_agrees_103 : decode cX11_agrees 103 = .ok (.invokevirtual 268, 3) := by decide +kernel
theorem dX11_agrees_106 : decode cX11_agrees 106 = .ok (.goto 4, 3) := by decide +kernel
theorem dX11_agrees_109 : decode cX11_agrees 109 = .ok (.iconst (-1), 1) := by decide +kernel
theorem dX11_agrees_110 : decode cX11_agrees 110 = .ok (.istore 6, 2) := by decide +kernel
theorem dX11_agrees_112 : decode cX11_agrees 112 = .ok (.iload 6, 2) := by decide +kernel
theorem dX11_agrees_114 : decode cX11_agrees 114 = .ok (.iload_n 3, 1) := by decide +kernel
theorem dX11_agrees_115 : decode cX11_agrees 115 = .ok (.if_icmp .lt 14, 3) := by decide +kernel
theorem dX11_agrees_118 : decode cX11_agrees 118 = .ok (.iload 6, 2) := by decide +kernel
theorem dX11_agrees_120 : decode cX11_agrees 120 = .ok (.iload 4, 2) := by decide +kernel
theorem dX11_agrees_122 : decode cX11_agrees 122 = .ok (.if_icmp .gt 7, 3) := by decide +kernel
theorem dX11_agrees_125 : decode cX11_agrees 125 = .ok (.iconst 1, 1) := by decide +kernel
theorem dX11_agrees_126 : decode cX11_agrees 126 = .ok (.goto 4, 3) := by decide +kernel
theorem dX11_agrees_129 : decode cX11_agrees 129 = .ok (.iconst 0, 1) := by decide +kernel
theorem dX11_agrees_130 : decode cX11_agrees 130 = .ok (.ireturn, 1) := by decide +kernel
theorem dX11_makeStep_0 : decode cX11_makeStep 0 = .ok (.aload_n 0, 1) := by decide +kernel
theorem dX11_makeStep_1 : decode cX11_makeStep 1 = .ok (.getfield 35, 3) := by decide +kernel
theorem dX11_makeStep_4 : decode cX11_makeStep 4 = .ok (.getfield 294, 3) := by decide +kernel
theorem dX11_makeStep_7 : decode cX11_makeStep 7 = .ok (.sipush 300, 3) := by decide +kernel
theorem dX11_makeStep_10 : decode cX11_makeStep 10 = .ok (.if_icmp .lt 5, 3) := by decide +kernel
theorem dX11_makeStep_13 : decode cX11_makeStep 13 = .ok (.iconst 0, 1) := by decide +kernel
theorem dX11_makeStep_14 : decode cX11_makeStep 14 = .ok (.ireturn, 1) := by decide +kernel
theorem dX11_makeStep_15 : decode cX11_makeStep 15 = .ok (.aload_n 0, 1) := by decide +kernel
theorem dX11_makeStep_16 : decode cX11_makeStep 16 = .ok (.iload_n 1, 1) := by decide +kernel
theorem dX11_makeStep_17 : decode cX11_makeStep 17 = .ok (.invokevirtual 173, 3) := by decide +kernel
theorem dX11_makeStep_20 : decode cX11_makeStep 20 = .ok (.aload_n 0, 1) := by decide +kernel
theorem dX11_makeStep_21 : decode cX11_makeStep 21 = .ok (.getfield 66, 3) := by decide +kernel
theorem dX11_makeStep_24 : decode cX11_makeStep 24 = .ok (.getfield 223, 3) := by decide +kernel
theorem dX11_makeStep_27 : decode cX11_makeStep 27 = .ok (.ifCond .ne 5, 3) := by decide +kernel
theorem dX11_makeStep_30 : decode cX11_makeStep 30 = .ok (.iconst 0, 1) := by decide +kernel
theorem dX11_makeStep_31 : decode cX11_makeStep 31 = .ok (.ireturn, 1) := by decide +kernel
theorem dX11_makeStep_32 : decode cX11_makeStep 32 = .ok (.aload_n 0, 1) := by decide +kernel
theorem dX11_makeStep_33 : decode cX11_makeStep 33 = .ok (.getfield 35, 3) := by decide +kernel
theorem dX11_makeStep_36 : decode cX11_makeStep 36 = .ok (.getfield 145, 3) := by decide +kernel
theorem dX11_makeStep_39 : decode cX11_makeStep 39 = .ok (.iload_n 1, 1) := by decide +kernel
theorem dX11_makeStep_40 : decode cX11_makeStep 40 = .ok (.aaload, 1) := by decide +kernel
theorem dX11_makeStep_41 : decode cX11_makeStep 41 = .ok (.astore_n 2, 1) := by decide +kernel
theorem dX11_makeStep_42 : decode cX11_makeStep 42 = .ok (.aload_n 0, 1) := by decide +kernel
theorem dX11_makeStep_43 : decode cX11_makeStep 43 = .ok (.getfield 66, 3) := by decide +kernel
theorem dX11_makeStep_46 : decode cX11_makeStep 46 = .ok (.aload_n 2, 1) := by decide +kernel
theorem dX11_makeStep_47 : decode cX11_makeStep 47 = .ok (.aload_n 0, 1) := by decide +kernel
theorem dX11_makeStep_48 : decode cX11_makeStep 48 = .ok (.invokevirtual 121, 3) := by decide +kernel
theorem dX11_makeStep_51 : decode cX11_makeStep 51 = .ok (.invokevirtual 189, 3) := by decide +kernel
theorem dX11_makeStep_54 : decode cX11_makeStep 54 = .ok (.iconst 0, 1) := by decide +kernel
theorem dX11_makeStep_55 : decode cX11_makeStep 55 = .ok (.istore_n 3, 1) := by decide +kernel
theorem dX11_makeStep_56 : decode cX11_makeStep 56 = .ok (.iload_n 3, 1) := by decide +kernel
theorem dX11_makeStep_57 : decode cX11_makeStep 57 = .ok (.aload_n 2, 1) := by decide +kernel
theorem dX11_makeStep_58 : decode cX11_makeStep 58 = .ok (.getfield 149, 3) := by decide +kernel
theorem dX11_makeStep_61 : decode cX11_makeStep 61 = .ok (.if_icmp .ge 21, 3) := by decide +kernel
theorem dX11_makeStep_64 : decode cX11_makeStep 64 = .ok (.aload_n 0, 1) := by decide +kernel
theorem dX11_makeStep_65 : decode cX11_makeStep 65 = .ok (.aload_n 2, 1) := by decide +kernel
theorem dX11_makeStep_66 : decode cX11_makeStep 66 = .ok (.iload_n 3, 1) := by decide +kernel
theorem dX11_makeStep_67 : decode cX11_makeStep 67 = .ok (.invokevirtual 313, 3) := by decide +kernel
theorem dX11_makeStep_70 : decode cX11_makeStep 70 = .ok (.aload_n 0, 1) := by decide +kernel
theorem dX11_makeStep_71 : decode cX11_makeStep 71 = .ok (.iload_n 1, 1) := by decide +kernel
theorem dX11_makeStep_72 : decode cX11_makeStep 72 = .ok (.iload_n 3, 1) := by decide +kernel
theorem dX11_makeStep_73 : decode cX11_makeStep 73 = .ok (.invokevirtual 317, 3) := by decide +kernel
theorem dX11_makeStep_76 : decode cX11_makeStep 76 = .ok (.iinc 3 1, 3) := by decide +kernel
theorem dX11_makeStep_79 : decode cX11_makeStep 79 = .ok (.goto (-23), 3) := by decide +kernel
theorem dX11_makeStep_82 : decode cX11_makeStep 82 = .ok (.aload_n 0, 1) := by decide +kernel
theorem dX11_makeStep_83 : decode cX11_makeStep 83 = .ok (.aload_n 2, 1) := by decide +kernel
theorem dX11_makeStep_84 : decode cX11_makeStep 84 = .ok (.invokevirtual 321, 3) := by decide +kernel
theorem dX11_makeStep_87 : decode cX11_makeStep 87 = .ok (.aload_n 0, 1) := by decide +kernel
theorem dX11_makeStep_88 : decode cX11_makeStep 88 = .ok (.getfield 35, 3) := by decide +kernel
theorem dX11_makeStep_91 : decode cX11_makeStep 91 = .ok (.dup, 1) := by decide +kernel
theorem dX11_makeStep_92 : decode cX11_makeStep 92 = .ok (.getfield 294, 3) := by decide +kernel
theorem dX11_makeStep_95 : decode cX11_makeStep 95 = .ok (.iconst 1, 1) := by decide +kernel
theorem dX11_makeStep_96 : decode cX11_makeStep 96 = .ok (.iadd, 1) := by decide +kernel
theorem dX11_makeStep_97 : decode cX11_makeStep 97 = .ok (.putfield 294, 3) := by decide +kernel
theorem dX11_makeStep_100 : decode cX11_makeStep 100 = .ok (.iconst 1, 1) := by decide +kernel
theorem dX11_makeStep_101 : decode cX11_makeStep 101 = .ok (.ireturn, 1) := by decide +kernel
theorem dX11_burnShell_0 : decode cX11_burnShell 0 = .ok (.aload_n 0, 1) := by decide +kernel
theorem dX11_burnShell_1 : decode cX11_burnShell 1 = .ok (.invokevirtual 121, 3) := by decide +kernel
theorem dX11_burnShell_4 : decode cX11_burnShell 4 = .ok (.astore_n 3, 1) := by decide +kernel
theorem dX11_burnShell_5 : decode cX11_burnShell 5 = .ok (.iconst 0, 1) := by decide +kernel
theorem dX11_burnShell_6 : decode cX11_burnShell 6 = .ok (.istore 4, 2) := by decide +kernel
theorem dX11_burnShell_8 : decode cX11_burnShell 8 = .ok (.iload 4, 2) := by decide +kernel
theorem dX11_burnShell_10 : decode cX11_burnShell 10 = .ok (.bipush 6, 2) := by decide +kernel
theorem dX11_burnShell_12 : decode cX11_burnShell 12 = .ok (.if_icmp .ge 23, 3) := by decide +kernel
theorem dX11_burnShell_15 : decode cX11_burnShell 15 = .ok (.aload_n 0, 1) := by decide +kernel
theorem dX11_burnShell_16 : decode cX11_burnShell 16 = .ok (.getfield 77, 3) := by decide +kernel
theorem dX11_burnShell_19 : decode cX11_burnShell 19 = .ok (.iload 4, 2) := by decide +kernel
theorem dX11_burnShell_21 : decode cX11_burnShell 21 = .ok (.aload_n 1, 1) := by decide +kernel
theorem dX11_burnShell_22 : decode cX11_burnShell 22 = .ok (.iload_n 2, 1) := by decide +kernel
theorem dX11_burnShell_23 : decode cX11_burnShell 23 = .ok (.iload 4, 2) := by decide +kernel
theorem dX11_burnShell_25 : decode cX11_burnShell 25 = .ok (.invokevirtual 163, 3) := by decide +kernel
theorem dX11_burnShell_28 : decode cX11_burnShell 28 = .ok (.iastore, 1) := by decide +kernel
theorem dX11_burnShell_29 : decode cX11_burnShell 29 = .ok (.iinc 4 1, 3) := by decide +kernel
theorem dX11_burnShell_32 : decode cX11_burnShell 32 = .ok (.goto (-24), 3) := by decide +kernel
theorem dX11_burnShell_35 : decode cX11_burnShell 35 = .ok (.iconst 0, 1) := by decide +kernel
theorem dX11_burnShell_36 : decode cX11_burnShell 36 = .ok (.istore 4, 2) := by decide +kernel
theorem dX11_burnShell_38 : decode cX11_burnShell 38 = .ok (.iload 4, 2) := by decide +kernel
theorem dX11_burnShell_40 : decode cX11_burnShell 40 = .ok (.iconst 5, 1) := by decide +kernel
theorem dX11_burnShell_41 : decode cX11_burnShell 41 = .ok (.if_icmp .ge 63, 3) := by decide +kernel
theorem dX11_burnShell_44 : decode cX11_burnShell 44 = .ok (.aload_n 0, 1) := by decide +kernel
theorem dX11_burnShell_45 : decode cX11_burnShell 45 = .ok (.getfield 81, 3) := by decide +kernel
theorem dX11_burnShell_48 : decode cX11_burnShell 48 = .ok (.iload 4, 2) := by decide +kernel
theorem dX11_burnShell_50 : decode cX11_burnShell 50 = .ok (.lconst 0, 1) := by decide +kernel
theorem dX11_burnShell_51 : decode cX11_burnShell 51 = .ok (.lastore, 1) := by decide +kernel
theorem dX11_burnShell_52 : decode cX11_burnShell 52 = .ok (.aload_n 3, 1) := by decide +kernel
theorem dX11_burnShell_53 : decode cX11_burnShell 53 = .ok (.iload 4, 2) := by decide +kernel
theorem dX11_burnShell_55 : decode cX11_burnShell 55 = .ok (.invokevirtual 131, 3) := by decide +kernel
theorem dX11_burnShell_58 : decode cX11_burnShell 58 = .ok (.ifCond .eq 40, 3) := by decide +kernel
theorem dX11_burnShell_61 : decode cX11_burnShell 61 = .ok (.aload_n 3, 1) := by decide +kernel
theorem dX11_burnShell_62 : decode cX11_burnShell 62 = .ok (.iconst 2, 1) := by decide +kernel
theorem dX11_burnShell_63 : decode cX11_burnShell 63 = .ok (.iload 4, 2) := by decide +kernel
theorem dX11_burnShell_65 : decode cX11_burnShell 65 = .ok (.iadd, 1) := by decide +kernel
theorem dX11_burnShell_66 : decode cX11_burnShell 66 = .ok (.aload_n 0, 1) := by decide +kernel
theorem dX11_burnShell_67 : decode cX11_burnShell 67 = .ok (.getfield 66, 3) := by decide +kernel
theorem dX11_burnShell_70 : decode cX11_burnShell 70 = .ok (.getfield 183, 3) := by decide +kernel
theorem dX11_burnShell_73 : decode cX11_burnShell 73 = .ok (.iload_n 2, 1) := by decide +kernel
theorem dX11_burnShell_74 : decode cX11_burnShell 74 = .ok (.iaload, 1) := by decide +kernel
theorem dX11_burnShell_75 : decode cX11_burnShell 75 = .ok (.iconst 0, 1) := by decide +kernel
theorem dX11_burnShell_76 : decode cX11_burnShell 76 = .ok (.invokevirtual 138, 3) := by decide +kernel
theorem dX11_burnShell_79 : decode cX11_burnShell 79 = .ok (.istore 5, 2) := by decide +kernel
theorem dX11_burnShell_81 : decode cX11_burnShell 81 = .ok (.aload_n 0, 1) := by decide +kernel
theorem dX11_burnShell_82 : decode cX11_burnShell 82 = .ok (.getfield 81, 3) := by decide +kernel
theorem dX11_burnShell_85 : decode cX11_burnShell 85 = .ok (.iload 4, 2) := by decide +kernel
theorem dX11_burnShell_87 : decode cX11_burnShell 87 = .ok (.aload_n 1, 1) := by decide +kernel
theorem dX11_burnShell_88 : decode cX11_burnShell 88 = .ok (.iload_n 2, 1) := by decide +kernel
theorem dX11_burnShell_89 : decode cX11_burnShell 89 = .ok (.iload 4, 2) := by decide +kernel
theorem dX11_burnShell_91 : decode cX11_burnShell 91 = .ok (.aload_n 3, 1) := by decide +kernel
theorem dX11_burnShell_92 : decode cX11_burnShell 92 = .ok (.iload 5, 2) := by decide +kernel
theorem dX11_burnShell_94 : decode cX11_burnShell 94 = .ok (.invokevirtual 325, 3) := by decide +kernel
theorem dX11_burnShell_97 : decode cX11_burnShell 97 = .ok (.lastore, 1) := by decide +kernel
theorem dX11_burnShell_98 : decode cX11_burnShell 98 = .ok (.iinc 4 1, 3) := by decide +kernel
theorem dX11_burnShell_101 : decode cX11_burnShell 101 = .ok (.goto (-63), 3) := by decide +kernel
theorem dX11_burnShell_104 : decode cX11_burnShell 104 = .ok (.return_, 1) := by decide +kernel
theorem dX11_tellEvents_0 : decode cX11_tellEvents 0 = .ok (.aload_n 0, 1) := by decide +kernel
theorem dX11_tellEvents_1 : decode cX11_tellEvents 1 = .ok (.getfield 35, 3) := by decide +kernel
theorem dX11_tellEvents_4 : decode cX11_tellEvents 4 = .ok (.getfield 145, 3) := by decide +kernel
theorem dX11_tellEvents_7 : decode cX11_tellEvents 7 = .ok (.iload_n 1, 1) := by decide +kernel
theorem dX11_tellEvents_8 : decode cX11_tellEvents 8 = .ok (.aaload, 1) := by decide +kernel
theorem dX11_tellEvents_9 : decode cX11_tellEvents 9 = .ok (.astore_n 3, 1) := by decide +kernel
theorem dX11_tellEvents_10 : decode cX11_tellEvents 10 = .ok (.aload_n 0, 1) := by decide +kernel
theorem dX11_tellEvents_11 : decode cX11_tellEvents 11 = .ok (.invokevirtual 121, 3) := by decide +kernel
theorem dX11_tellEvents_14 : decode cX11_tellEvents 14 = .ok (.astore 4, 2) := by decide +kernel
theorem dX11_tellEvents_16 : decode cX11_tellEvents 16 = .ok (.iconst 0, 1) := by decide +kernel
theorem dX11_tellEvents_17 : decode cX11_tellEvents 17 = .ok (.istore 5, 2) := by decide +kernel
theorem dX11_tellEvents_19 : decode cX11_tellEvents 19 = .ok (.iload 5, 2) := by decide +kernel
theorem dX11_tellEvents_21 : decode cX11_tellEvents 21 = .ok (.iconst 5, 1) := by decide +kernel
theorem dX11_tellEvents_22 : decode cX11_tellEvents 22 = .ok (.if_icmp .ge 132, 3) := by decide +kernel
theorem dX11_tellEvents_25 : decode cX11_tellEvents 25 = .ok (.iload_n 2, 1) := by decide +kernel
theorem dX11_tellEvents_26 : decode cX11_tellEvents 26 = .ok (.iconst 5, 1) := by decide +kernel
theorem dX11_tellEvents_27 : decode cX11_tellEvents 27 = .ok (.imul, 1) := by decide +kernel
theorem dX11_tellEvents_28 : decode cX11_tellEvents 28 = .ok (.iload 5, 2) := by decide +kernel
theorem dX11_tellEvents_30 : decode cX11_tellEvents 30 = .ok (.iadd, 1) := by decide +kernel
theorem dX11_tellEvents_31 : decode cX11_tellEvents 31 = .ok (.istore 6, 2) := by decide +kernel
theorem dX11_tellEvents_33 : decode cX11_tellEvents 33 = .ok (.aload 4, 2) := by decide +kernel
theorem dX11_tellEvents_35 : decode cX11_tellEvents 35 = .ok (.iload 5, 2) := by decide +kernel
theorem dX11_tellEvents_37 : decode cX11_tellEvents 37 = .ok (.invokevirtual 131, 3) := by decide +kernel
theorem dX11_tellEvents_40 : decode cX11_tellEvents 40 = .ok (.ifCond .eq 56, 3) := by decide +kernel
theorem dX11_tellEvents_43 : decode cX11_tellEvents 43 = .ok (.aload 4, 2) := by decide +kernel
theorem dX11_tellEvents_45 : decode cX11_tellEvents 45 = .ok (.iload 5, 2) := by decide +kernel
theorem dX11_tellEvents_47 : decode cX11_tellEvents 47 = .ok (.iconst 0, 1) := by decide +kernel
theorem dX11_tellEvents_48 : decode cX11_tellEvents 48 = .ok (.invokevirtual 134, 3) := by decide +kernel
theorem dX11_tellEvents_51 : decode cX11_tellEvents 51 = .ok (.istore 7, 2) := by decide +kernel
theorem dX11_tellEvents_53 : decode cX11_tellEvents 53 = .ok (.aload 4, 2) := by decide +kernel
theorem dX11_tellEvents_55 : decode cX11_tellEvents 55 = .ok (.iload 5, 2) := by decide +kernel
theorem dX11_tellEvents_57 : decode cX11_tellEvents 57 = .ok (.iconst 1, 1) := by decide +kernel
theorem dX11_tellEvents_58 : decode cX11_tellEvents 58 = .ok (.invokevirtual 134, 3) := by decide +kernel
theorem dX11_tellEvents_61 : decode cX11_tellEvents 61 = .ok (.istore 8, 2) := by decide +kernel
theorem dX11_tellEvents_63 : decode cX11_tellEvents 63 = .ok (.aload_n 3, 1) := by decide +kernel
theorem dX11_tellEvents_64 : decode cX11_tellEvents 64 = .ok (.iload_n 2, 1) := by decide +kernel
theorem dX11_tellEvents_65 : decode cX11_tellEvents 65 = .ok (.iload 7, 2) := by decide +kernel
theorem dX11_tellEvents_67 : decode cX11_tellEvents 67 = .ok (.invokevirtual 163, 3) := by decide +kernel
theorem dX11_tellEvents_70 : decode cX11_tellEvents 70 = .ok (.iload 8, 2) := by decide +kernel
theorem dX11_tellEvents_72 : decode cX11_tellEvents 72 = .ok (.if_icmp .ge 24, 3) := by decide +kernel
theorem dX11_tellEvents_75 : decode cX11_tellEvents 75 = .ok (.aload_n 0, 1) := by decide +kernel
theorem dX11_tellEvents_76 : decode cX11_tellEvents 76 = .ok (.getfield 77, 3) := by decide +kernel
theorem dX11_tellEvents_79 : decode cX11_tellEvents 79 = .ok (.iload 7, 2) := by decide +kernel
theorem dX11_tellEvents_81 : decode cX11_tellEvents 81 = .ok (.iaload, 1) := by decide +kernel
theorem dX11_tellEvents_82 : decode cX11_tellEvents 82 = .ok (.iload 8, 2) := by decide +kernel
theorem dX11_tellEvents_84 : decode cX11_tellEvents 84 = .ok (.if_icmp .lt 12, 3) := by decide +kernel
theorem dX11_tellEvents_87 : decode cX11_tellEvents 87 = .ok (.aload_n 0, 1) := by decide +kernel
theorem dX11_tellEvents_88 : decode cX11_tellEvents 88 = .ok (.iload_n 1, 1) := by decide +kernel
theorem dX11_tellEvents_89 : decode cX11_tellEvents 89 = .ok (.iload_n 2, 1) := by decide +kernel
theorem dX11_tellEvents_90 : decode cX11_tellEvents 90 = .ok (.iload 5, 2) := by decide +kernel
theorem dX11_tellEvents_92 : decode cX11_tellEvents 92 = .ok (.iconst 0, 1) := by decide +kernel
theorem dX11_tellEvents_93 : decode cX11_tellEvents 93 = .ok (.invokevirtual 329, 3) := by decide +kernel
theorem dX11_tellEvents_96 : decode cX11_tellEvents 96 = .ok (.aload_n 0, 1) := by decide +kernel
theorem dX11_tellEvents_97 : decode cX11_tellEvents 97 = .ok (.getfield 81, 3) := by decide +kernel
theorem dX11_tellEvents_100 : decode cX11_tellEvents 100 = .ok (.iload 5, 2) := by decide +kernel
theorem dX11_tellEvents_102 : decode cX11_tellEvents 102 = .ok (.laload, 1) := by decide +kernel
theorem dX11_tellEvents_103 : decode cX11_tellEvents 103 = .ok (.lconst 0, 1) := by decide +kernel
theorem dX11_tellEvents_104 : decode cX11_tellEvents 104 = .ok (.lcmp, 1) := by decide +kernel
theorem dX11_tellEvents_105 : decode cX11_tellEvents 105 = .ok (.ifCond .le 7, 3) := by decide +kernel
theorem dX11_tellEvents_108 : decode cX11_tellEvents 108 = .ok (.iconst 1, 1) := by decide +kernel
theorem dX11_tellEvents_109 : decode cX11_tellEvents 109 = .ok (.goto 4, 3) := by decide +kernel
theorem dX11_tellEvents_112 : decode cX11_tellEvents 112 = .ok (.iconst 0, 1) := by decide +kernel
theorem dX11_tellEvents_113 : decode cX11_tellEvents 113 = .ok (.istore 7, 2) := by decide +kernel
theorem dX11_tellEvents_115 : decode cX11_tellEvents 115 = .ok (.iload 7, 2) := by decide +kernel
theorem dX11_tellEvents_117 : decode cX11_tellEvents 117 = .ok (.ifCond .eq 22, 3) := by decide +kernel
theorem dX11_tellEvents_120 : decode cX11_tellEvents 120 = .ok (.aload_n 3, 1) := by decide +kernel
theorem dX11_tellEvents_121 : decode cX11_tellEvents 121 = .ok (.getfield 333, 3) := by decide +kernel
theorem dX11_tellEvents_124 : decode cX11_tellEvents 124 = .ok (.iload 6, 2) := by decide +kernel
theorem dX11_tellEvents_126 : decode cX11_tellEvents 126 = .ok (.baload, 1) := by decide +kernel
theorem dX11_tellEvents_127 : decode cX11_tellEvents 127 = .ok (.ifCond .ne 12, 3) := by decide +kernel
theorem dX11_tellEvents_130 : decode cX11_tellEvents 130 = .ok (.aload_n 0, 1) := by decide +kernel
theorem dX11_tellEvents_131 : decode cX11_tellEvents 131 = .ok (.iload_n 1, 1) := by decide +kernel
theorem dX11_tellEvents_132 : decode cX11_tellEvents 132 = .ok (.iload_n 2, 1) := by decide +kernel
theorem dX11_tellEvents_133 : decode cX11_tellEvents 133 = .ok (.iload 5, 2) := by decide +kernel
theorem dX11_tellEvents_135 : decode cX11_tellEvents 135 = .ok (.iconst 1, 1) := by decide +kernel
theorem dX11_tellEvents_136 : decode cX11_tellEvents 136 = .ok (.invokevirtual 329, 3) := by decide +kernel
theorem dX11_tellEvents_139 : decode cX11_tellEvents 139 = .ok (.aload_n 3, 1) := by decide +kernel
theorem dX11_tellEvents_140 : decode cX11_tellEvents 140 = .ok (.getfield 333, 3) := by decide +kernel
theorem dX11_tellEvents_143 : decode cX11_tellEvents 143 = .ok (.iload 6, 2) := by decide +kernel
theorem dX11_tellEvents_145 : decode cX11_tellEvents 145 = .ok (.iload 7, 2) := by decide +kernel
theorem dX11_tellEvents_147 : decode cX11_tellEvents 147 = .ok (.bastore, 1) := by decide +kernel
theorem dX11_tellEvents_148 : decode cX11_tellEvents 148 = .ok (.iinc 5 1, 3) := by decide +kernel
theorem dX11_tellEvents_151 : decode cX11_tellEvents 151 = .ok (.goto (-132), 3) := by decide +kernel
theorem dX11_tellEvents_154 : decode cX11_tellEvents 154 = .ok (.return_, 1) := by decide +kernel
theorem dX11_keepEvent_0 : decode cX11_keepEvent 0 = .ok (.aload_n 0, 1) := by decide +kernel
theorem dX11_keepEvent_1 : decode cX11_keepEvent 1 = .ok (.getfield 35, 3) := by decide +kernel
theorem dX11_keepEvent_4 : decode cX11_keepEvent 4 = .ok (.getfield 229, 3) := by decide +kernel
theorem dX11_keepEvent_7 : decode cX11_keepEvent 7 = .ok (.sipush 200, 3) := by decide +kernel
theorem dX11_keepEvent_10 : decode cX11_keepEvent 10 = .ok (.if_icmp .lt 4, 3) := by decide +kernel
theorem dX11_keepEvent_13 : decode cX11_keepEvent 13 = .ok (.return_, 1) := by decide +kernel
theorem dX11_keepEvent_14 : decode cX11_keepEvent 14 = .ok (.aload_n 0, 1) := by decide +kernel
theorem dX11_keepEvent_15 : decode cX11_keepEvent 15 = .ok (.getfield 35, 3) := by decide +kernel
theorem dX11_keepEvent_18 : decode cX11_keepEvent 18 = .ok (.getfield 229, 3) := by decide +kernel
theorem dX11_keepEvent_21 : decode cX11_keepEvent 21 = .ok (.iconst 5, 1) := by decide +kernel
theorem dX11_keepEvent_22 : decode cX11_keepEvent 22 = .ok (.imul, 1) := by decide +kernel
theorem dX11_keepEvent_23 : decode cX11_keepEvent 23 = .ok (.istore 5, 2) := by decide +kernel
theorem dX11_keepEvent_25 : decode cX11_keepEvent 25 = .ok (.aload_n 0, 1) := by decide +kernel
theorem dX11_keepEvent_26 : decode cX11_keepEvent 26 = .ok (.getfield 45, 3) := by decide +kernel
theorem dX11_keepEvent_29 : decode cX11_keepEvent 29 = .ok (.getfield 231, 3) := by decide +kernel
theorem dX11_keepEvent_32 : decode cX11_keepEvent 32 = .ok (.iload 5, 2) := by decide +kernel
theorem dX11_keepEvent_34 : decode cX11_keepEvent 34 = .ok (.aload_n 0, 1) := by decide +kernel
theorem dX11_keepEvent_35 : decode cX11_keepEvent 35 = .ok (.getfield 35, 3) := by decide +kernel
theorem dX11_keepEvent_38 : decode cX11_keepEvent 38 = .ok (.getfield 294, 3) := by decide +kernel
theorem dX11_keepEvent_41 : decode cX11_keepEvent 41 = .ok (.iastore, 1) := by decide +kernel
theorem dX11_keepEvent_42 : decode cX11_keepEvent 42 = .ok (.aload_n 0, 1) := by decide +kernel
theorem dX11_keepEvent_43 : decode cX11_keepEvent 43 = .ok (.getfield 45, 3) := by decide +kernel
theorem dX11_keepEvent_46 : decode cX11_keepEvent 46 = .ok (.getfield 231, 3) := by decide +kernel
theorem dX11_keepEvent_49 : decode cX11_keepEvent 49 = .ok (.iload 5, 2) := by decide +kernel
theorem dX11_keepEvent_51 : decode cX11_keepEvent 51 = .ok (.iconst 1, 1) := by decide +kernel
theorem dX11_keepEvent_52 : decode cX11_keepEvent 52 = .ok (.iadd, 1) := by decide +kernel
theorem dX11_keepEvent_53 : decode cX11_keepEvent 53 = .ok (.iload_n 1, 1) := by decide +kernel
theorem dX11_keepEvent_54 : decode cX11_keepEvent 54 = .ok (.iastore, 1) := by decide +kernel
theorem dX11_keepEvent_55 : decode cX11_keepEvent 55 = .ok (.aload_n 0, 1) := by decide +kernel
theorem dX11_keepEvent_56 : decode cX11_keepEvent 56 = .ok (.getfield 45, 3) := by decide +kernel
theorem dX11_keepEvent_59 : decode cX11_keepEvent 59 = .ok (.getfield 231, 3) := by decide +kernel
theorem dX11_keepEvent_62 : decode cX11_keepEvent 62 = .ok (.iload 5, 2) := by decide +kernel
theorem dX11_keepEvent_64 : decode cX11_keepEvent 64 = .ok (.iconst 2, 1) := by decide +kernel
theorem dX11_keepEvent_65 : decode cX11_keepEvent 65 = .ok (.iadd, 1) := by decide +kernel
theorem dX11_keepEvent_66 : decode cX11_keepEvent 66 = .ok (.iload_n 2, 1) := by decide +kernel
theorem dX11_keepEvent_67 : decode cX11_keepEvent 67 = .ok (.iastore, 1) := by decide +kernel
theorem dX11_keepEvent_68 : decode cX11_keepEvent 68 = .ok (.aload_n 0, 1) := by decide +kernel
theorem dX11_keepEvent_69 : decode cX11_keepEvent 69 = .ok (.getfield 45, 3) := by decide +kernel
theorem dX11_keepEvent_72 : decode cX11_keepEvent 72 = .ok (.getfield 231, 3) := by decide +kernel
theorem dX11_keepEvent_75 : decode cX11_keepEvent 75 = .ok (.iload 5, 2) := by decide +kernel
theorem dX11_keepEvent_77 : decode cX11_keepEvent 77 = .ok (.iconst 3, 1) := by decide +kernel
theorem dX11_keepEvent_78 : decode cX11_keepEvent 78 = .ok (.iadd, 1) := by decide +kernel
theorem dX11_keepEvent_79 : decode cX11_keepEvent 79 = .ok (.iload_n 3, 1) := by decide +kernel
theorem dX11_keepEvent_80 : decode cX11_keepEvent 80 = .ok (.iastore, 1) := by decide +kernel
theorem dX11_keepEvent_81 : decode cX11_keepEvent 81 = .ok (.aload_n 0, 1) := by decide +kernel
theorem dX11_keepEvent_82 : decode cX11_keepEvent 82 = .ok (.getfield 45, 3) := by decide +kernel
theorem dX11_keepEvent_85 : decode cX11_keepEvent 85 = .ok (.getfield 231, 3) := by decide +kernel
theorem dX11_keepEvent_88 : decode cX11_keepEvent 88 = .ok (.iload 5, 2) := by decide +kernel
theorem dX11_keepEvent_90 : decode cX11_keepEvent 90 = .ok (.iconst 4, 1) := by decide +kernel
theorem dX11_keepEvent_91 : decode cX11_keepEvent 91 = .ok (.iadd, 1) := by decide +kernel
theorem dX11_keepEvent_92 : decode cX11_keepEvent 92 = .ok (.iload 4, 2) := by decide +kernel
theorem dX11_keepEvent_94 : decode cX11_keepEvent 94 = .ok (.iastore, 1) := by decide +kernel
theorem dX11_keepEvent_95 : decode cX11_keepEvent 95 = .ok (.aload_n 0, 1) := by decide +kernel
theorem dX11_keepEvent_96 : decode cX11_keepEvent 96 = .ok (.getfield 35, 3) := by decide +kernel
theorem dX11_keepEvent_99 : decode cX11_keepEvent 99 = .ok (.dup, 1) := by decide +kernel
theorem dX11_keepEvent_100 : decode cX11_keepEvent 100 = .ok (.getfield 229, 3) := by decide +kernel
theorem dX11_keepEvent_103 : decode cX11_keepEvent 103 = .ok (.iconst 1, 1) := by decide +kernel
theorem dX11_keepEvent_104 : decode cX11_keepEvent 104 = .ok (.iadd, 1) := by decide +kernel
theorem dX11_keepEvent_105 : decode cX11_keepEvent 105 = .ok (.putfield 229, 3) := by decide +kernel
theorem dX11_keepEvent_108 : decode cX11_keepEvent 108 = .ok (.return_, 1) := by decide +kernel
theorem dX11_mixChurned_0 : decode cX11_mixChurned 0 = .ok (.iconst 0, 1) := by decide +kernel
theorem dX11_mixChurned_1 : decode cX11_mixChurned 1 = .ok (.istore_n 2, 1) := by decide +kernel
theorem dX11_mixChurned_2 : decode cX11_mixChurned 2 = .ok (.iconst 0, 1) := by decide +kernel
theorem dX11_mixChurned_3 : decode cX11_mixChurned 3 = .ok (.istore_n 3, 1) := by decide +kernel
theorem dX11_mixChurned_4 : decode cX11_mixChurned 4 = .ok (.iload_n 3, 1) := by decide +kernel
theorem dX11_mixChurned_5 : decode cX11_mixChurned 5 = .ok (.aload_n 1, 1) := by decide +kernel
theorem dX11_mixChurned_6 : decode cX11_mixChurned 6 = .ok (.getfield 149, 3) := by decide +kernel
theorem dX11_mixChurned_9 : decode cX11_mixChurned 9 = .ok (.if_icmp .ge 60, 3) := by decide +kernel
theorem dX11_mixChurned_12 : decode cX11_mixChurned 12 = .ok (.aload_n 0, 1) := by decide +kernel
theorem dX11_mixChurned_13 : decode cX11_mixChurned 13 = .ok (.getfield 66, 3) := by decide +kernel
theorem dX11_mixChurned_16 : decode cX11_mixChurned 16 = .ok (.getfield 193, 3) := by decide +kernel
theorem dX11_mixChurned_19 : decode cX11_mixChurned 19 = .ok (.iload_n 3, 1) := by decide +kernel
theorem dX11_mixChurned_20 : decode cX11_mixChurned 20 = .ok (.iaload, 1) := by decide +kernel
theorem dX11_mixChurned_21 : decode cX11_mixChurned 21 = .ok (.iconst 1, 1) := by decide +kernel
theorem dX11_mixChurned_22 : decode cX11_mixChurned 22 = .ok (.if_icmp .eq 10, 3) := by decide +kernel
theorem dX11_mixChurned_25 : decode cX11_mixChurned 25 = .ok (.iload_n 3, 1) := by decide +kernel
theorem dX11_mixChurned_26 : decode cX11_mixChurned 26 = .ok (.iconst 1, 1) := by decide +kernel
theorem dX11_mixChurned_27 : decode cX11_mixChurned 27 = .ok (.iadd, 1) := by decide +kernel
theorem dX11_mixChurned_28 : decode cX11_mixChurned 28 = .ok (.istore_n 2, 1) := by decide +kernel
theorem dX11_mixChurned_29 : decode cX11_mixChurned 29 = .ok (.goto 34, 3) := by decide +kernel
theorem dX11_mixChurned_32 : decode cX11_mixChurned 32 = .ok (.iload_n 3, 1) := by decide +kernel
theorem dX11_mixChurned_33 : decode cX11_mixChurned 33 = .ok (.iconst 1, 1) := by decide +kernel
theorem dX11_mixChurned_34 : decode cX11_mixChurned 34 = .ok (.iadd, 1) := by decide +kernel
theorem dX11_mixChurned_35 : decode cX11_mixChurned 35 = .ok (.aload_n 1, 1) := by decide +kernel
theorem dX11_mixChurned_36 : decode cX11_mixChurned 36 = .ok (.getfield 149, 3) := by decide +kernel
theorem dX11_mixChurned_39 : decode cX11_mixChurned 39 = .ok (.if_icmp .eq 18, 3) := by decide +kernel
theorem dX11_mixChurned_42 : decode cX11_mixChurned 42 = .ok (.aload_n 0, 1) := by decide +kernel
theorem dX11_mixChurned_43 : decode cX11_mixChurned 43 = .ok (.getfield 66, 3) := by decide +kernel
theorem dX11_mixChurned_46 : decode cX11_mixChurned 46 = .ok (.getfield 193, 3) := by decide +kernel
theorem dX11_mixChurned_49 : decode cX11_mixChurned 49 = .ok (.iload_n 3, 1) := by decide +kernel
theorem dX11_mixChurned_50 : decode cX11_mixChurned 50 = .ok (.iconst 1, 1) := by decide +kernel
theorem dX11_mixChurned_51 : decode cX11_mixChurned 51 = .ok (.iadd, 1) := by decide +kernel
theorem dX11_mixChurned_52 : decode cX11_mixChurned 52 = .ok (.iaload, 1) := by decide +kernel
theorem dX11_mixChurned_53 : decode cX11_mixChurned 53 = .ok (.iconst 1, 1) := by decide +kernel
theorem dX11_mixChurned_54 : decode cX11_mixChurned 54 = .ok (.if_icmp .eq 9, 3) := by decide +kernel
theorem dX11_mixChurned_57 : decode cX11_mixChurned 57 = .ok (.aload_n 1, 1) := by decide +kernel
theorem dX11_mixChurned_58 : decode cX11_mixChurned 58 = .ok (.iload_n 2, 1) := by decide +kernel
theorem dX11_mixChurned_59 : decode cX11_mixChurned 59 = .ok (.iload_n 3, 1) := by decide +kernel
theorem dX11_mixChurned_60 : decode cX11_mixChurned 60 = .ok (.invokevirtual 337, 3) := by decide +kernel
theorem dX11_mixChurned_63 : decode cX11_mixChurned 63 = .ok (.iinc 3 1, 3) := by decide +kernel
theorem dX11_mixChurned_66 : decode cX11_mixChurned 66 = .ok (.goto (-62), 3) := by decide +kernel
theorem dX11_mixChurned_69 : decode cX11_mixChurned 69 = .ok (.return_, 1) := by decide +kernel
