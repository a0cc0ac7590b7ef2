theorem dX12_init_0 : decode cX12_init 0 = .ok (.aload_n 0, 1) := by decide +kernel
theorem dX12_init_1 : decode cX12_init 1 = .ok (.invokespecial 1, 3) := by decide +kernel
theorem dX12_init_4 : decode cX12_init 4 = .ok (.aload_n 0, 1) := by decide +kernel
theorem dX12_init_5 : decode cX12_init 5 = .ok (.sipush 8320, 3) := by decide +kernel
theorem dX12_init_8 : decode cX12_init 8 = .ok (.newarray .int, 2) := by decide +kernel
theorem dX12_init_10 : decode cX12_init 10 = .ok (.putfield 7, 3) := by decide +kernel
theorem dX12_init_13 : decode cX12_init 13 = .ok (.aload_n 0, 1) := by decide +kernel
theorem dX12_init_14 : decode cX12_init 14 = .ok (.sipush 8320, 3) := by decide +kernel
theorem dX12_init_17 : decode cX12_init 17 = .ok (.newarray .int, 2) := by decide +kernel
theorem dX12_init_19 : decode cX12_init 19 = .ok (.putfield 13, 3) := by decide +kernel
theorem dX12_init_22 : decode cX12_init 22 = .ok (.aload_n 0, 1) := by decide +kernel
theorem dX12_init_23 : decode cX12_init 23 = .ok (.sipush 160, 3) := by decide +kernel
theorem dX12_init_26 : decode cX12_init 26 = .ok (.newarray .long, 2) := by decide +kernel
theorem dX12_init_28 : decode cX12_init 28 = .ok (.putfield 16, 3) := by decide +kernel
theorem dX12_init_31 : decode cX12_init 31 = .ok (.aload_n 0, 1) := by decide +kernel
theorem dX12_init_32 : decode cX12_init 32 = .ok (.sipush 160, 3) := by decide +kernel
theorem dX12_init_35 : decode cX12_init 35 = .ok (.newarray .long, 2) := by decide +kernel
theorem dX12_init_37 : decode cX12_init 37 = .ok (.putfield 20, 3) := by decide +kernel
theorem dX12_init_40 : decode cX12_init 40 = .ok (.aload_n 0, 1) := by decide +kernel
theorem dX12_init_41 : decode cX12_init 41 = .ok (.bipush 80, 2) := by decide +kernel
theorem dX12_init_43 : decode cX12_init 43 = .ok (.newarray .long, 2) := by decide +kernel
theorem dX12_init_45 : decode cX12_init 45 = .ok (.putfield 23, 3) := by decide +kernel
theorem dX12_init_48 : decode cX12_init 48 = .ok (.aload_n 0, 1) := by decide +kernel
theorem dX12_init_49 : decode cX12_init 49 = .ok (.iconst (-1), 1) := by decide +kernel
theorem dX12_init_50 : decode cX12_init 50 = .ok (.putfield 26, 3) := by decide +kernel
theorem dX12_init_53 : decode cX12_init 53 = .ok (.aload_n 0, 1) := by decide +kernel
theorem dX12_init_54 : decode cX12_init 54 = .ok (.sipush 400, 3) := by decide +kernel
theorem dX12_init_57 : decode cX12_init 57 = .ok (.newarray .byte, 2) := by decide +kernel
theorem dX12_init_59 : decode cX12_init 59 = .ok (.putfield 30, 3) := by decide +kernel
theorem dX12_init_62 : decode cX12_init 62 = .ok (.aload_n 0, 1) := by decide +kernel
theorem dX12_init_63 : decode cX12_init 63 = .ok (.iconst (-1), 1) := by decide +kernel
theorem dX12_init_64 : decode cX12_init 64 = .ok (.putfield 34, 3) := by decide +kernel
theorem dX12_init_67 : decode cX12_init 67 = .ok (.aload_n 0, 1) := by decide +kernel
theorem dX12_init_68 : decode cX12_init 68 = .ok (.iconst (-1), 1) := by decide +kernel
theorem dX12_init_69 : decode cX12_init 69 = .ok (.putfield 37, 3) := by decide +kernel
theorem dX12_init_72 : decode cX12_init 72 = .ok (.aload_n 0, 1) := by decide +kernel
theorem dX12_init_73 : decode cX12_init 73 = .ok (.bipush 18, 2) := by decide +kernel
theorem dX12_init_75 : decode cX12_init 75 = .ok (.newarray .boolean, 2) := by decide +kernel
theorem dX12_init_77 : decode cX12_init 77 = .ok (.putfield 40, 3) := by decide +kernel
theorem dX12_init_80 : decode cX12_init 80 = .ok (.aload_n 0, 1) := by decide +kernel
theorem dX12_init_81 : decode cX12_init 81 = .ok (.sipush 220, 3) := by decide +kernel
theorem dX12_init_84 : decode cX12_init 84 = .ok (.newarray .int, 2) := by decide +kernel
theorem dX12_init_86 : decode cX12_init 86 = .ok (.putfield 44, 3) := by decide +kernel
theorem dX12_init_89 : decode cX12_init 89 = .ok (.aload_n 0, 1) := by decide +kernel
theorem dX12_init_90 : decode cX12_init 90 = .ok (.sipush 7000, 3) := by decide +kernel
theorem dX12_init_93 : decode cX12_init 93 = .ok (.newarray .int, 2) := by decide +kernel
theorem dX12_init_95 : decode cX12_init 95 = .ok (.putfield 47, 3) := by decide +kernel
theorem dX12_init_98 : decode cX12_init 98 = .ok (.aload_n 0, 1) := by decide +kernel
theorem dX12_init_99 : decode cX12_init 99 = .ok (.sipush 7000, 3) := by decide +kernel
theorem dX12_init_102 : decode cX12_init 102 = .ok (.newarray .int, 2) := by decide +kernel
theorem dX12_init_104 : decode cX12_init 104 = .ok (.putfield 50, 3) := by decide +kernel
theorem dX12_init_107 : decode cX12_init 107 = .ok (.aload_n 0, 1) := by decide +kernel
theorem dX12_init_108 : decode cX12_init 108 = .ok (.bipush 16, 2) := by decide +kernel
theorem dX12_init_110 : decode cX12_init 110 = .ok (.newarray .int, 2) := by decide +kernel
theorem dX12_init_112 : decode cX12_init 112 = .ok (.putfield 53, 3) := by decide +kernel
theorem dX12_init_115 : decode cX12_init 115 = .ok (.aload_n 0, 1) := by decide +kernel
theorem dX12_init_116 : decode cX12_init 116 = .ok (.bipush 16, 2) := by decide +kernel
theorem dX12_init_118 : decode cX12_init 118 = .ok (.newarray .int, 2) := by decide +kernel
theorem dX12_init_120 : decode cX12_init 120 = .ok (.putfield 56, 3) := by decide +kernel
theorem dX12_init_123 : decode cX12_init 123 = .ok (.aload_n 0, 1) := by decide +kernel
theorem dX12_init_124 : decode cX12_init 124 = .ok (.bipush 16, 2) := by decide +kernel
theorem dX12_init_126 : decode cX12_init 126 = .ok (.newarray .int, 2) := by decide +kernel
theorem dX12_init_128 : decode cX12_init 128 = .ok (.putfield 59, 3) := by decide +kernel
theorem dX12_init_131 : decode cX12_init 131 = .ok (.aload_n 0, 1) := by decide +kernel
theorem dX12_init_132 : decode cX12_init 132 = .ok (.bipush 16, 2) := by decide +kernel
theorem dX12_init_134 : decode cX12_init 134 = .ok (.newarray .int, 2) := by decide +kernel
theorem dX12_init_136 : decode cX12_init 136 = .ok (.putfield 62, 3) := by decide +kernel
theorem dX12_init_139 : decode cX12_init 139 = .ok (.aload_n 0, 1) := by decide +kernel
theorem dX12_init_140 : decode cX12_init 140 = .ok (.bipush 16, 2) := by decide +kernel
theorem dX12_init_142 : decode cX12_init 142 = .ok (.newarray .boolean, 2) := by decide +kernel
theorem dX12_init_144 : decode cX12_init 144 = .ok (.putfield 65, 3) := by decide +kernel
theorem dX12_init_147 : decode cX12_init 147 = .ok (.aload_n 0, 1) := by decide +kernel
theorem dX12_init_148 : decode cX12_init 148 = .ok (.bipush 6, 2) := by decide +kernel
theorem dX12_init_150 : decode cX12_init 150 = .ok (.newarray .int, 2) := by decide +kernel
theorem dX12_init_152 : decode cX12_init 152 = .ok (.putfield 68, 3) := by decide +kernel
theorem dX12_init_155 : decode cX12_init 155 = .ok (.aload_n 0, 1) := by decide +kernel
theorem dX12_init_156 : decode cX12_init 156 = .ok (.iconst 5, 1) := by decide +kernel
theorem dX12_init_157 : decode cX12_init 157 = .ok (.newarray .boolean, 2) := by decide +kernel
theorem dX12_init_159 : decode cX12_init 159 = .ok (.putfield 71, 3) := by decide +kernel
theorem dX12_init_162 : decode cX12_init 162 = .ok (.aload_n 0, 1) := by decide +kernel
theorem dX12_init_163 : decode cX12_init 163 = .ok (.getfield 7, 3) := by decide +kernel
theorem dX12_init_166 : decode cX12_init 166 = .ok (.bipush 8, 2) := by decide +kernel
theorem dX12_init_168 : decode cX12_init 168 = .ok (.bipush 100, 2) := by decide +kernel
theorem dX12_init_170 : decode cX12_init 170 = .ok (.iastore, 1) := by decide +kernel
theorem dX12_init_171 : decode cX12_init 171 = .ok (.aload_n 0, 1) := by decide +kernel
theorem dX12_init_172 : decode cX12_init 172 = .ok (.getfield 7, 3) := by decide +kernel
theorem dX12_init_175 : decode cX12_init 175 = .ok (.bipush 9, 2) := by decide +kernel
theorem dX12_init_177 : decode cX12_init 177 = .ok (.bipush 100, 2) := by decide +kernel
theorem dX12_init_179 : decode cX12_init 179 = .ok (.iastore, 1) := by decide +kernel
theorem dX12_init_180 : decode cX12_init 180 = .ok (.aload_n 0, 1) := by decide +kernel
theorem dX12_init_181 : decode cX12_init 181 = .ok (.getfield 7, 3) := by decide +kernel
theorem dX12_init_184 : decode cX12_init 184 = .ok (.bipush 10, 2) := by decide +kernel
theorem dX12_init_186 : decode cX12_init 186 = .ok (.sipush 1000, 3) := by decide +kernel
theorem dX12_init_189 : decode cX12_init 189 = .ok (.iastore, 1) := by decide +kernel
theorem dX12_init_190 : decode cX12_init 190 = .ok (.aload_n 0, 1) := by decide +kernel
theorem dX12_init_191 : decode cX12_init 191 = .ok (.getfield 7, 3) := by decide +kernel
theorem dX12_init_194 : decode cX12_init 194 = .ok (.bipush 11, 2) := by decide +kernel
theorem dX12_init_196 : decode cX12_init 196 = .ok (.sipush 1000, 3) := by decide +kernel
theorem dX12_init_199 : decode cX12_init 199 = .ok (.iastore, 1) := by decide +kernel
theorem dX12_init_200 : decode cX12_init 200 = .ok (.aload_n 0, 1) := by decide +kernel
theorem dX12_init_201 : decode cX12_init 201 = .ok (.iconst 1, 1) := by decide +kernel
theorem dX12_init_202 : decode cX12_init 202 = .ok (.invokevirtual 74, 3) := by decide +kernel
theorem dX12_init_205 : decode cX12_init 205 = .ok (.return_, 1) := by decide +kernel
theorem dX12_copies_0 : decode cX12_copies 0 = .ok (.iconst 0, 1) := by decide +kernel
theorem dX12_copies_1 : decode cX12_copies 1 = .ok (.istore_n 2, 1) := by decide +kernel
theorem dX12_copies_2 : decode cX12_copies 2 = .ok (.iload_n 2, 1) := by decide +kernel
theorem dX12_copies_3 : decode cX12_copies 3 = .ok (.sipush 8320, 3) := by decide +kernel
theorem dX12_copies_6 : decode cX12_copies 6 = .ok (.if_icmp .ge 40, 3) := by decide +kernel
theorem dX12_copies_9 : decode cX12_copies 9 = .ok (.iload_n 1, 1) := by decide +kernel
theorem dX12_copies_10 : decode cX12_copies 10 = .ok (.ifCond .eq 18, 3) := by decide +kernel
theorem dX12_copies_13 : decode cX12_copies 13 = .ok (.aload_n 0, 1) := by decide +kernel
theorem dX12_copies_14 : decode cX12_copies 14 = .ok (.getfield 13, 3) := by decide +kernel
theorem dX12_copies_17 : decode cX12_copies 17 = .ok (.iload_n 2, 1) := by decide +kernel
theorem dX12_copies_18 : decode cX12_copies 18 = .ok (.aload_n 0, 1) := by decide +kernel
theorem dX12_copies_19 : decode cX12_copies 19 = .ok (.getfield 7, 3) := by decide +kernel
theorem dX12_copies_22 : decode cX12_copies 22 = .ok (.iload_n 2, 1) := by decide +kernel
theorem dX12_copies_23 : decode cX12_copies 23 = .ok (.iaload, 1) := by decide +kernel
theorem dX12_copies_24 : decode cX12_copies 24 = .ok (.iastore, 1) := by decide +kernel
theorem dX12_copies_25 : decode cX12_copies 25 = .ok (.goto 15, 3) := by decide +kernel
theorem dX12_copies_28 : decode cX12_copies 28 = .ok (.aload_n 0, 1) := by decide +kernel
theorem dX12_copies_29 : decode cX12_copies 29 = .ok (.getfield 7, 3) := by decide +kernel
theorem dX12_copies_32 : decode cX12_copies 32 = .ok (.iload_n 2, 1) := by decide +kernel
theorem dX12_copies_33 : decode cX12_copies 33 = .ok (.aload_n 0, 1) := by decide +kernel
theorem dX12_copies_34 : decode cX12_copies 34 = .ok (.getfield 13, 3) := by decide +kernel
theorem dX12_copies_37 : decode cX12_copies 37 = .ok (.iload_n 2, 1) := by decide +kernel
theorem dX12_copies_38 : decode cX12_copies 38 = .ok (.iaload, 1) := by decide +kernel
theorem dX12_copies_39 : decode cX12_copies 39 = .ok (.iastore, 1) := by decide +kernel
theorem dX12_copies_40 : decode cX12_copies 40 = .ok (.iinc 2 1, 3) := by decide +kernel
theorem dX12_copies_43 : decode cX12_copies 43 = .ok (.goto (-41), 3) := by decide +kernel
theorem dX12_copies_46 : decode cX12_copies 46 = .ok (.iconst 0, 1) := by decide +kernel
theorem dX12_copies_47 : decode cX12_copies 47 = .ok (.istore_n 2, 1) := by decide +kernel
theorem dX12_copies_48 : decode cX12_copies 48 = .ok (.iload_n 2, 1) := by decide +kernel
theorem dX12_copies_49 : decode cX12_copies 49 = .ok (.sipush 160, 3) := by decide +kernel
theorem dX12_copies_52 : decode cX12_copies 52 = .ok (.if_icmp .ge 40, 3) := by decide +kernel
theorem dX12_copies_55 : decode cX12_copies 55 = .ok (.iload_n 1, 1) := by decide +kernel
theorem dX12_copies_56 : decode cX12_copies 56 = .ok (.ifCond .eq 18, 3) := by decide +kernel
theorem dX12_copies_59 : decode cX12_copies 59 = .ok (.aload_n 0, 1) := by decide +kernel
theorem dX12_copies_60 : decode cX12_copies 60 = .ok (.getfield 20, 3) := by decide +kernel
theorem dX12_copies_63 : decode cX12_copies 63 = .ok (.iload_n 2, 1) := by decide +kernel
theorem dX12_copies_64 : decode cX12_copies 64 = .ok (.aload_n 0, 1) := by decide +kernel
theorem dX12_copies_65 : decode cX12_copies 65 = .ok (.getfield 16, 3) := by decide +kernel
theorem dX12_copies_68 : decode cX12_copies 68 = .ok (.iload_n 2, 1) := by decide +kernel
theorem dX12_copies_69 : decode cX12_copies 69 = .ok (.laload, 1) := by decide +kernel
theorem dX12_copies_70 : decode cX12_copies 70 = .ok (.lastore, 1) := by decide +kernel
theorem dX12_copies_71 : decode cX12_copies 71 = .ok (.goto 15, 3) := by decide +kernel
theorem dX12_copies_74 : decode cX12_copies 74 = .ok (.aload_n 0, 1) := by decide +kernel
theorem dX12_copies_75 : decode cX12_copies 75 = .ok (.getfield 16, 3) := by decide +kernel
theorem dX12_copies_78 : decode cX12_copies 78 = .ok (.iload_n 2, 1) := by decide +kernel
theorem dX12_copies_79 : decode cX12_copies 79 = .ok (.aload_n 0, 1) := by decide +kernel
theorem dX12_copies_80 : decode cX12_copies 80 = .ok (.getfield 20, 3) := by decide +kernel
theorem dX12_copies_83 : decode cX12_copies 83 = .ok (.iload_n 2, 1) := by decide +kernel
theorem dX12_copies_84 : decode cX12_copies 84 = .ok (.laload, 1) := by decide +kernel
theorem dX12_copies_85 : decode cX12_copies 85 = .ok (.lastore, 1) := by decide +kernel
theorem dX12_copies_86 : decode cX12_copies 86 = .ok (.iinc 2 1, 3) := by decide +kernel
theorem dX12_copies_89 : decode cX12_copies 89 = .ok (.goto (-41), 3) := by decide +kernel
theorem dX12_copies_92 : decode cX12_copies 92 = .ok (.return_, 1) := by decide +kernel
theorem dX12_in_0 : decode cX12_in 0 = .ok (.lload_n 0, 1) := by decide +kernel
theorem dX12_in_1 : decode cX12_in 1 = .ok (.lload_n 2, 1) := by decide +kernel
theorem dX12_in_2 : decode cX12_in 2 = .ok (.lcmp, 1) := by decide +kernel
theorem dX12_in_3 : decode cX12_in 3 = .ok (.ifCond .lt 14, 3) := by decide +kernel
theorem dX12_in_6 : decode cX12_in 6 = .ok (.lload_n 0, 1) := by decide +kernel
theorem dX12_in_7 : decode cX12_in 7 = .ok (.lload 4, 2) := by decide +kernel
theorem dX12_in_9 : decode cX12_in 9 = .ok (.lcmp, 1) := by decide +kernel
theorem dX12_in_10 : decode cX12_in 10 = .ok (.ifCond .gt 7, 3) := by decide +kernel
theorem dX12_in_13 : decode cX12_in 13 = .ok (.iconst 1, 1) := by decide +kernel
theorem dX12_in_14 : decode cX12_in 14 = .ok (.goto 4, 3) := by decide +kernel
theorem dX12_in_17 : decode cX12_in 17 = .ok (.iconst 0, 1) := by decide +kernel
theorem dX12_in_18 : decode cX12_in 18 = .ok (.ireturn, 1) := by decide +kernel
theorem dX12_isStar_0 : decode cX12_isStar 0 = .ok (.iload_n 0, 1) := by decide +kernel
theorem dX12_isStar_1 : decode cX12_isStar 1 = .ok (.i2l, 1) := by decide +kernel
theorem dX12_isStar_2 : decode cX12_isStar 2 = .ok (.lconst 0, 1) := by decide +kernel
theorem dX12_isStar_3 : decode cX12_isStar 3 = .ok (.lconst 1, 1) := by decide +kernel
theorem dX12_isStar_4 : decode cX12_isStar 4 = .ok (.invokestatic 78, 3) := by decide +kernel
theorem dX12_isStar_7 : decode cX12_isStar 7 = .ok (.ireturn, 1) := by decide +kernel
theorem dX12_isShell_0 : decode cX12_isShell 0 = .ok (.iload_n 1, 1) := by decide +kernel
theorem dX12_isShell_1 : decode cX12_isShell 1 = .ok (.invokestatic 82, 3) := by decide +kernel
theorem dX12_isShell_4 : decode cX12_isShell 4 = .ok (.ifCond .eq 27, 3) := by decide +kernel
theorem dX12_isShell_7 : decode cX12_isShell 7 = .ok (.iload_n 2, 1) := by decide +kernel
theorem dX12_isShell_8 : decode cX12_isShell 8 = .ok (.i2l, 1) := by decide +kernel
theorem dX12_isShell_9 : decode cX12_isShell 9 = .ok (.lconst 0, 1) := by decide +kernel
theorem dX12_isShell_10 : decode cX12_isShell 10 = .ok (.aload_n 0, 1) := by decide +kernel
theorem dX12_isShell_11 : decode cX12_isShell 11 = .ok (.getfield 7, 3) := by decide +kernel
theorem dX12_isShell_14 : decode cX12_isShell 14 = .ok (.iconst 2, 1) := by decide +kernel
theorem dX12_isShell_15 : decode cX12_isShell 15 = .ok (.iload_n 1, 1) := by decide +kernel
theorem dX12_isShell_16 : decode cX12_isShell 16 = .ok (.iadd, 1) := by decide +kernel
theorem dX12_isShell_17 : decode cX12_isShell 17 = .ok (.iaload, 1) := by decide +kernel
theorem dX12_isShell_18 : decode cX12_isShell 18 = .ok (.iconst 1, 1) := by decide +kernel
theorem dX12_isShell_19 : decode cX12_isShell 19 = .ok (.isub, 1) := by decide +kernel
theorem dX12_isShell_20 : decode cX12_isShell 20 = .ok (.i2l, 1) := by decide +kernel
theorem dX12_isShell_21 : decode cX12_isShell 21 = .ok (.invokestatic 78, 3) := by decide +kernel
theorem dX12_isShell_24 : decode cX12_isShell 24 = .ok (.ifCond .eq 7, 3) := by decide +kernel
theorem dX12_isShell_27 : decode cX12_isShell 27 = .ok (.iconst 1, 1) := by decide +kernel
theorem dX12_isShell_28 : decode cX12_isShell 28 = .ok (.goto 4, 3) := by decide +kernel
theorem dX12_isShell_31 : decode cX12_isShell 31 = .ok (.iconst 0, 1) := by decide +kernel
theorem dX12_isShell_32 : decode cX12_isShell 32 = .ok (.ireturn, 1) := by decide +kernel
theorem dX12_put_0 : decode cX12_put 0 = .ok (.aload_n 0, 1) := by decide +kernel
theorem dX12_put_1 : decode cX12_put 1 = .ok (.getfield 30, 3) := by decide +kernel
theorem dX12_put_4 : decode cX12_put 4 = .ok (.aload_n 0, 1) := by decide +kernel
theorem dX12_put_5 : decode cX12_put 5 = .ok (.getfield 86, 3) := by decide +kernel
theorem dX12_put_8 : decode cX12_put 8 = .ok (.iload_n 1, 1) := by decide +kernel
theorem dX12_put_9 : decode cX12_put 9 = .ok (.bipush 24, 2) := by decide +kernel
theorem dX12_put_11 : decode cX12_put 11 = .ok (.ishr, 1) := by decide +kernel
theorem dX12_put_12 : decode cX12_put 12 = .ok (.i2b, 1) := by decide +kernel
theorem dX12_put_13 : decode cX12_put 13 = .ok (.bastore, 1) := by decide +kernel
theorem dX12_put_14 : decode cX12_put 14 = .ok (.aload_n 0, 1) := by decide +kernel
theorem dX12_put_15 : decode cX12_put 15 = .ok (.getfield 30, 3) := by decide +kernel
theorem dX12_put_18 : decode cX12_put 18 = .ok (.aload_n 0, 1) := by decide +kernel
theorem dX12_put_19 : decode cX12_put 19 = .ok (.getfield 86, 3) := by decide +kernel
theorem dX12_put_22 : decode cX12_put 22 = .ok (.iconst 1, 1) := by decide +kernel
theorem dX12_put_23 : decode cX12_put 23 = .ok (.iadd, 1) := by decide +kernel
theorem dX12_put_24 : decode cX12_put 24 = .ok (.iload_n 1, 1) := by decide +kernel
theorem dX12_put_25 : decode cX12_put 25 = .ok (.bipush 16, 2) := by decide +kernel
theorem dX12_put_27 : decode cX12_put 27 = .ok (.ishr, 1) := by decide +kernel
theorem dX12_put_28 : decode cX12_put 28 = .ok (.i2b, 1) := by decide +kernel
theorem dX12_put_29 : decode cX12_put 29 = .ok (.bastore, 1) := by decide +kernel
theorem dX12_put_30 : decode cX12_put 30 = .ok (.aload_n 0, 1) := by decide +kernel
theorem dX12_put_31 : decode cX12_put 31 = .ok (.getfield 30, 3) := by decide +kernel
theorem dX12_put_34 : decode cX12_put 34 = .ok (.aload_n 0, 1) := by decide +kernel
theorem dX12_put_35 : decode cX12_put 35 = .ok (.getfield 86, 3) := by decide +kernel
theorem dX12_put_38 : decode cX12_put 38 = .ok (.iconst 2, 1) := by decide +kernel
theorem dX12_put_39 : decode cX12_put 39 = .ok (.iadd, 1) := by decide +kernel
theorem dX12_put_40 : decode cX12_put 40 = .ok (.iload_n 1, 1) := by decide +kernel
theorem dX12_put_41 : decode cX12_put 41 = .ok (.bipush 8, 2) := by decide +kernel
theorem dX12_put_43 : decode cX12_put 43 = .ok (.ishr, 1) := by decide +kernel
theorem dX12_put_44 : decode cX12_put 44 = .ok (.i2b, 1) := by decide +kernel
theorem dX12_put_45 : decode cX12_put 45 = .ok (.bastore, 1) := by decide +kernel
theorem dX12_put_46 : decode cX12_put 46 = .ok (.aload_n 0, 1) := by decide +kernel
theorem dX12_put_47 : decode cX12_put 47 = .ok (.getfield 30, 3) := by decide +kernel
theorem dX12_put_50 : decode cX12_put 50 = .ok (.aload_n 0, 1) := by decide +kernel
theorem dX12_put_51 : decode cX12_put 51 = .ok (.getfield 86, 3) := by decide +kernel
theorem dX12_put_54 : decode cX12_put 54 = .ok (.iconst 3, 1) := by decide +kernel
theorem dX12_put_55 : decode cX12_put 55 = .ok (.iadd, 1) := by decide +kernel
theorem dX12_put_56 : decode cX12_put 56 = .ok (.iload_n 1, 1) := by decide +kernel
theorem dX12_put_57 : decode cX12_put 57 = .ok (.i2b, 1) := by decide +kernel
theorem dX12_put_58 : decode cX12_put 58 = .ok (.bastore, 1) := by decide +kernel
theorem dX12_put_59 : decode cX12_put 59 = .ok (.aload_n 0, 1) := by decide +kernel
theorem dX12_put_60 : decode cX12_put 60 = .ok (.dup, 1) := by decide +kernel
theorem dX12_put_61 : decode cX12_put 61 = .ok (.getfield 86, 3) := by decide +kernel
theorem dX12_put_64 : decode cX12_put 64 = .ok (.iconst 4, 1) := by decide +kernel
theorem dX12_put_65 : decode cX12_put 65 = .ok (.iadd, 1) := by decide +kernel
theorem dX12_put_66 : decode cX12_put 66 = .ok (.putfield 86, 3) := by decide +kernel
theorem dX12_put_69 : decode cX12_put 69 = .ok (.return_, 1) := by decide +kernel
theorem dX12_feed_0 : decode cX12_feed 0 = .ok (.aload_n 0, 1) := by decide +kernel
theorem dX12_feed_1 : decode cX12_feed 1 = .ok (.getfield 86, 3) := by decide +kernel
theorem dX12_feed_4 : decode cX12_feed 4 = .ok (.bipush 20, 2) := by decide +kernel
theorem dX12_feed_6 : decode cX12_feed 6 = .ok (.iadd, 1) := by decide +kernel
theorem dX12_feed_7 : decode cX12_feed 7 = .ok (.sipush 400, 3) := by decide +kernel
theorem dX12_feed_10 : decode cX12_feed 10 = .ok (.if_icmp .le 5, 3) := by decide +kernel
theorem dX12_feed_13 : decode cX12_feed 13 = .ok (.iconst (-1), 1) := by decide +kernel
theorem dX12_feed_14 : decode cX12_feed 14 = .ok (.ireturn, 1) := by decide +kernel
theorem dX12_feed_15 : decode cX12_feed 15 = .ok (.aload_n 0, 1) := by decide +kernel
theorem dX12_feed_16 : decode cX12_feed 16 = .ok (.iload_n 1, 1) := by decide +kernel
theorem dX12_feed_17 : decode cX12_feed 17 = .ok (.invokevirtual 89, 3) := by decide +kernel
theorem dX12_feed_20 : decode cX12_feed 20 = .ok (.aload_n 0, 1) := by decide +kernel
theorem dX12_feed_21 : decode cX12_feed 21 = .ok (.iload_n 2, 1) := by decide +kernel
theorem dX12_feed_22 : decode cX12_feed 22 = .ok (.invokevirtual 89, 3) := by decide +kernel
theorem dX12_feed_25 : decode cX12_feed 25 = .ok (.aload_n 0, 1) := by decide +kernel
theorem dX12_feed_26 : decode cX12_feed 26 = .ok (.iload_n 3, 1) := by decide +kernel
theorem dX12_feed_27 : decode cX12_feed 27 = .ok (.invokevirtual 89, 3) := by decide +kernel
theorem dX12_feed_30 : decode cX12_feed 30 = .ok (.aload_n 0, 1) := by decide +kernel
theorem dX12_feed_31 : decode cX12_feed 31 = .ok (.iload 4, 2) := by decide +kernel
theorem dX12_feed_33 : decode cX12_feed 33 = .ok (.invokevirtual 89, 3) := by decide +kernel
theorem dX12_feed_36 : decode cX12_feed 36 = .ok (.aload_n 0, 1) := by decide +kernel
theorem dX12_feed_37 : decode cX12_feed 37 = .ok (.iload 5, 2) := by decide +kernel
theorem dX12_feed_39 : decode cX12_feed 39 = .ok (.invokevirtual 89, 3) := by decide +kernel
theorem dX12_feed_42 : decode cX12_feed 42 = .ok (.aload_n 0, 1) := by decide +kernel
theorem dX12_feed_43 : decode cX12_feed 43 = .ok (.getfield 86, 3) := by decide +kernel
theorem dX12_feed_46 : decode cX12_feed 46 = .ok (.ireturn, 1) := by decide +kernel
theorem dX12_end_0 : decode cX12_end 0 = .ok (.iload_n 1, 1) := by decide +kernel
theorem dX12_end_1 : decode cX12_end 1 = .ok (.i2l, 1) := by decide +kernel
theorem dX12_end_2 : decode cX12_end 2 = .ok (.lconst 0, 1) := by decide +kernel
theorem dX12_end_3 : decode cX12_end 3 = .ok (.aload_n 0, 1) := by decide +kernel
theorem dX12_end_4 : decode cX12_end 4 = .ok (.getfield 86, 3) := by decide +kernel
theorem dX12_end_7 : decode cX12_end 7 = .ok (.i2l, 1) := by decide +kernel
theorem dX12_end_8 : decode cX12_end 8 = .ok (.invokestatic 78, 3) := by decide +kernel
theorem dX12_end_11 : decode cX12_end 11 = .ok (.ifCond .ne 5, 3) := by decide +kernel
theorem dX12_end_14 : decode cX12_end 14 = .ok (.iconst (-1), 1) := by decide +kernel
theorem dX12_end_15 : decode cX12_end 15 = .ok (.ireturn, 1) := by decide +kernel
theorem dX12_end_16 : decode cX12_end 16 = .ok (.aload_n 0, 1) := by decide +kernel
theorem dX12_end_17 : decode cX12_end 17 = .ok (.iload_n 1, 1) := by decide +kernel
theorem dX12_end_18 : decode cX12_end 18 = .ok (.putfield 86, 3) := by decide +kernel
theorem dX12_end_21 : decode cX12_end 21 = .ok (.iload_n 1, 1) := by decide +kernel
theorem dX12_end_22 : decode cX12_end 22 = .ok (.ireturn, 1) := by decide +kernel
theorem dX12_isLetter_0 : decode cX12_isLetter 0 = .ok (.iload_n 0, 1) := by decide +kernel
theorem dX12_isLetter_1 : decode cX12_isLetter 1 = .ok (.i2l, 1) := by decide +kernel
theorem dX12_isLetter_2 : decode cX12_isLetter 2 = .ok (.ldc2_w 93, 3) := by decide +kernel
theorem dX12_isLetter_5 : decode cX12_isLetter 5 = .ok (.ldc2_w 95, 3) := by decide +kernel
theorem dX12_isLetter_8 : decode cX12_isLetter 8 = .ok (.invokestatic 78, 3) := by decide +kernel
theorem dX12_isLetter_11 : decode cX12_isLetter 11 = .ok (.ifCond .ne 17, 3) := by decide +kernel
theorem dX12_isLetter_14 : decode cX12_isLetter 14 = .ok (.iload_n 0, 1) := by decide +kernel
theorem dX12_isLetter_15 : decode cX12_isLetter 15 = .ok (.i2l, 1) := by decide +kernel
theorem dX12_isLetter_16 : decode cX12_isLetter 16 = .ok (.ldc2_w 97, 3) := by decide +kernel
theorem dX12_isLetter_19 : decode cX12_isLetter 19 = .ok (.ldc2_w 99, 3) := by decide +kernel
theorem dX12_isLetter_22 : decode cX12_isLetter 22 = .ok (.invokestatic 78, 3) := by decide +kernel
theorem dX12_isLetter_25 : decode cX12_isLetter 25 = .ok (.ifCond .eq 7, 3) := by decide +kernel
theorem dX12_isLetter_28 : decode cX12_isLetter 28 = .ok (.iconst 1, 1) := by decide +kernel
theorem dX12_isLetter_29 : decode cX12_isLetter 29 = .ok (.goto 4, 3) := by decide +kernel
theorem dX12_isLetter_32 : decode cX12_isLetter 32 = .ok (.iconst 0, 1) := by decide +kernel
theorem dX12_isLetter_33 : decode cX12_isLetter 33 = .ok (.ireturn, 1) := by decide +kernel
theorem dX12_wordOf_0 : decode cX12_wordOf 0 = .ok (.lload_n 0, 1) := by decide +kernel
theorem dX12_wordOf_1 : decode cX12_wordOf 1 = .ok (.ldc2_w 101, 3) := by decide +kernel
theorem dX12_wordOf_4 : decode cX12_wordOf 4 = .ok (.lcmp, 1) := by decide +kernel
theorem dX12_wordOf_5 : decode cX12_wordOf 5 = .ok (.ifCond .ne 5, 3) := by decide +kernel
theorem dX12_wordOf_8 : decode cX12_wordOf 8 = .ok (.iconst 0, 1) := by decide +kernel
theorem dX12_wordOf_9 : decode cX12_wordOf 9 = .ok (.ireturn, 1) := by decide +kernel
theorem dX12_wordOf_10 : decode cX12_wordOf 10 = .ok (.lload_n 0, 1) := by decide +kernel
theorem dX12_wordOf_11 : decode cX12_wordOf 11 = .ok (.ldc2_w 103, 3) := by decide +kernel
theorem dX12_wordOf_14 : decode cX12_wordOf 14 = .ok (.lcmp, 1) := by decide +kernel
theorem dX12_wordOf_15 : decode cX12_wordOf 15 = .ok (.ifCond .ne 5, 3) := by decide +kernel
theorem dX12_wordOf_18 : decode cX12_wordOf 18 = .ok (.iconst 1, 1) := by decide +kernel
theorem dX12_wordOf_19 : decode cX12_wordOf 19 = .ok (.ireturn, 1) := by decide +kernel
theorem dX12_wordOf_20 : decode cX12_wordOf 20 = .ok (.lload_n 0, 1) := by decide +kernel
theorem dX12_wordOf_21 : decode cX12_wordOf 21 = .ok (.ldc2_w 105, 3) := by decide +kernel
theorem dX12_wordOf_24 : decode cX12_wordOf 24 = .ok (.lcmp, 1) := by decide +kernel
theorem dX12_wordOf_25 : decode cX12_wordOf 25 = .ok (.ifCond .ne 5, 3) := by decide +kernel
theorem dX12_wordOf_28 : decode cX12_wordOf 28 = .ok (.iconst 2, 1) := by decide +kernel
theorem dX12_wordOf_29 : decode cX12_wordOf 29 = .ok (.ireturn, 1) := by decide +kernel
theorem dX12_wordOf_30 : decode cX12_wordOf 30 = .ok (.lload_n 0, 1) := by decide +kernel
theorem dX12_wordOf_31 : decode cX12_wordOf 31 = .ok (.ldc2_w 107, 3) := by decide +kernel
theorem dX12_wordOf_34 : decode cX12_wordOf 34 = .ok (.lcmp, 1) := by decide +kernel
theorem dX12_wordOf_35 : decode cX12_wordOf 35 = .ok (.ifCond .ne 5, 3) := by decide +kernel
theorem dX12_wordOf_38 : decode cX12_wordOf 38 = .ok (.iconst 3, 1) := by decide +kernel
theorem dX12_wordOf_39 : decode cX12_wordOf 39 = .ok (.ireturn, 1) := by decide +kernel
theorem dX12_wordOf_40 : decode cX12_wordOf 40 = .ok (.lload_n 0, 1) := by decide +kernel
theorem dX12_wordOf_41 : decode cX12_wordOf 41 = .ok (.ldc2_w 109, 3) := by decide +kernel
theorem dX12_wordOf_44 : decode cX12_wordOf 44 = .ok (.lcmp, 1) := by decide +kernel
theorem dX12_wordOf_45 : decode cX12_wordOf 45 = .ok (.ifCond .ne 5, 3) := by decide +kernel
theorem dX12_wordOf_48 : decode cX12_wordOf 48 = .ok (.iconst 4, 1) := by decide +kernel
theorem dX12_wordOf_49 : decode cX12_wordOf 49 = .ok (.ireturn, 1) := by decide +kernel
theorem dX12_wordOf_50 : decode cX12_wordOf 50 = .ok (.lload_n 0, 1) := by decide +kernel
theorem dX12_wordOf_51 : decode cX12_wordOf 51 = .ok (.ldc2_w 111, 3) := by decide +kernel
theorem dX12_wordOf_54 : decode cX12_wordOf 54 = .ok (.lcmp, 1) := by decide +kernel
theorem dX12_wordOf_55 : decode cX12_wordOf 55 = .ok (.ifCond .ne 5, 3) := by decide +kernel
theorem dX12_wordOf_58 : decode cX12_wordOf 58 = .ok (.iconst 5, 1) := by decide +kernel
theorem dX12_wordOf_59 : decode cX12_wordOf 59 = .ok (.ireturn, 1) := by decide +kernel
theorem dX12_wordOf_60 : decode cX12_wordOf 60 = .ok (.lload_n 0, 1) := by decide +kernel
theorem dX12_wordOf_61 : decode cX12_wordOf 61 = .ok (.ldc2_w 113, 3) := by decide +kernel
theorem dX12_wordOf_64 : decode cX12_wordOf 64 = .ok (.lcmp, 1) := by decide +kernel
theorem dX12_wordOf_65 : decode cX12_wordOf 65 = .ok (.ifCond .ne 6, 3) := by decide +kernel
theorem dX12_wordOf_68 : decode cX12_wordOf 68 = .ok (.bipush 6, 2) := by decide +kernel
theorem dX12_wordOf_70 : decode cX12_wordOf 70 = .ok (.ireturn, 1) := by decide +kernel
theorem dX12_wordOf_71 : decode cX12_wordOf 71 = .ok (.iconst (-1), 1) := by decide +kernel
theorem dX12_wordOf_72 : decode cX12_wordOf 72 = .ok (.ireturn, 1) := by decide +kernel
theorem dX12_next_0 : decode cX12_next 0 = .ok (.aload_n 0, 1) := by decide +kernel
theorem dX12_next_1 : decode cX12_next 1 = .ok (.getfield 115, 3) := by decide +kernel
theorem dX12_next_4 : decode cX12_next 4 = .ok (.aload_n 0, 1) := by decide +kernel
theorem dX12_next_5 : decode cX12_next 5 = .ok (.getfield 118, 3) := by decide +kernel
theorem dX12_next_8 : decode cX12_next 8 = .ok (.if_icmp .ge 44, 3) := by decide +kernel
theorem dX12_next_11 : decode cX12_next 11 = .ok (.aload_n 0, 1) := by decide +kernel
theorem dX12_next_12 : decode cX12_next 12 = .ok (.getfield 30, 3) := by decide +kernel
theorem dX12_next_15 : decode cX12_next 15 = .ok (.aload_n 0, 1) := by decide +kernel
theorem dX12_next_16 : decode cX12_next 16 = .ok (.getfield 115, 3) := by decide +kernel
theorem dX12_next_19 : decode cX12_next 19 = .ok (.baload, 1) := by decide +kernel
theorem dX12_next_20 : decode cX12_next 20 = .ok (.bipush 32, 2) := by decide +kernel
theorem dX12_next_22 : decode cX12_next 22 = .ok (.if_icmp .eq 17, 3) := by decide +kernel
theorem dX12_next_25 : decode cX12_next 25 = .ok (.aload_n 0, 1) := by decide +kernel
theorem dX12_next_26 : decode cX12_next 26 = .ok (.getfield 30, 3) := by decide +kernel
theorem dX12_next_29 : decode cX12_next 29 = .ok (.aload_n 0, 1) := by decide +kernel
theorem dX12_next_30 : decode cX12_next 30 = .ok (.getfield 115, 3) := by decide +kernel
theorem dX12_next_33 : decode cX12_next 33 = .ok (.baload, 1) := by decide +kernel
theorem dX12_next_34 : decode cX12_next 34 = .ok (.bipush 10, 2) := by decide +kernel
theorem dX12_next_36 : decode cX12_next 36 = .ok (.if_icmp .ne 16, 3) := by decide +kernel
theorem dX12_next_39 : decode cX12_next 39 = .ok (.aload_n 0, 1) := by decide +kernel
theorem dX12_next_40 : decode cX12_next 40 = .ok (.dup, 1) := by decide +kernel
theorem dX12_next_41 : decode cX12_next 41 = .ok (.getfield 115, 3) := by decide +kernel
theorem dX12_next_44 : decode cX12_next 44 = .ok (.iconst 1, 1) := by decide +kernel
theorem dX12_next_45 : decode cX12_next 45 = .ok (.iadd, 1) := by decide +kernel
theorem dX12_next_46 : decode cX12_next 46 = .ok (.putfield 115, 3) := by decide +kernel
theorem dX12_next_49 : decode cX12_next 49 = .ok (.goto (-49), 3) := by decide +kernel
theorem dX12_next_52 : decode cX12_next 52 = .ok (.aload_n 0, 1) := by decide +kernel
theorem dX12_next_53 : decode cX12_next 53 = .ok (.aload_n 0, 1) := by decide +kernel
theorem dX12_next_54 : decode cX12_next 54 = .ok (.getfield 115, 3) := by decide +kernel
theorem dX12_next_57 : decode cX12_next 57 = .ok (.putfield 121, 3) := by decide +kernel
theorem dX12_next_60 : decode cX12_next 60 = .ok (.aload_n 0, 1) := by decide +kernel
theorem dX12_next_61 : decode cX12_next 61 = .ok (.getfield 115, 3) := by decide +kernel
theorem dX12_next_64 : decode cX12_next 64 = .ok (.aload_n 0, 1) := by decide +kernel
theorem dX12_next_65 : decode cX12_next 65 = .ok (.getfield 118, 3) := by decide +kernel
theorem dX12_next_68 : decode cX12_next 68 = .ok (.if_icmp .ne 9, 3) := by decide +kernel
theorem dX12_next_71 : decode cX12_next 71 = .ok (.aload_n 0, 1) := by decide +kernel
theorem dX12_next_72 : decode cX12_next 72 = .ok (.iconst 0, 1) := by decide +kernel
theorem dX12_next_73 : decode cX12_next 73 = .ok (.putfield 124, 3) := by decide +kernel
theorem dX12_next_76 : decode cX12_next 76 = .ok (.return_, 1) := by decide +kernel
theorem dX12_next_77 : decode cX12_next 77 = .ok (.aload_n 0, 1) := by decide +kernel
theorem dX12_next_78 : decode cX12_next 78 = .ok (.getfield 30, 3) := by decide +kernel
theorem dX12_next_81 : decode cX12_next 81 = .ok (.aload_n 0, 1) := by decide +kernel
theorem dX12_next_82 : decode cX12_next 82 = .ok (.getfield 115, 3) := by decide +kernel
theorem dX12_next_85 : decode cX12_next 85 = .ok (.baload, 1) := by decide +kernel
theorem dX12_next_86 : decode cX12_next 86 = .ok (.istore_n 1, 1) := by decide +kernel
theorem dX12_next_87 : decode cX12_next 87 = .ok (.iload_n 1, 1) := by decide +kernel
theorem dX12_next_88 : decode cX12_next 88 = .ok (.invokestatic 127, 3) := by decide +kernel
theorem dX12_next_91 : decode cX12_next 91 = .ok (.ifCond .eq 155, 3) := by decide +kernel
theorem dX12_next_94 : decode cX12_next 94 = .ok (.lconst 0, 1) := by decide +kernel
theorem dX12_next_95 : decode cX12_next 95 = .ok (.lstore_n 2, 1) := by decide +kernel
theorem dX12_next_96 : decode cX12_next 96 = .ok (.iconst 0, 1) := by decide +kernel
theorem dX12_next_97 : decode cX12_next 97 = .ok (.istore 4, 2) := by decide +kernel
theorem dX12_next_99 : decode cX12_next 99 = .ok (.aload_n 0, 1) := by decide +kernel
theorem dX12_next_100 : decode cX12_next 100 = .ok (.getfield 115, 3) := by decide +kernel
theorem dX12_next_103 : decode cX12_next 103 = .ok (.aload_n 0, 1) := by decide +kernel
theorem dX12_next_104 : decode cX12_next 104 = .ok (.getfield 118, 3) := by decide +kernel
theorem dX12_next_107 : decode cX12_next 107 = .ok (.if_icmp .ge 66, 3) := by decide +kernel
theorem dX12_next_110 : decode cX12_next 110 = .ok (.aload_n 0, 1) := by decide +kernel
theorem dX12_next_111 : decode cX12_next 111 = .ok (.getfield 30, 3) := by decide +kernel
theorem dX12_next_114 : decode cX12_next 114 = .ok (.aload_n 0, 1) := by decide +kernel
theorem dX12_next_115 : decode cX12_next 115 = .ok (.getfield 115, 3) := by decide +kernel
theorem dX12_next_118 : decode cX12_next 118 = .ok (.baload, 1) := by decide +kernel
theorem dX12_next_119 : decode cX12_next 119 = .ok (.invokestatic 127, 3) := by decide +kernel
theorem dX12_next_122 : decode cX12_next 122 = .ok (.ifCond .eq 51, 3) := by decide +kernel
theorem dX12_next_125 : decode cX12_next 125 = .ok (.iload 4, 2) := by decide +kernel
theorem dX12_next_127 : decode cX12_next 127 = .ok (.bipush 8, 2) := by decide +kernel
theorem dX12_next_129 : decode cX12_next 129 = .ok (.if_icmp .ge 26, 3) := by decide +kernel
theorem dX12_next_132 : decode cX12_next 132 = .ok (.ldc2_w 130, 3) := by decide +kernel
theorem dX12_next_135 : decode cX12_next 135 = .ok (.lload_n 2, 1) := by decide +kernel
theorem dX12_next_136 : decode cX12_next 136 = .ok (.lmul, 1) := by decide +kernel
theorem dX12_next_137 : decode cX12_next 137 = .ok (.aload_n 0, 1) := by decide +kernel
theorem dX12_next_138 : decode cX12_next 138 = .ok (.getfield 30, 3) := by decide +kernel
theorem dX12_next_141 : decode cX12_next 141 = .ok (.aload_n 0, 1) := by decide +kernel
theorem dX12_next_142 : decode cX12_next 142 = .ok (.getfield 115, 3) := by decide +kernel
theorem dX12_next_145 : decode cX12_next 145 = .ok (.baload, 1) := by decide +kernel
theorem dX12_next_146 : decode cX12_next 146 = .ok (.i2l, 1) := by decide +kernel
theorem dX12_next_147 : decode cX12_next 147 = .ok (.ladd, 1) := by decide +kernel
theorem dX12_next_148 : decode cX12_next 148 = .ok (.ldc2_w 130, 3) := by decide +kernel
theorem dX12_next_151 : decode cX12_next 151 = .ok (.lsub, 1) := by decide +kernel
theorem dX12_next_152 : decode cX12_next 152 = .ok (.goto 4, 3) := by decide +kernel
theorem dX12_next_155 : decode cX12_next 155 = .ok (.lload_n 2, 1) := by decide +kernel
theorem dX12_next_156 : decode cX12_next 156 = .ok (.lstore_n 2, 1) := by decide +kernel
theorem dX12_next_157 : decode cX12_next 157 = .ok (.iinc 4 1, 3) := by decide +kernel
theorem dX12_next_160 : decode cX12_next 160 = .ok (.aload_n 0, 1) := by decide +kernel
theorem dX12_next_161 : decode cX12_next 161 = .ok (.dup, 1) := by decide +kernel
theorem dX12_next_162 : decode cX12_next 162 = .ok (.getfield 115, 3) := by decide +kernel
theorem dX12_next_165 : decode cX12_next 165 = .ok (.iconst 1, 1) := by decide +kernel
theorem dX12_next_166 : decode cX12_next 166 = .ok (.iadd, 1) := by decide +kernel
theorem dX12_next_167 : decode cX12_next 167 = .ok (.putfield 115, 3) := by decide +kernel
theorem dX12_next_170 : decode cX12_next 170 = .ok (.goto (-71), 3) := by decide +kernel
theorem dX12_next_173 : decode cX12_next 173 = .ok (.iload 4, 2) := by decide +kernel
theorem dX12_next_175 : decode cX12_next 175 = .ok (.iconst 1, 1) := by decide +kernel
theorem dX12_next_176 : decode cX12_next 176 = .ok (.if_icmp .ne 33, 3) := by decide +kernel
theorem dX12_next_179 : decode cX12_next 179 = .ok (.iload_n 1, 1) := by decide +kernel
theorem dX12_next_180 : decode cX12_next 180 = .ok (.i2l, 1) := by decide +kernel
theorem dX12_next_181 : decode cX12_next 181 = .ok (.ldc2_w 97, 3) := by decide +kernel
theorem dX12_next_184 : decode cX12_next 184 = .ok (.ldc2_w 132, 3) := by decide +kernel
theorem dX12_next_187 : decode cX12_next 187 = .ok (.invokestatic 78, 3) := by decide +kernel
theorem dX12_next_190 : decode cX12_next 190 = .ok (.ifCond .eq 19, 3) := by decide +kernel
theorem dX12_next_193 : decode cX12_next 193 = .ok (.aload_n 0, 1) := by decide +kernel
theorem dX12_next_194 : decode cX12_next 194 = .ok (.iconst 2, 1) := by decide +kernel
theorem dX12_next_195 : decode cX12_next 195 = .ok (.putfield 124, 3) := by decide +kernel
theorem dX12_next_198 : decode cX12_next 198 = .ok (.aload_n 0, 1) := by decide +kernel
theorem dX12_next_199 : decode cX12_next 199 = .ok (.iload_n 1, 1) := by decide +kernel
theorem dX12_next_200 : decode cX12_next 200 = .ok (.bipush 65, 2) := by decide +kernel
theorem dX12_next_202 : decode cX12_next 202 = .ok (.isub, 1) := by decide +kernel
theorem dX12_next_203 : decode cX12_next 203 = .ok (.putfield 134, 3) := by decide +kernel
theorem dX12_next_206 : decode cX12_next 206 = .ok (.goto 37, 3) := by decide +kernel
theorem dX12_next_209 : decode cX12_next 209 = .ok (.aload_n 0, 1) := by decide +kernel
theorem dX12_next_210 : decode cX12_next 210 = .ok (.iload 4, 2) := by decide +kernel
theorem dX12_next_212 : decode cX12_next 212 = .ok (.iconst 5, 1) := by decide +kernel
theorem dX12_next_213 : decode cX12_next 213 = .ok (.if_icmp .le 7, 3) := by decide +kernel
theorem dX12_next_216 : decode cX12_next 216 = .ok (.iconst (-1), 1) := by decide +kernel
theorem dX12_next_217 : decode cX12_next 217 = .ok (.goto 7, 3) := by decide +kernel
theorem dX12_next_220 : decode cX12_next 220 = .ok (.lload_n 2, 1) := by decide +kernel
theorem dX12_next_221 : decode cX12_next 221 = .ok (.invokestatic 137, 3) := by decide +kernel
theorem dX12_next_224 : decode cX12_next 224 = .ok (.putfield 134, 3) := by decide +kernel
theorem dX12_next_227 : decode cX12_next 227 = .ok (.aload_n 0, 1) := by decide +kernel
theorem dX12_next_228 : decode cX12_next 228 = .ok (.aload_n 0, 1) := by decide +kernel
theorem dX12_next_229 : decode cX12_next 229 = .ok (.getfield 134, 3) := by decide +kernel
theorem dX12_next_232 : decode cX12_next 232 = .ok (.ifCond .ge 7, 3) := by decide +kernel
theorem dX12_next_235 : decode cX12_next 235 = .ok (.iconst 5, 1) := by decide +kernel
theorem dX12_next_236 : decode cX12_next 236 = .ok (.goto 4, 3) := by decide +kernel
theorem dX12_next_239 : decode cX12_next 239 = .ok (.iconst 1, 1) := by decide +kernel
theorem dX12_next_240 : decode cX12_next 240 = .ok (.putfield 124, 3) := by decide +kernel
theorem dX12_next_243 : decode cX12_next 243 = .ok (.goto 155, 3) := by decide +kernel
theorem dX12_next_246 : decode cX12_next 246 = .ok (.iload_n 1, 1) := by decide +kernel
theorem dX12_next_247 : decode cX12_next 247 = .ok (.i2l, 1) := by decide +kernel
theorem dX12_next_248 : decode cX12_next 248 = .ok (.ldc2_w 141, 3) := by decide +kernel
theorem dX12_next_251 : decode cX12_next 251 = .ok (.ldc2_w 143, 3) := by decide +kernel
theorem dX12_next_254 : decode cX12_next 254 = .ok (.invokestatic 78, 3) := by decide +kernel
theorem dX12_next_257 : decode cX12_next 257 = .ok (.ifCond .eq 99, 3) := by decide +kernel
theorem dX12_next_260 : decode cX12_next 260 = .ok (.aload_n 0, 1) := by decide +kernel
theorem dX12_next_261 : decode cX12_next 261 = .ok (.iconst 3, 1) := by decide +kernel
theorem dX12_next_262 : decode cX12_next 262 = .ok (.putfield 124, 3) := by decide +kernel
theorem dX12_next_265 : decode cX12_next 265 = .ok (.aload_n 0, 1) := by decide +kernel
theorem dX12_next_266 : decode cX12_next 266 = .ok (.iconst 0, 1) := by decide +kernel
theorem dX12_next_267 : decode cX12_next 267 = .ok (.putfield 134, 3) := by decide +kernel
theorem dX12_next_270 : decode cX12_next 270 = .ok (.aload_n 0, 1) := by decide +kernel
theorem dX12_next_271 : decode cX12_next 271 = .ok (.getfield 115, 3) := by decide +kernel
theorem dX12_next_274 : decode cX12_next 274 = .ok (.aload_n 0, 1) := by decide +kernel
theorem dX12_next_275 : decode cX12_next 275 = .ok (.getfield 118, 3) := by decide +kernel
theorem dX12_next_278 : decode cX12_next 278 = .ok (.if_icmp .ge 120, 3) := by decide +kernel
theorem dX12_next_281 : decode cX12_next 281 = .ok (.aload_n 0, 1) := by decide +kernel
theorem dX12_next_282 : decode cX12_next 282 = .ok (.getfield 30, 3) := by decide +kernel
theorem dX12_next_285 : decode cX12_next 285 = .ok (.aload_n 0, 1) := by decide +kernel
theorem dX12_next_286 : decode cX12_next 286 = .ok (.getfield 115, 3) := by decide +kernel
theorem dX12_next_289 : decode cX12_next 289 = .ok (.baload, 1) := by decide +kernel
theorem dX12_next_290 : decode cX12_next 290 = .ok (.i2l, 1) := by decide +kernel
theorem dX12_next_291 : decode cX12_next 291 = .ok (.ldc2_w 141, 3) := by decide +kernel
theorem dX12_next_294 : decode cX12_next 294 = .ok (.ldc2_w 143, 3) := by decide +kernel
theorem dX12_next_297 : decode cX12_next 297 = .ok (.invokestatic 78, 3) := by decide +kernel
theorem dX12_next_300 : decode cX12_next 300 = .ok (.ifCond .eq 98, 3) := by decide +kernel
theorem dX12_next_303 : decode cX12_next 303 = .ok (.aload_n 0, 1) := by decide +kernel
theorem dX12_next_304 : decode cX12_next 304 = .ok (.aload_n 0, 1) := by decide +kernel
theorem dX12_next_305 : decode cX12_next 305 = .ok (.getfield 134, 3) := by decide +kernel
theorem dX12_next_308 : decode cX12_next 308 = .ok (.ldc 145, 2) := by decide +kernel
theorem dX12_next_310 : decode cX12_next 310 = .ok (.if_icmp .le 10, 3) := by decide +kernel
theorem dX12_next_313 : decode cX12_next 313 = .ok (.aload_n 0, 1) := by decide +kernel
theorem dX12_next_314 : decode cX12_next 314 = .ok (.getfield 134, 3) := by decide +kernel
theorem dX12_next_317 : decode cX12_next 317 = .ok (.goto 23, 3) := by decide +kernel
theorem dX12_next_320 : decode cX12_next 320 = .ok (.bipush 10, 2) := by decide +kernel
theorem dX12_next_322 : decode cX12_next 322 = .ok (.aload_n 0, 1) := by decide +kernel
theorem dX12_next_323 : decode cX12_next 323 = .ok (.getfield 134, 3) := by decide +kernel
theorem dX12_next_326 : decode cX12_next 326 = .ok (.imul, 1) := by decide +kernel
theorem dX12_next_327 : decode cX12_next 327 = .ok (.aload_n 0, 1) := by decide +kernel
theorem dX12_next_328 : decode cX12_next 328 = .ok (.getfield 30, 3) := by decide +kernel
theorem dX12_next_331 : decode cX12_next 331 = .ok (.aload_n 0, 1) := by decide +kernel
theorem dX12_next_332 : decode cX12_next 332 = .ok (.getfield 115, 3) := by decide +kernel
theorem dX12_next_335 : decode cX12_next 335 = .ok (.baload, 1) := by decide +kernel
theorem dX12_next_336 : decode cX12_next 336 = .ok (.iadd, 1) := by decide +kernel
theorem dX12_next_337 : decode cX12_next 337 = .ok (.bipush 48, 2) := by decide +kernel
theorem dX12_next_339 : decode cX12_next 339 = .ok (.isub, 1) := by decide +kernel
theorem dX12_next_340 : decode cX12_next 340 = .ok (.putfield 134, 3) := by decide +kernel
theorem dX12_next_343 : decode cX12_next 343 = .ok (.aload_n 0, 1) := by decide +kernel
theorem dX12_next_344 : decode cX12_next 344 = .ok (.dup, 1) := by decide +kernel
theorem dX12_next_345 : decode cX12_next 345 = .ok (.getfield 115, 3) := by decide +kernel
theorem dX12_next_348 : decode cX12_next 348 = .ok (.iconst 1, 1) := by decide +kernel
theorem dX12_next_349 : decode cX12_next 349 = .ok (.iadd, 1) := by decide +kernel
theorem dX12_next_350 : decode cX12_next 350 = .ok (.putfield 115, 3) := by decide +kernel
theorem dX12_next_353 : decode cX12_next 353 = .ok (.goto (-83), 3) := by decide +kernel
theorem dX12_next_356 : decode cX12_next 356 = .ok (.aload_n 0, 1) := by decide +kernel
theorem dX12_next_357 : decode cX12_next 357 = .ok (.dup, 1) := by decide +kernel
theorem dX12_next_358 : decode cX12_next 358 = .ok (.getfield 115, 3) := by decide +kernel
theorem dX12_next_361 : decode cX12_next 361 = .ok (.iconst 1, 1) := by decide +kernel
theorem dX12_next_362 : decode cX12_next 362 = .ok (.iadd, 1) := by decide +kernel
theorem dX12_next_363 : decode cX12_next 363 = .ok (.putfield 115, 3) := by decide +kernel
theorem dX12_next_366 : decode cX12_next 366 = .ok (.aload_n 0, 1) := by decide +kernel
theorem dX12_next_367 : decode cX12_next 367 = .ok (.iload_n 1, 1) := by decide +kernel
theorem dX12_next_368 : decode cX12_next 368 = .ok (.putfield 134, 3) := by decide +kernel
theorem dX12_next_371 : decode cX12_next 371 = .ok (.aload_n 0, 1) := by decide +kernel
theorem dX12_next_372 : decode cX12_next 372 = .ok (.iload_n 1, 1) := by decide +kernel
theorem dX12_next_373 : decode cX12_next 373 = .ok (.bipush 61, 2) := by decide +kernel
theorem dX12_next_375 : decode cX12_next 375 = .ok (.if_icmp .eq 15, 3) := by decide +kernel
theorem dX12_next_378 : decode cX12_next 378 = .ok (.iload_n 1, 1) := by decide +kernel
theorem dX12_next_379 : decode cX12_next 379 = .ok (.bipush 44, 2) := by decide +kernel
theorem dX12_next_381 : decode cX12_next 381 = .ok (.if_icmp .eq 9, 3) := by decide +kernel
theorem dX12_next_384 : decode cX12_next 384 = .ok (.iload_n 1, 1) := by decide +kernel
theorem dX12_next_385 : decode cX12_next 385 = .ok (.bipush 59, 2) := by decide +kernel
theorem dX12_next_387 : decode cX12_next 387 = .ok (.if_icmp .ne 7, 3) := by decide +kernel
theorem dX12_next_390 : decode cX12_next 390 = .ok (.iconst 4, 1) := by decide +kernel
theorem dX12_next_391 : decode cX12_next 391 = .ok (.goto 4, 3) := by decide +kernel
theorem dX12_next_394 : decode cX12_next 394 = .ok (.iconst 5, 1) := by decide +kernel
theorem dX12_next_395 : decode cX12_next 395 = .ok (.putfield 124, 3) := by decide +kernel
theorem dX12_next_398 : decode cX12_next 398 = .ok (.return_, 1) := by decide +kernel
theorem dX12_errs_0 : decode cX12_errs 0 = .ok (.aload_n 0, 1) := by decide +kernel
theorem dX12_errs_1 : decode cX12_errs 1 = .ok (.getfield 146, 3) := by decide +kernel
theorem dX12_errs_4 : decode cX12_errs 4 = .ok (.ifCond .ne 16, 3) := by decide +kernel
theorem dX12_errs_7 : decode cX12_errs 7 = .ok (.aload_n 0, 1) := by decide +kernel
theorem dX12_errs_8 : decode cX12_errs 8 = .ok (.iload_n 1, 1) := by decide +kernel
theorem dX12_errs_9 : decode cX12_errs 9 = .ok (.putfield 146, 3) := by decide +kernel
theorem dX12_errs_12 : decode cX12_errs 12 = .ok (.aload_n 0, 1) := by decide +kernel
theorem dX12_errs_13 : decode cX12_errs 13 = .ok (.aload_n 0, 1) := by decide +kernel
theorem dX12_errs_14 : decode cX12_errs 14 = .ok (.getfield 121, 3) := by decide +kernel
theorem dX12_errs_17 : decode cX12_errs 17 = .ok (.putfield 149, 3) := by decide +kernel
theorem dX12_errs_20 : decode cX12_errs 20 = .ok (.return_, 1) := by decide +kernel
theorem dX12_number_0 : decode cX12_number 0 = .ok (.aload_n 0, 1) := by decide +kernel
theorem dX12_number_1 : decode cX12_number 1 = .ok (.getfield 146, 3) := by decide +kernel
theorem dX12_number_4 : decode cX12_number 4 = .ok (.ifCond .gt 11, 3) := by decide +kernel
theorem dX12_number_7 : decode cX12_number 7 = .ok (.aload_n 0, 1) := by decide +kernel
theorem dX12_number_8 : decode cX12_number 8 = .ok (.getfield 124, 3) := by decide +kernel
theorem dX12_number_11 : decode cX12_number 11 = .ok (.iconst 3, 1) := by decide +kernel
theorem dX12_number_12 : decode cX12_number 12 = .ok (.if_icmp .eq 10, 3) := by decide +kernel
theorem dX12_number_15 : decode cX12_number 15 = .ok (.aload_n 0, 1) := by decide +kernel
theorem dX12_number_16 : decode cX12_number 16 = .ok (.iconst 1, 1) := by decide +kernel
theorem dX12_number_17 : decode cX12_number 17 = .ok (.invokevirtual 152, 3) := by decide +kernel
theorem dX12_number_20 : decode cX12_number 20 = .ok (.iload_n 1, 1) := by decide +kernel
theorem dX12_number_21 : decode cX12_number 21 = .ok (.ireturn, 1) := by decide +kernel
theorem dX12_number_22 : decode cX12_number 22 = .ok (.aload_n 0, 1) := by decide +kernel
theorem dX12_number_23 : decode cX12_number 23 = .ok (.getfield 134, 3) := by decide +kernel
theorem dX12_number_26 : decode cX12_number 26 = .ok (.i2l, 1) := by decide +kernel
theorem dX12_number_27 : decode cX12_number 27 = .ok (.iload_n 1, 1) := by decide +kernel
theorem dX12_number_28 : decode cX12_number 28 = .ok (.i2l, 1) := by decide +kernel
theorem dX12_number_29 : decode cX12_number 29 = .ok (.iload_n 2, 1) := by decide +kernel
theorem dX12_number_30 : decode cX12_number 30 = .ok (.i2l, 1) := by decide +kernel
theorem dX12_number_31 : decode cX12_number 31 = .ok (.invokestatic 78, 3) := by decide +kernel
theorem dX12_number_34 : decode cX12_number 34 = .ok (.ifCond .ne 10, 3) := by decide +kernel
theorem dX12_number_37 : decode cX12_number 37 = .ok (.aload_n 0, 1) := by decide +kernel
theorem dX12_number_38 : decode cX12_number 38 = .ok (.iconst 2, 1) := by decide +kernel
theorem dX12_number_39 : decode cX12_number 39 = .ok (.invokevirtual 152, 3) := by decide +kernel
theorem dX12_number_42 : decode cX12_number 42 = .ok (.iload_n 1, 1) := by decide +kernel
theorem dX12_number_43 : decode cX12_number 43 = .ok (.ireturn, 1) := by decide +kernel
theorem dX12_number_44 : decode cX12_number 44 = .ok (.aload_n 0, 1) := by decide +kernel
theorem dX12_number_45 : decode cX12_number 45 = .ok (.getfield 134, 3) := by decide +kernel
theorem dX12_number_48 : decode cX12_number 48 = .ok (.istore_n 3, 1) := by decide +kernel
theorem dX12_number_49 : decode cX12_number 49 = .ok (.aload_n 0, 1) := by decide +kernel
theorem dX12_number_50 : decode cX12_number 50 = .ok (.invokevirtual 155, 3) := by decide +kernel
theorem dX12_number_53 : decode cX12_number 53 = .ok (.iload_n 3, 1) := by decide +kernel
theorem dX12_number_54 : decode cX12_number 54 = .ok (.ireturn, 1) := by decide +kernel
theorem dX12_takes_0 : decode cX12_takes 0 = .ok (.aload_n 0, 1) := by decide +kernel
theorem dX12_takes_1 : decode cX12_takes 1 = .ok (.getfield 146, 3) := by decide +kernel
theorem dX12_takes_4 : decode cX12_takes 4 = .ok (.ifCond .gt 19, 3) := by decide +kernel
theorem dX12_takes_7 : decode cX12_takes 7 = .ok (.aload_n 0, 1) := by decide +kernel
theorem dX12_takes_8 : decode cX12_takes 8 = .ok (.getfield 124, 3) := by decide +kernel
theorem dX12_takes_11 : decode cX12_takes 11 = .ok (.iload_n 1, 1) := by decide +kernel
theorem dX12_takes_12 : decode cX12_takes 12 = .ok (.if_icmp .ne 11, 3) := by decide +kernel
theorem dX12_takes_15 : decode cX12_takes 15 = .ok (.aload_n 0, 1) := by decide +kernel
theorem dX12_takes_16 : decode cX12_takes 16 = .ok (.getfield 134, 3) := by decide +kernel
theorem dX12_takes_19 : decode cX12_takes 19 = .ok (.iload_n 2, 1) := by decide +kernel
theorem dX12_takes_20 : decode cX12_takes 20 = .ok (.if_icmp .eq 9, 3) := by decide +kernel
theorem dX12_takes_23 : decode cX12_takes 23 = .ok (.aload_n 0, 1) := by decide +kernel
theorem dX12_takes_24 : decode cX12_takes 24 = .ok (.iconst 1, 1) := by decide +kernel
theorem dX12_takes_25 : decode cX12_takes 25 = .ok (.invokevirtual 152, 3) := by decide +kernel
theorem dX12_takes_28 : decode cX12_takes 28 = .ok (.return_, 1) := by decide +kernel
theorem dX12_takes_29 : decode cX12_takes 29 = .ok (.aload_n 0, 1) := by decide +kernel
theorem dX12_takes_30 : decode cX12_takes 30 = .ok (.invokevirtual 155, 3) := by decide +kernel
theorem dX12_takes_33 : decode cX12_takes 33 = .ok (.return_, 1) := by decide +kernel
theorem dX12_kindOf_0 : decode cX12_kindOf 0 = .ok (.aload_n 0, 1) := by decide +kernel
theorem dX12_kindOf_1 : decode cX12_kindOf 1 = .ok (.getfield 146, 3) := by decide +kernel
theorem dX12_kindOf_4 : decode cX12_kindOf 4 = .ok (.ifCond .gt 11, 3) := by decide +kernel
theorem dX12_kindOf_7 : decode cX12_kindOf 7 = .ok (.aload_n 0, 1) := by decide +kernel
theorem dX12_kindOf_8 : decode cX12_kindOf 8 = .ok (.getfield 124, 3) := by decide +kernel
theorem dX12_kindOf_11 : decode cX12_kindOf 11 = .ok (.iconst 2, 1) := by decide +kernel
theorem dX12_kindOf_12 : decode cX12_kindOf 12 = .ok (.if_icmp .eq 10, 3) := by decide +kernel
theorem dX12_kindOf_15 : decode cX12_kindOf 15 = .ok (.aload_n 0, 1) := by decide +kernel
theorem dX12_kindOf_16 : decode cX12_kindOf 16 = .ok (.iconst 1, 1) := by decide +kernel
theorem dX12_kindOf_17 : decode cX12_kindOf 17 = .ok (.invokevirtual 152, 3) := by decide +kernel
theorem dX12_kindOf_20 : decode cX12_kindOf 20 = .ok (.iconst 0, 1) := by decide +kernel
theorem dX12_kindOf_21 : decode cX12_kindOf 21 = .ok (.ireturn, 1) := by decide +kernel
theorem dX12_kindOf_22 : decode cX12_kindOf 22 = .ok (.aload_n 0, 1) := by decide +kernel
theorem dX12_kindOf_23 : decode cX12_kindOf 23 = .ok (.getfield 134, 3) := by decide +kernel
theorem dX12_kindOf_26 : decode cX12_kindOf 26 = .ok (.ireturn, 1) := by decide +kernel
theorem dX12_once_0 : decode cX12_once 0 = .ok (.aload_n 0, 1) := by decide +kernel
theorem dX12_once_1 : decode cX12_once 1 = .ok (.getfield 146, 3) := by decide +kernel
theorem dX12_once_4 : decode cX12_once 4 = .ok (.ifCond .ne 17, 3) := by decide +kernel
theorem dX12_once_7 : decode cX12_once 7 = .ok (.aload_n 0, 1) := by decide +kernel
theorem dX12_once_8 : decode cX12_once 8 = .ok (.getfield 40, 3) := by decide +kernel
theorem dX12_once_11 : decode cX12_once 11 = .ok (.iload_n 1, 1) := by decide +kernel
theorem dX12_once_12 : decode cX12_once 12 = .ok (.baload, 1) := by decide +kernel
theorem dX12_once_13 : decode cX12_once 13 = .ok (.ifCond .eq 8, 3) := by decide +kernel
theorem dX12_once_16 : decode cX12_once 16 = .ok (.aload_n 0, 1) := by decide +kernel
theorem dX12_once_17 : decode cX12_once 17 = .ok (.iconst 4, 1) := by decide +kernel
theorem dX12_once_18 : decode cX12_once 18 = .ok (.invokevirtual 152, 3) := by decide +kernel
theorem dX12_once_21 : decode cX12_once 21 = .ok (.aload_n 0, 1) := by decide +kernel
theorem dX12_once_22 : decode cX12_once 22 = .ok (.getfield 40, 3) := by decide +kernel
theorem dX12_once_25 : decode cX12_once 25 = .ok (.iload_n 1, 1) := by decide +kernel
theorem dX12_once_26 : decode cX12_once 26 = .ok (.iconst 1, 1) := by decide +kernel
theorem dX12_once_27 : decode cX12_once 27 = .ok (.bastore, 1) := by decide +kernel
theorem dX12_once_28 : decode cX12_once 28 = .ok (.return_, 1) := by decide +kernel
theorem dX12_kindClause_0 : decode cX12_kindClause 0 = .ok (.aload_n 0, 1) := by decide +kernel
theorem dX12_kindClause_1 : decode cX12_kindClause 1 = .ok (.invokevirtual 158, 3) := by decide +kernel
theorem dX12_kindClause_4 : decode cX12_kindClause 4 = .ok (.istore_n 1, 1) := by decide +kernel
theorem dX12_kindClause_5 : decode cX12_kindClause 5 = .ok (.aload_n 0, 1) := by decide +kernel
theorem dX12_kindClause_6 : decode cX12_kindClause 6 = .ok (.getfield 146, 3) := by decide +kernel
theorem dX12_kindClause_9 : decode cX12_kindClause 9 = .ok (.ifCond .ne 8, 3) := by decide +kernel
theorem dX12_kindClause_12 : decode cX12_kindClause 12 = .ok (.aload_n 0, 1) := by decide +kernel
theorem dX12_kindClause_13 : decode cX12_kindClause 13 = .ok (.iload_n 1, 1) := by decide +kernel
theorem dX12_kindClause_14 : decode cX12_kindClause 14 = .ok (.invokevirtual 162, 3) := by decide +kernel
theorem dX12_kindClause_17 : decode cX12_kindClause 17 = .ok (.aload_n 0, 1) := by decide +kernel
theorem dX12_kindClause_18 : decode cX12_kindClause 18 = .ok (.getfield 146, 3) := by decide +kernel
theorem dX12_kindClause_21 : decode cX12_kindClause 21 = .ok (.ifCond .ne 22, 3) := by decide +kernel
theorem dX12_kindClause_24 : decode cX12_kindClause 24 = .ok (.aload_n 0, 1) := by decide +kernel
theorem dX12_kindClause_25 : decode cX12_kindClause 25 = .ok (.invokevirtual 155, 3) := by decide +kernel
theorem dX12_kindClause_28 : decode cX12_kindClause 28 = .ok (.aload_n 0, 1) := by decide +kernel
theorem dX12_kindClause_29 : decode cX12_kindClause 29 = .ok (.iconst 1, 1) := by decide +kernel
theorem dX12_kindClause_30 : decode cX12_kindClause 30 = .ok (.bipush 99, 2) := by decide +kernel
theorem dX12_kindClause_32 : decode cX12_kindClause 32 = .ok (.invokevirtual 165, 3) := by decide +kernel
theorem dX12_kindClause_35 : decode cX12_kindClause 35 = .ok (.istore_n 2, 1) := by decide +kernel
theorem dX12_kindClause_36 : decode cX12_kindClause 36 = .ok (.aload_n 0, 1) := by decide +kernel
theorem dX12_kindClause_37 : decode cX12_kindClause 37 = .ok (.getfield 44, 3) := by decide +kernel
theorem dX12_kindClause_40 : decode cX12_kindClause 40 = .ok (.iload_n 1, 1) := by decide +kernel
theorem dX12_kindClause_41 : decode cX12_kindClause 41 = .ok (.iload_n 2, 1) := by decide +kernel
theorem dX12_kindClause_42 : decode cX12_kindClause 42 = .ok (.iastore, 1) := by decide +kernel
theorem dX12_kindClause_43 : decode cX12_kindClause 43 = .ok (.return_, 1) := by decide +kernel
theorem dX12_chainClause_0 : decode cX12_chainClause 0 = .ok (.aload_n 0, 1) := by decide +kernel
theorem dX12_chainClause_1 : decode cX12_chainClause 1 = .ok (.getfield 124, 3) := by decide +kernel
theorem dX12_chainClause_4 : decode cX12_chainClause 4 = .ok (.iconst 3, 1) := by decide +kernel
theorem dX12_chainClause_5 : decode cX12_chainClause 5 = .ok (.if_icmp .ne 29, 3) := by decide +kernel
theorem dX12_chainClause_8 : decode cX12_chainClause 8 = .ok (.aload_n 0, 1) := by decide +kernel
theorem dX12_chainClause_9 : decode cX12_chainClause 9 = .ok (.getfield 134, 3) := by decide +kernel
theorem dX12_chainClause_12 : decode cX12_chainClause 12 = .ok (.i2l, 1) := by decide +kernel
theorem dX12_chainClause_13 : decode cX12_chainClause 13 = .ok (.lconst 0, 1) := by decide +kernel
theorem dX12_chainClause_14 : decode cX12_chainClause 14 = .ok (.ldc2_w 169, 3) := by decide +kernel
theorem dX12_chainClause_17 : decode cX12_chainClause 17 = .ok (.invokestatic 78, 3) := by decide +kernel
theorem dX12_chainClause_20 : decode cX12_chainClause 20 = .ok (.ifCond .eq 14, 3) := by decide +kernel
theorem dX12_chainClause_23 : decode cX12_chainClause 23 = .ok (.aload_n 0, 1) := by decide +kernel
theorem dX12_chainClause_24 : decode cX12_chainClause 24 = .ok (.bipush 6, 2) := by decide +kernel
theorem dX12_chainClause_26 : decode cX12_chainClause 26 = .ok (.aload_n 0, 1) := by decide +kernel
theorem dX12_chainClause_27 : decode cX12_chainClause 27 = .ok (.getfield 134, 3) := by decide +kernel
theorem dX12_chainClause_30 : decode cX12_chainClause 30 = .ok (.iadd, 1) := by decide +kernel
theorem dX12_chainClause_31 : decode cX12_chainClause 31 = .ok (.invokevirtual 162, 3) := by decide +kernel
theorem dX12_chainClause_34 : decode cX12_chainClause 34 = .ok (.aload_n 0, 1) := by decide +kernel
theorem dX12_chainClause_35 : decode cX12_chainClause 35 = .ok (.iconst 0, 1) := by decide +kernel
theorem dX12_chainClause_36 : decode cX12_chainClause 36 = .ok (.iconst 4, 1) := by decide +kernel
theorem dX12_chainClause_37 : decode cX12_chainClause 37 = .ok (.invokevirtual 165, 3) := by decide +kernel
theorem dX12_chainClause_40 : decode cX12_chainClause 40 = .ok (.istore_n 1, 1) := by decide +kernel
theorem dX12_chainClause_41 : decode cX12_chainClause 41 = .ok (.bipush 6, 2) := by decide +kernel
theorem dX12_chainClause_43 : decode cX12_chainClause 43 = .ok (.bipush 6, 2) := by decide +kernel
theorem dX12_chainClause_45 : decode cX12_chainClause 45 = .ok (.iload_n 1, 1) := by decide +kernel
theorem dX12_chainClause_46 : decode cX12_chainClause 46 = .ok (.imul, 1) := by decide +kernel
theorem dX12_chainClause_47 : decode cX12_chainClause 47 = .ok (.iadd, 1) := by decide +kernel
theorem dX12_chainClause_48 : decode cX12_chainClause 48 = .ok (.istore_n 2, 1) := by decide +kernel
theorem dX12_chainClause_49 : decode cX12_chainClause 49 = .ok (.aload_n 0, 1) := by decide +kernel
theorem dX12_chainClause_50 : decode cX12_chainClause 50 = .ok (.invokevirtual 158, 3) := by decide +kernel
theorem dX12_chainClause_53 : decode cX12_chainClause 53 = .ok (.istore_n 3, 1) := by decide +kernel
theorem dX12_chainClause_54 : decode cX12_chainClause 54 = .ok (.aload_n 0, 1) := by decide +kernel
theorem dX12_chainClause_55 : decode cX12_chainClause 55 = .ok (.getfield 146, 3) := by decide +kernel
theorem dX12_chainClause_58 : decode cX12_chainClause 58 = .ok (.ifCond .ne 7, 3) := by decide +kernel
theorem dX12_chainClause_61 : decode cX12_chainClause 61 = .ok (.aload_n 0, 1) := by decide +kernel
theorem dX12_chainClause_62 : decode cX12_chainClause 62 = .ok (.invokevirtual 155, 3) := by decide +kernel
theorem dX12_chainClause_65 : decode cX12_chainClause 65 = .ok (.aload_n 0, 1) := by decide +kernel
theorem dX12_chainClause_66 : decode cX12_chainClause 66 = .ok (.iconst 1, 1) := by decide +kernel
theorem dX12_chainClause_67 : decode cX12_chainClause 67 = .ok (.bipush 9, 2) := by decide +kernel
theorem dX12_chainClause_69 : decode cX12_chainClause 69 = .ok (.invokevirtual 165, 3) := by decide +kernel
theorem dX12_chainClause_72 : decode cX12_chainClause 72 = .ok (.istore 4, 2) := by decide +kernel
theorem dX12_chainClause_74 : decode cX12_chainClause 74 = .ok (.aload_n 0, 1) := by decide +kernel
theorem dX12_chainClause_75 : decode cX12_chainClause 75 = .ok (.iconst 1, 1) := by decide +kernel
theorem dX12_chainClause_76 : decode cX12_chainClause 76 = .ok (.iconst 2, 1) := by decide +kernel
theorem dX12_chainClause_77 : decode cX12_chainClause 77 = .ok (.invokevirtual 171, 3) := by decide +kernel
theorem dX12_chainClause_80 : decode cX12_chainClause 80 = .ok (.aload_n 0, 1) := by decide +kernel
theorem dX12_chainClause_81 : decode cX12_chainClause 81 = .ok (.invokevirtual 158, 3) := by decide +kernel
theorem dX12_chainClause_84 : decode cX12_chainClause 84 = .ok (.istore 5, 2) := by decide +kernel
theorem dX12_chainClause_86 : decode cX12_chainClause 86 = .ok (.aload_n 0, 1) := by decide +kernel
theorem dX12_chainClause_87 : decode cX12_chainClause 87 = .ok (.getfield 146, 3) := by decide +kernel
theorem dX12_chainClause_90 : decode cX12_chainClause 90 = .ok (.ifCond .ne 14, 3) := by decide +kernel
theorem dX12_chainClause_93 : decode cX12_chainClause 93 = .ok (.iload 5, 2) := by decide +kernel
theorem dX12_chainClause_95 : decode cX12_chainClause 95 = .ok (.iload_n 3, 1) := by decide +kernel
theorem dX12_chainClause_96 : decode cX12_chainClause 96 = .ok (.if_icmp .ne 8, 3) := by decide +kernel
theorem dX12_chainClause_99 : decode cX12_chainClause 99 = .ok (.aload_n 0, 1) := by decide +kernel
theorem dX12_chainClause_100 : decode cX12_chainClause 100 = .ok (.iconst 3, 1) := by decide +kernel
theorem dX12_chainClause_101 : decode cX12_chainClause 101 = .ok (.invokevirtual 152, 3) := by decide +kernel
theorem dX12_chainClause_104 : decode cX12_chainClause 104 = .ok (.aload_n 0, 1) := by decide +kernel
theorem dX12_chainClause_105 : decode cX12_chainClause 105 = .ok (.getfield 146, 3) := by decide +kernel
theorem dX12_chainClause_108 : decode cX12_chainClause 108 = .ok (.ifCond .ne 7, 3) := by decide +kernel
theorem dX12_chainClause_111 : decode cX12_chainClause 111 = .ok (.aload_n 0, 1) := by decide +kernel
theorem dX12_chainClause_112 : decode cX12_chainClause 112 = .ok (.invokevirtual 155, 3) := by decide +kernel
theorem dX12_chainClause_115 : decode cX12_chainClause 115 = .ok (.aload_n 0, 1) := by decide +kernel
theorem dX12_chainClause_116 : decode cX12_chainClause 116 = .ok (.iconst 1, 1) := by decide +kernel
theorem dX12_chainClause_117 : decode cX12_chainClause 117 = .ok (.bipush 9, 2) := by decide +kernel
theorem dX12_chainClause_119 : decode cX12_chainClause 119 = .ok (.invokevirtual 165, 3) := by decide +kernel
theorem dX12_chainClause_122 : decode cX12_chainClause 122 = .ok (.istore 6, 2) := by decide +kernel
theorem dX12_chainClause_124 : decode cX12_chainClause 124 = .ok (.aload_n 0, 1) := by decide +kernel
theorem dX12_chainClause_125 : decode cX12_chainClause 125 = .ok (.iconst 1, 1) := by decide +kernel
theorem dX12_chainClause_126 : decode cX12_chainClause 126 = .ok (.iconst 3, 1) := by decide +kernel
theorem dX12_chainClause_127 : decode cX12_chainClause 127 = .ok (.invokevirtual 171, 3) := by decide +kernel
theorem dX12_chainClause_130 : decode cX12_chainClause 130 = .ok (.aload_n 0, 1) := by decide +kernel
theorem dX12_chainClause_131 : decode cX12_chainClause 131 = .ok (.iconst 0, 1) := by decide +kernel
theorem dX12_chainClause_132 : decode cX12_chainClause 132 = .ok (.sipush 999, 3) := by decide +kernel
theorem dX12_chainClause_135 : decode cX12_chainClause 135 = .ok (.invokevirtual 165, 3) := by decide +kernel
theorem dX12_chainClause_138 : decode cX12_chainClause 138 = .ok (.istore 7, 2) := by decide +kernel
theorem dX12_chainClause_140 : decode cX12_chainClause 140 = .ok (.aload_n 0, 1) := by decide +kernel
theorem dX12_chainClause_141 : decode cX12_chainClause 141 = .ok (.getfield 146, 3) := by decide +kernel
theorem dX12_chainClause_144 : decode cX12_chainClause 144 = .ok (.ifCond .ne 59, 3) := by decide +kernel
theorem dX12_chainClause_147 : decode cX12_chainClause 147 = .ok (.aload_n 0, 1) := by decide +kernel
theorem dX12_chainClause_148 : decode cX12_chainClause 148 = .ok (.getfield 44, 3) := by decide +kernel
theorem dX12_chainClause_151 : decode cX12_chainClause 151 = .ok (.iload_n 2, 1) := by decide +kernel
theorem dX12_chainClause_152 : decode cX12_chainClause 152 = .ok (.iconst 1, 1) := by decide +kernel
theorem dX12_chainClause_153 : decode cX12_chainClause 153 = .ok (.iastore, 1) := by decide +kernel
theorem dX12_chainClause_154 : decode cX12_chainClause 154 = .ok (.aload_n 0, 1) := by decide +kernel
theorem dX12_chainClause_155 : decode cX12_chainClause 155 = .ok (.getfield 44, 3) := by decide +kernel
theorem dX12_chainClause_158 : decode cX12_chainClause 158 = .ok (.iload_n 2, 1) := by decide +kernel
theorem dX12_chainClause_159 : decode cX12_chainClause 159 = .ok (.iconst 1, 1) := by decide +kernel
theorem dX12_chainClause_160 : decode cX12_chainClause 160 = .ok (.iadd, 1) := by decide +kernel
theorem dX12_chainClause_161 : decode cX12_chainClause 161 = .ok (.iload_n 3, 1) := by decide +kernel
theorem dX12_chainClause_162 : decode cX12_chainClause 162 = .ok (.iastore, 1) := by decide +kernel
theorem dX12_chainClause_163 : decode cX12_chainClause 163 = .ok (.aload_n 0, 1) := by decide +kernel
theorem dX12_chainClause_164 : decode cX12_chainClause 164 = .ok (.getfield 44, 3) := by decide +kernel
theorem dX12_chainClause_167 : decode cX12_chainClause 167 = .ok (.iload_n 2, 1) := by decide +kernel
theorem dX12_chainClause_168 : decode cX12_chainClause 168 = .ok (.iconst 2, 1) := by decide +kernel
theorem dX12_chainClause_169 : decode cX12_chainClause 169 = .ok (.iadd, 1) := by decide +kernel
theorem dX12_chainClause_170 : decode cX12_chainClause 170 = .ok (.iload 4, 2) := by decide +kernel
theorem dX12_chainClause_172 : decode cX12_chainClause 172 = .ok (.iastore, 1) := by decide +kernel
theorem dX12_chainClause_173 : decode cX12_chainClause 173 = .ok (.aload_n 0, 1) := by decide +kernel
theorem dX12_chainClause_174 : decode cX12_chainClause 174 = .ok (.getfield 44, 3) := by decide +kernel
theorem dX12_chainClause_177 : decode cX12_chainClause 177 = .ok (.iload_n 2, 1) := by decide +kernel
theorem dX12_chainClause_178 : decode cX12_chainClause 178 = .ok (.iconst 3, 1) := by decide +kernel
theorem dX12_chainClause_179 : decode cX12_chainClause 179 = .ok (.iadd, 1) := by decide +kernel
theorem dX12_chainClause_180 : decode cX12_chainClause 180 = .ok (.iload 5, 2) := by decide +kernel
theorem dX12_chainClause_182 : decode cX12_chainClause 182 = .ok (.iastore, 1) := by decide +kernel
theorem dX12_chainClause_183 : decode cX12_chainClause 183 = .ok (.aload_n 0, 1) := by decide +kernel
theorem dX12_chainClause_184 : decode cX12_chainClause 184 = .ok (.getfield 44, 3) := by decide +kernel
theorem dX12_chainClause_187 : decode cX12_chainClause 187 = .ok (.iload_n 2, 1) := by decide +kernel
theorem dX12_chainClause_188 : decode cX12_chainClause 188 = .ok (.iconst 4, 1) := by decide +kernel
theorem dX12_chainClause_189 : decode cX12_chainClause 189 = .ok (.iadd, 1) := by decide +kernel
theorem dX12_chainClause_190 : decode cX12_chainClause 190 = .ok (.iload 6, 2) := by decide +kernel
theorem dX12_chainClause_192 : decode cX12_chainClause 192 = .ok (.iastore, 1) := by decide +kernel
theorem dX12_chainClause_193 : decode cX12_chainClause 193 = .ok (.aload_n 0, 1) := by decide +kernel
theorem dX12_chainClause_194 : decode cX12_chainClause 194 = .ok (.getfield 44, 3) := by decide +kernel
theorem dX12_chainClause_197 : decode cX12_chainClause 197 = .ok (.iload_n 2, 1) := by decide +kernel
theorem dX12_chainClause_198 : decode cX12_chainClause 198 = .ok (.iconst 5, 1) := by decide +kernel
theorem dX12_chainClause_199 : decode cX12_chainClause 199 = .ok (.iadd, 1) := by decide +kernel
theorem dX12_chainClause_200 : decode cX12_chainClause 200 = .ok (.iload 7, 2) := by decide +kernel
theorem dX12_chainClause_202 : decode cX12_chainClause 202 = .ok (.iastore, 1) := by decide +kernel
theorem dX12_chainClause_203 : decode cX12_chainClause 203 = .ok (.return_, 1) := by decide +kernel
theorem dX12_tableClause_0 : decode cX12_tableClause 0 = .ok (.iload_n 1, 1) := by decide +kernel
theorem dX12_tableClause_1 : decode cX12_tableClause 1 = .ok (.iconst 4, 1) := by decide +kernel
theorem dX12_tableClause_2 : decode cX12_tableClause 2 = .ok (.if_icmp .ne 7, 3) := by decide +kernel
theorem dX12_tableClause_5 : decode cX12_tableClause 5 = .ok (.iconst 0, 1) := by decide +kernel
theorem dX12_tableClause_6 : decode cX12_tableClause 6 = .ok (.goto 4, 3) := by decide +kernel
theorem dX12_tableClause_9 : decode cX12_tableClause 9 = .ok (.iconst 1, 1) := by decide +kernel
theorem dX12_tableClause_10 : decode cX12_tableClause 10 = .ok (.istore_n 2, 1) := by decide +kernel
theorem dX12_tableClause_11 : decode cX12_tableClause 11 = .ok (.iload_n 1, 1) := by decide +kernel
theorem dX12_tableClause_12 : decode cX12_tableClause 12 = .ok (.bipush 6, 2) := by decide +kernel
theorem dX12_tableClause_14 : decode cX12_tableClause 14 = .ok (.if_icmp .ne 46, 3) := by decide +kernel
theorem dX12_tableClause_17 : decode cX12_tableClause 17 = .ok (.aload_n 0, 1) := by decide +kernel
theorem dX12_tableClause_18 : decode cX12_tableClause 18 = .ok (.getfield 124, 3) := by decide +kernel
theorem dX12_tableClause_21 : decode cX12_tableClause 21 = .ok (.iconst 3, 1) := by decide +kernel
theorem dX12_tableClause_22 : decode cX12_tableClause 22 = .ok (.if_icmp .ne 29, 3) := by decide +kernel
theorem dX12_tableClause_25 : decode cX12_tableClause 25 = .ok (.aload_n 0, 1) := by decide +kernel
theorem dX12_tableClause_26 : decode cX12_tableClause 26 = .ok (.getfield 134, 3) := by decide +kernel
theorem dX12_tableClause_29 : decode cX12_tableClause 29 = .ok (.i2l, 1) := by decide +kernel
theorem dX12_tableClause_30 : decode cX12_tableClause 30 = .ok (.lconst 0, 1) := by decide +kernel
theorem dX12_tableClause_31 : decode cX12_tableClause 31 = .ok (.ldc2_w 169, 3) := by decide +kernel
theorem dX12_tableClause_34 : decode cX12_tableClause 34 = .ok (.invokestatic 78, 3) := by decide +kernel
theorem dX12_tableClause_37 : decode cX12_tableClause 37 = .ok (.ifCond .eq 14, 3) := by decide +kernel
theorem dX12_tableClause_40 : decode cX12_tableClause 40 = .ok (.aload_n 0, 1) := by decide +kernel
theorem dX12_tableClause_41 : decode cX12_tableClause 41 = .ok (.bipush 13, 2) := by decide +kernel
theorem dX12_tableClause_43 : decode cX12_tableClause 43 = .ok (.aload_n 0, 1) := by decide +kernel
theorem dX12_tableClause_44 : decode cX12_tableClause 44 = .ok (.getfield 134, 3) := by decide +kernel
theorem dX12_tableClause_47 : decode cX12_tableClause 47 = .ok (.iadd, 1) := by decide +kernel
theorem dX12_tableClause_48 : decode cX12_tableClause 48 = .ok (.invokevirtual 162, 3) := by decide +kernel
theorem dX12_tableClause_51 : decode cX12_tableClause 51 = .ok (.iconst 2, 1) := by decide +kernel
theorem dX12_tableClause_52 : decode cX12_tableClause 52 = .ok (.aload_n 0, 1) := by decide +kernel
theorem dX12_tableClause_53 : decode cX12_tableClause 53 = .ok (.iconst 0, 1) := by decide +kernel
theorem dX12_tableClause_54 : decode cX12_tableClause 54 = .ok (.iconst 4, 1) := by decide +kernel
theorem dX12_tableClause_55 : decode cX12_tableClause 55 = .ok (.invokevirtual 165, 3) := by decide +kernel
theorem dX12_tableClause_58 : decode cX12_tableClause 58 = .ok (.iadd, 1) := by decide +kernel
theorem dX12_tableClause_59 : decode cX12_tableClause 59 = .ok (.istore_n 2, 1) := by decide +kernel
theorem dX12_tableClause_60 : decode cX12_tableClause 60 = .ok (.bipush 36, 2) := by decide +kernel
theorem dX12_tableClause_62 : decode cX12_tableClause 62 = .ok (.bipush 25, 2) := by decide +kernel
theorem dX12_tableClause_64 : decode cX12_tableClause 64 = .ok (.iload_n 2, 1) := by decide +kernel
theorem dX12_tableClause_65 : decode cX12_tableClause 65 = .ok (.imul, 1) := by decide +kernel
theorem dX12_tableClause_66 : decode cX12_tableClause 66 = .ok (.iadd, 1) := by decide +kernel
theorem dX12_tableClause_67 : decode cX12_tableClause 67 = .ok (.istore_n 3, 1) := by decide +kernel
theorem dX12_tableClause_68 : decode cX12_tableClause 68 = .ok (.iconst 0, 1) := by decide +kernel
theorem dX12_tableClause_69 : decode cX12_tableClause 69 = .ok (.istore 4, 2) := by decide +kernel
theorem dX12_tableClause_71 : decode cX12_tableClause 71 = .ok (.iconst (-1), 1) := by decide +kernel
theorem dX12_tableClause_72 : decode cX12_tableClause 72 = .ok (.istore 5, 2) := by decide +kernel
theorem dX12_tableClause_74 : decode cX12_tableClause 74 = .ok (.aload_n 0, 1) := by decide +kernel
theorem dX12_tableClause_75 : decode cX12_tableClause 75 = .ok (.getfield 146, 3) := by decide +kernel
theorem dX12_tableClause_78 : decode cX12_tableClause 78 = .ok (.ifCond .ne 7, 3) := by decide +kernel
theorem dX12_tableClause_81 : decode cX12_tableClause 81 = .ok (.iconst 1, 1) := by decide +kernel
theorem dX12_tableClause_82 : decode cX12_tableClause 82 = .ok (.goto 4, 3) := by decide +kernel
theorem dX12_tableClause_85 : decode cX12_tableClause 85 = .ok (.iconst 0, 1) := by decide +kernel
theorem dX12_tableClause_86 : decode cX12_tableClause 86 = .ok (.istore 6, 2) := by decide +kernel
theorem dX12_tableClause_88 : decode cX12_tableClause 88 = .ok (.iload 6, 2) := by decide +kernel
theorem dX12_tableClause_90 : decode cX12_tableClause 90 = .ok (.ifCond .eq 208, 3) := by decide +kernel
theorem dX12_tableClause_93 : decode cX12_tableClause 93 = .ok (.aload_n 0, 1) := by decide +kernel
theorem dX12_tableClause_94 : decode cX12_tableClause 94 = .ok (.getfield 124, 3) := by decide +kernel
theorem dX12_tableClause_97 : decode cX12_tableClause 97 = .ok (.iconst 3, 1) := by decide +kernel
theorem dX12_tableClause_98 : decode cX12_tableClause 98 = .ok (.if_icmp .ne 34, 3) := by decide +kernel
theorem dX12_tableClause_101 : decode cX12_tableClause 101 = .ok (.iload 4, 2) := by decide +kernel
theorem dX12_tableClause_103 : decode cX12_tableClause 103 = .ok (.bipush 8, 2) := by decide +kernel
theorem dX12_tableClause_105 : decode cX12_tableClause 105 = .ok (.if_icmp .ne 27, 3) := by decide +kernel
theorem dX12_tableClause_108 : decode cX12_tableClause 108 = .ok (.aload_n 0, 1) := by decide +kernel
theorem dX12_tableClause_109 : decode cX12_tableClause 109 = .ok (.getfield 134, 3) := by decide +kernel
theorem dX12_tableClause_112 : decode cX12_tableClause 112 = .ok (.i2l, 1) := by decide +kernel
theorem dX12_tableClause_113 : decode cX12_tableClause 113 = .ok (.iload 5, 2) := by decide +kernel
theorem dX12_tableClause_115 : decode cX12_tableClause 115 = .ok (.iconst 1, 1) := by decide +kernel
theorem dX12_tableClause_116 : decode cX12_tableClause 116 = .ok (.iadd, 1) := by decide +kernel
theorem dX12_tableClause_117 : decode cX12_tableClause 117 = .ok (.i2l, 1) := by decide +kernel
theorem dX12_tableClause_118 : decode cX12_tableClause 118 = .ok (.ldc2_w 175, 3) := by decide +kernel
theorem dX12_tableClause_121 : decode cX12_tableClause 121 = .ok (.invokestatic 78, 3) := by decide +kernel
theorem dX12_tableClause_124 : decode cX12_tableClause 124 = .ok (.ifCond .eq 8, 3) := by decide +kernel
theorem dX12_tableClause_127 : decode cX12_tableClause 127 = .ok (.aload_n 0, 1) := by decide +kernel
theorem dX12_tableClause_128 : decode cX12_tableClause 128 = .ok (.iconst 5, 1) := by decide +kernel
theorem dX12_tableClause_129 : decode cX12_tableClause 129 = .ok (.invokevirtual 152, 3) := by decide +kernel
theorem dX12_tableClause_132 : decode cX12_tableClause 132 = .ok (.aload_n 0, 1) := by decide +kernel
theorem dX12_tableClause_133 : decode cX12_tableClause 133 = .ok (.iload 5, 2) := by decide +kernel
theorem dX12_tableClause_135 : decode cX12_tableClause 135 = .ok (.ifCond .ge 7, 3) := by decide +kernel
theorem dX12_tableClause_138 : decode cX12_tableClause 138 = .ok (.iconst 0, 1) := by decide +kernel
theorem dX12_tableClause_139 : decode cX12_tableClause 139 = .ok (.goto 7, 3) := by decide +kernel
theorem dX12_tableClause_142 : decode cX12_tableClause 142 = .ok (.iload 5, 2) := by decide +kernel
theorem dX12_tableClause_144 : decode cX12_tableClause 144 = .ok (.iconst 1, 1) := by decide +kernel
theorem dX12_tableClause_145 : decode cX12_tableClause 145 = .ok (.iadd, 1) := by decide +kernel
theorem dX12_tableClause_146 : decode cX12_tableClause 146 = .ok (.sipush 999, 3) := by decide +kernel
theorem dX12_tableClause_149 : decode cX12_tableClause 149 = .ok (.invokevirtual 165, 3) := by decide +kernel
theorem dX12_tableClause_152 : decode cX12_tableClause 152 = .ok (.istore 7, 2) := by decide +kernel
theorem dX12_tableClause_154 : decode cX12_tableClause 154 = .ok (.aload_n 0, 1) := by decide +kernel
theorem dX12_tableClause_155 : decode cX12_tableClause 155 = .ok (.iconst 4, 1) := by decide +kernel
theorem dX12_tableClause_156 : decode cX12_tableClause 156 = .ok (.bipush 61, 2) := by decide +kernel
theorem dX12_tableClause_158 : decode cX12_tableClause 158 = .ok (.invokevirtual 171, 3) := by decide +kernel
theorem dX12_tableClause_161 : decode cX12_tableClause 161 = .ok (.aload_n 0, 1) := by decide +kernel
theorem dX12_tableClause_162 : decode cX12_tableClause 162 = .ok (.iconst 0, 1) := by decide +kernel
theorem dX12_tableClause_163 : decode cX12_tableClause 163 = .ok (.sipush 9999, 3) := by decide +kernel
theorem dX12_tableClause_166 : decode cX12_tableClause 166 = .ok (.invokevirtual 165, 3) := by decide +kernel
theorem dX12_tableClause_169 : decode cX12_tableClause 169 = .ok (.istore 8, 2) := by decide +kernel
theorem dX12_tableClause_171 : decode cX12_tableClause 171 = .ok (.aload_n 0, 1) := by decide +kernel
theorem dX12_tableClause_172 : decode cX12_tableClause 172 = .ok (.iconst 1, 1) := by decide +kernel
theorem dX12_tableClause_173 : decode cX12_tableClause 173 = .ok (.iconst 2, 1) := by decide +kernel
theorem dX12_tableClause_174 : decode cX12_tableClause 174 = .ok (.invokevirtual 171, 3) := by decide +kernel
theorem dX12_tableClause_177 : decode cX12_tableClause 177 = .ok (.aload_n 0, 1) := by decide +kernel
theorem dX12_tableClause_178 : decode cX12_tableClause 178 = .ok (.iload 8, 2) := by decide +kernel
theorem dX12_tableClause_180 : decode cX12_tableClause 180 = .ok (.sipush 9999, 3) := by decide +kernel
theorem dX12_tableClause_183 : decode cX12_tableClause 183 = .ok (.invokevirtual 165, 3) := by decide +kernel
theorem dX12_tableClause_186 : decode cX12_tableClause 186 = .ok (.istore 9, 2) := by decide +kernel
theorem dX12_tableClause_188 : decode cX12_tableClause 188 = .ok (.aload_n 0, 1) := by decide +kernel
theorem dX12_tableClause_189 : decode cX12_tableClause 189 = .ok (.getfield 146, 3) := by decide +kernel
theorem dX12_tableClause_192 : decode cX12_tableClause 192 = .ok (.ifCond .ne 63, 3) := by decide +kernel
theorem dX12_tableClause_195 : decode cX12_tableClause 195 = .ok (.aload_n 0, 1) := by decide +kernel
theorem dX12_tableClause_196 : decode cX12_tableClause 196 = .ok (.getfield 44, 3) := by decide +kernel
theorem dX12_tableClause_199 : decode cX12_tableClause 199 = .ok (.iload_n 3, 1) := by decide +kernel
theorem dX12_tableClause_200 : decode cX12_tableClause 200 = .ok (.iconst 1, 1) := by decide +kernel
theorem dX12_tableClause_201 : decode cX12_tableClause 201 = .ok (.iadd, 1) := by decide +kernel
theorem dX12_tableClause_202 : decode cX12_tableClause 202 = .ok (.iconst 3, 1) := by decide +kernel
theorem dX12_tableClause_203 : decode cX12_tableClause 203 = .ok (.iload 4, 2) := by decide +kernel
theorem dX12_tableClause_205 : decode cX12_tableClause 205 = .ok (.imul, 1) := by decide +kernel
theorem dX12_tableClause_206 : decode cX12_tableClause 206 = .ok (.iadd, 1) := by decide +kernel
theorem dX12_tableClause_207 : decode cX12_tableClause 207 = .ok (.iload 7, 2) := by decide +kernel
theorem dX12_tableClause_209 : decode cX12_tableClause 209 = .ok (.iastore, 1) := by decide +kernel
theorem dX12_tableClause_210 : decode cX12_tableClause 210 = .ok (.aload_n 0, 1) := by decide +kernel
theorem dX12_tableClause_211 : decode cX12_tableClause 211 = .ok (.getfield 44, 3) := by decide +kernel
theorem dX12_tableClause_214 : decode cX12_tableClause 214 = .ok (.iload_n 3, 1) := by decide +kernel
theorem dX12_tableClause_215 : decode cX12_tableClause 215 = .ok (.iconst 2, 1) := by decide +kernel
theorem dX12_tableClause_216 : decode cX12_tableClause 216 = .ok (.iadd, 1) := by decide +kernel
theorem dX12_tableClause_217 : decode cX12_tableClause 217 = .ok (.iconst 3, 1) := by decide +kernel
theorem dX12_tableClause_218 : decode cX12_tableClause 218 = .ok (.iload 4, 2) := by decide +kernel
theorem dX12_tableClause_220 : decode cX12_tableClause 220 = .ok (.imul, 1) := by decide +kernel
theorem dX12_tableClause_221 : decode cX12_tableClause 221 = .ok (.iadd, 1) := by decide +kernel
theorem dX12_tableClause_222 : decode cX12_tableClause 222 = .ok (.iload 8, 2) := by decide +kernel
theorem dX12_tableClause_224 : decode cX12_tableClause 224 = .ok (.iastore, 1) := by decide +kernel
theorem dX12_tableClause_225 : decode cX12_tableClause 225 = .ok (.aload_n 0, 1) := by decide +kernel
theorem dX12_tableClause_226 : decode cX12_tableClause 226 = .ok (.getfield 44, 3) := by decide +kernel
theorem dX12_tableClause_229 : decode cX12_tableClause 229 = .ok (.iload_n 3, 1) := by decide +kernel
theorem dX12_tableClause_230 : decode cX12_tableClause 230 = .ok (.iconst 3, 1) := by decide +kernel
theorem dX12_tableClause_231 : decode cX12_tableClause 231 = .ok (.iadd, 1) := by decide +kernel
theorem dX12_tableClause_232 : decode cX12_tableClause 232 = .ok (.iconst 3, 1) := by decide +kernel
theorem dX12_tableClause_233 : decode cX12_tableClause 233 = .ok (.iload 4, 2) := by decide +kernel
theorem dX12_tableClause_235 : decode cX12_tableClause 235 = .ok (.imul, 1) := by decide +kernel
theorem dX12_tableClause_236 : decode cX12_tableClause 236 = .ok (.iadd, 1) := by decide +kernel
theorem dX12_tableClause_237 : decode cX12_tableClause 237 = .ok (.iload 9, 2) := by decide +kernel
theorem dX12_tableClause_239 : decode cX12_tableClause 239 = .ok (.iastore, 1) := by decide +kernel
theorem dX12_tableClause_240 : decode cX12_tableClause 240 = .ok (.iinc 4 1, 3) := by decide +kernel
theorem dX12_tableClause_243 : decode cX12_tableClause 243 = .ok (.aload_n 0, 1) := by decide +kernel
theorem dX12_tableClause_244 : decode cX12_tableClause 244 = .ok (.getfield 44, 3) := by decide +kernel
theorem dX12_tableClause_247 : decode cX12_tableClause 247 = .ok (.iload_n 3, 1) := by decide +kernel
theorem dX12_tableClause_248 : decode cX12_tableClause 248 = .ok (.iload 4, 2) := by decide +kernel
theorem dX12_tableClause_250 : decode cX12_tableClause 250 = .ok (.iastore, 1) := by decide +kernel
theorem dX12_tableClause_251 : decode cX12_tableClause 251 = .ok (.iload 7, 2) := by decide +kernel
theorem dX12_tableClause_253 : decode cX12_tableClause 253 = .ok (.istore 5, 2) := by decide +kernel
theorem dX12_tableClause_255 : decode cX12_tableClause 255 = .ok (.aload_n 0, 1) := by decide +kernel
theorem dX12_tableClause_256 : decode cX12_tableClause 256 = .ok (.getfield 146, 3) := by decide +kernel
theorem dX12_tableClause_259 : decode cX12_tableClause 259 = .ok (.ifCond .ne 24, 3) := by decide +kernel
theorem dX12_tableClause_262 : decode cX12_tableClause 262 = .ok (.aload_n 0, 1) := by decide +kernel
theorem dX12_tableClause_263 : decode cX12_tableClause 263 = .ok (.getfield 124, 3) := by decide +kernel
theorem dX12_tableClause_266 : decode cX12_tableClause 266 = .ok (.iconst 4, 1) := by decide +kernel
theorem dX12_tableClause_267 : decode cX12_tableClause 267 = .ok (.if_icmp .ne 16, 3) := by decide +kernel
theorem dX12_tableClause_270 : decode cX12_tableClause 270 = .ok (.aload_n 0, 1) := by decide +kernel
theorem dX12_tableClause_271 : decode cX12_tableClause 271 = .ok (.getfield 134, 3) := by decide +kernel
theorem dX12_tableClause_274 : decode cX12_tableClause 274 = .ok (.bipush 44, 2) := by decide +kernel
theorem dX12_tableClause_276 : decode cX12_tableClause 276 = .ok (.if_icmp .ne 7, 3) := by decide +kernel
theorem dX12_tableClause_279 : decode cX12_tableClause 279 = .ok (.iconst 1, 1) := by decide +kernel
theorem dX12_tableClause_280 : decode cX12_tableClause 280 = .ok (.goto 4, 3) := by decide +kernel
theorem dX12_tableClause_283 : decode cX12_tableClause 283 = .ok (.iconst 0, 1) := by decide +kernel
theorem dX12_tableClause_284 : decode cX12_tableClause 284 = .ok (.istore 6, 2) := by decide +kernel
theorem dX12_tableClause_286 : decode cX12_tableClause 286 = .ok (.iload 6, 2) := by decide +kernel
theorem dX12_tableClause_288 : decode cX12_tableClause 288 = .ok (.ifCond .eq 7, 3) := by decide +kernel
theorem dX12_tableClause_291 : decode cX12_tableClause 291 = .ok (.aload_n 0, 1) := by decide +kernel
theorem dX12_tableClause_292 : decode cX12_tableClause 292 = .ok (.invokevirtual 155, 3) := by decide +kernel
theorem dX12_tableClause_295 : decode cX12_tableClause 295 = .ok (.goto (-207), 3) := by decide +kernel
theorem dX12_tableClause_298 : decode cX12_tableClause 298 = .ok (.return_, 1) := by decide +kernel
theorem dX12_clause_0 : decode cX12_clause 0 = .ok (.aload_n 0, 1) := by decide +kernel
theorem dX12_clause_1 : decode cX12_clause 1 = .ok (.getfield 124, 3) := by decide +kernel
theorem dX12_clause_4 : decode cX12_clause 4 = .ok (.iconst 1, 1) := by decide +kernel
theorem dX12_clause_5 : decode cX12_clause 5 = .ok (.if_icmp .ne 19, 3) := by decide +kernel
theorem dX12_clause_8 : decode cX12_clause 8 = .ok (.aload_n 0, 1) := by decide +kernel
theorem dX12_clause_9 : decode cX12_clause 9 = .ok (.getfield 134, 3) := by decide +kernel
theorem dX12_clause_12 : decode cX12_clause 12 = .ok (.iconst 2, 1) := by decide +kernel
theorem dX12_clause_13 : decode cX12_clause 13 = .ok (.if_icmp .eq 11, 3) := by decide +kernel
theorem dX12_clause_16 : decode cX12_clause 16 = .ok (.aload_n 0, 1) := by decide +kernel
theorem dX12_clause_17 : decode cX12_clause 17 = .ok (.getfield 134, 3) := by decide +kernel
theorem dX12_clause_20 : decode cX12_clause 20 = .ok (.iconst 3, 1) := by decide +kernel
theorem dX12_clause_21 : decode cX12_clause 21 = .ok (.if_icmp .ne 9, 3) := by decide +kernel
theorem dX12_clause_24 : decode cX12_clause 24 = .ok (.aload_n 0, 1) := by decide +kernel
theorem dX12_clause_25 : decode cX12_clause 25 = .ok (.iconst 1, 1) := by decide +kernel
theorem dX12_clause_26 : decode cX12_clause 26 = .ok (.invokevirtual 152, 3) := by decide +kernel
theorem dX12_clause_29 : decode cX12_clause 29 = .ok (.return_, 1) := by decide +kernel
theorem dX12_clause_30 : decode cX12_clause 30 = .ok (.aload_n 0, 1) := by decide +kernel
theorem dX12_clause_31 : decode cX12_clause 31 = .ok (.getfield 134, 3) := by decide +kernel
theorem dX12_clause_34 : decode cX12_clause 34 = .ok (.istore_n 1, 1) := by decide +kernel
theorem dX12_clause_35 : decode cX12_clause 35 = .ok (.iload_n 1, 1) := by decide +kernel
theorem dX12_clause_36 : decode cX12_clause 36 = .ok (.iconst 4, 1) := by decide +kernel
theorem dX12_clause_37 : decode cX12_clause 37 = .ok (.if_icmp .eq 8, 3) := by decide +kernel
theorem dX12_clause_40 : decode cX12_clause 40 = .ok (.iload_n 1, 1) := by decide +kernel
theorem dX12_clause_41 : decode cX12_clause 41 = .ok (.iconst 5, 1) := by decide +kernel
theorem dX12_clause_42 : decode cX12_clause 42 = .ok (.if_icmp .ne 19, 3) := by decide +kernel
theorem dX12_clause_45 : decode cX12_clause 45 = .ok (.aload_n 0, 1) := by decide +kernel
theorem dX12_clause_46 : decode cX12_clause 46 = .ok (.iload_n 1, 1) := by decide +kernel
theorem dX12_clause_47 : decode cX12_clause 47 = .ok (.iconst 4, 1) := by decide +kernel
theorem dX12_clause_48 : decode cX12_clause 48 = .ok (.if_icmp .ne 8, 3) := by decide +kernel
theorem dX12_clause_51 : decode cX12_clause 51 = .ok (.bipush 11, 2) := by decide +kernel
theorem dX12_clause_53 : decode cX12_clause 53 = .ok (.goto 5, 3) := by decide +kernel
theorem dX12_clause_56 : decode cX12_clause 56 = .ok (.bipush 12, 2) := by decide +kernel
theorem dX12_clause_58 : decode cX12_clause 58 = .ok (.invokevirtual 162, 3) := by decide +kernel
theorem dX12_clause_61 : decode cX12_clause 61 = .ok (.aload_n 0, 1) := by decide +kernel
theorem dX12_clause_62 : decode cX12_clause 62 = .ok (.getfield 146, 3) := by decide +kernel
theorem dX12_clause_65 : decode cX12_clause 65 = .ok (.ifCond .ne 7, 3) := by decide +kernel
theorem dX12_clause_68 : decode cX12_clause 68 = .ok (.aload_n 0, 1) := by decide +kernel
theorem dX12_clause_69 : decode cX12_clause 69 = .ok (.invokevirtual 155, 3) := by decide +kernel
theorem dX12_clause_72 : decode cX12_clause 72 = .ok (.aload_n 0, 1) := by decide +kernel
theorem dX12_clause_73 : decode cX12_clause 73 = .ok (.getfield 146, 3) := by decide +kernel
theorem dX12_clause_76 : decode cX12_clause 76 = .ok (.ifCond .le 4, 3) := by decide +kernel
theorem dX12_clause_79 : decode cX12_clause 79 = .ok (.return_, 1) := by decide +kernel
theorem dX12_clause_80 : decode cX12_clause 80 = .ok (.iload_n 1, 1) := by decide +kernel
theorem dX12_clause_81 : decode cX12_clause 81 = .ok (.ifCond .ne 10, 3) := by decide +kernel
theorem dX12_clause_84 : decode cX12_clause 84 = .ok (.aload_n 0, 1) := by decide +kernel
theorem dX12_clause_85 : decode cX12_clause 85 = .ok (.invokevirtual 177, 3) := by decide +kernel
theorem dX12_clause_88 : decode cX12_clause 88 = .ok (.goto 20, 3) := by decide +kernel
theorem dX12_clause_91 : decode cX12_clause 91 = .ok (.iload_n 1, 1) := by decide +kernel
theorem dX12_clause_92 : decode cX12_clause 92 = .ok (.iconst 1, 1) := by decide +kernel
theorem dX12_clause_93 : decode cX12_clause 93 = .ok (.if_icmp .ne 10, 3) := by decide +kernel
theorem dX12_clause_96 : decode cX12_clause 96 = .ok (.aload_n 0, 1) := by decide +kernel
theorem dX12_clause_97 : decode cX12_clause 97 = .ok (.invokevirtual 180, 3) := by decide +kernel
theorem dX12_clause_100 : decode cX12_clause 100 = .ok (.goto 8, 3) := by decide +kernel
theorem dX12_clause_103 : decode cX12_clause 103 = .ok (.aload_n 0, 1) := by decide +kernel
theorem dX12_clause_104 : decode cX12_clause 104 = .ok (.iload_n 1, 1) := by decide +kernel
theorem dX12_clause_105 : decode cX12_clause 105 = .ok (.invokevirtual 183, 3) := by decide +kernel
theorem dX12_clause_108 : decode cX12_clause 108 = .ok (.aload_n 0, 1) := by decide +kernel
theorem dX12_clause_109 : decode cX12_clause 109 = .ok (.iconst 4, 1) := by decide +kernel
theorem dX12_clause_110 : decode cX12_clause 110 = .ok (.bipush 59, 2) := by decide +kernel
theorem dX12_clause_112 : decode cX12_clause 112 = .ok (.invokevirtual 171, 3) := by decide +kernel
theorem dX12_clause_115 : decode cX12_clause 115 = .ok (.return_, 1) := by decide +kernel
theorem dX12_isEven_0 : decode cX12_isEven 0 = .ok (.iconst 1, 1) := by decide +kernel
theorem dX12_isEven_1 : decode cX12_isEven 1 = .ok (.istore_n 1, 1) := by decide +kernel
theorem dX12_isEven_2 : decode cX12_isEven 2 = .ok (.iconst 0, 1) := by decide +kernel
theorem dX12_isEven_3 : decode cX12_isEven 3 = .ok (.istore_n 2, 1) := by decide +kernel
theorem dX12_isEven_4 : decode cX12_isEven 4 = .ok (.iload_n 2, 1) := by decide +kernel
theorem dX12_isEven_5 : decode cX12_isEven 5 = .ok (.iconst 5, 1) := by decide +kernel
theorem dX12_isEven_6 : decode cX12_isEven 6 = .ok (.if_icmp .ge 109, 3) := by decide +kernel
theorem dX12_isEven_9 : decode cX12_isEven 9 = .ok (.bipush 6, 2) := by decide +kernel
theorem dX12_isEven_11 : decode cX12_isEven 11 = .ok (.bipush 6, 2) := by decide +kernel
theorem dX12_isEven_13 : decode cX12_isEven 13 = .ok (.iload_n 2, 1) := by decide +kernel
theorem dX12_isEven_14 : decode cX12_isEven 14 = .ok (.imul, 1) := by decide +kernel
theorem dX12_isEven_15 : decode cX12_isEven 15 = .ok (.iadd, 1) := by decide +kernel
theorem dX12_isEven_16 : decode cX12_isEven 16 = .ok (.istore_n 3, 1) := by decide +kernel
theorem dX12_isEven_17 : decode cX12_isEven 17 = .ok (.aload_n 0, 1) := by decide +kernel
theorem dX12_isEven_18 : decode cX12_isEven 18 = .ok (.getfield 44, 3) := by decide +kernel
theorem dX12_isEven_21 : decode cX12_isEven 21 = .ok (.aload_n 0, 1) := by decide +kernel
theorem dX12_isEven_22 : decode cX12_isEven 22 = .ok (.getfield 44, 3) := by decide +kernel
theorem dX12_isEven_25 : decode cX12_isEven 25 = .ok (.iload_n 3, 1) := by decide +kernel
theorem dX12_isEven_26 : decode cX12_isEven 26 = .ok (.iconst 1, 1) := by decide +kernel
theorem dX12_isEven_27 : decode cX12_isEven 27 = .ok (.iadd, 1) := by decide +kernel
theorem dX12_isEven_28 : decode cX12_isEven 28 = .ok (.iaload, 1) := by decide +kernel
theorem dX12_isEven_29 : decode cX12_isEven 29 = .ok (.iaload, 1) := by decide +kernel
theorem dX12_isEven_30 : decode cX12_isEven 30 = .ok (.istore 4, 2) := by decide +kernel
theorem dX12_isEven_32 : decode cX12_isEven 32 = .ok (.aload_n 0, 1) := by decide +kernel
theorem dX12_isEven_33 : decode cX12_isEven 33 = .ok (.getfield 44, 3) := by decide +kernel
theorem dX12_isEven_36 : decode cX12_isEven 36 = .ok (.aload_n 0, 1) := by decide +kernel
theorem dX12_isEven_37 : decode cX12_isEven 37 = .ok (.getfield 44, 3) := by decide +kernel
theorem dX12_isEven_40 : decode cX12_isEven 40 = .ok (.iload_n 3, 1) := by decide +kernel
theorem dX12_isEven_41 : decode cX12_isEven 41 = .ok (.iconst 3, 1) := by decide +kernel
theorem dX12_isEven_42 : decode cX12_isEven 42 = .ok (.iadd, 1) := by decide +kernel
theorem dX12_isEven_43 : decode cX12_isEven 43 = .ok (.iaload, 1) := by decide +kernel
theorem dX12_isEven_44 : decode cX12_isEven 44 = .ok (.iaload, 1) := by decide +kernel
theorem dX12_isEven_45 : decode cX12_isEven 45 = .ok (.istore 5, 2) := by decide +kernel
theorem dX12_isEven_47 : decode cX12_isEven 47 = .ok (.iload_n 1, 1) := by decide +kernel
theorem dX12_isEven_48 : decode cX12_isEven 48 = .ok (.ifCond .eq 59, 3) := by decide +kernel
theorem dX12_isEven_51 : decode cX12_isEven 51 = .ok (.aload_n 0, 1) := by decide +kernel
theorem dX12_isEven_52 : decode cX12_isEven 52 = .ok (.getfield 44, 3) := by decide +kernel
theorem dX12_isEven_55 : decode cX12_isEven 55 = .ok (.iload_n 3, 1) := by decide +kernel
theorem dX12_isEven_56 : decode cX12_isEven 56 = .ok (.iaload, 1) := by decide +kernel
theorem dX12_isEven_57 : decode cX12_isEven 57 = .ok (.ifCond .eq 46, 3) := by decide +kernel
theorem dX12_isEven_60 : decode cX12_isEven 60 = .ok (.aload_n 0, 1) := by decide +kernel
theorem dX12_isEven_61 : decode cX12_isEven 61 = .ok (.getfield 44, 3) := by decide +kernel
theorem dX12_isEven_64 : decode cX12_isEven 64 = .ok (.iload_n 3, 1) := by decide +kernel
theorem dX12_isEven_65 : decode cX12_isEven 65 = .ok (.iconst 2, 1) := by decide +kernel
theorem dX12_isEven_66 : decode cX12_isEven 66 = .ok (.iadd, 1) := by decide +kernel
theorem dX12_isEven_67 : decode cX12_isEven 67 = .ok (.iaload, 1) := by decide +kernel
theorem dX12_isEven_68 : decode cX12_isEven 68 = .ok (.iload 4, 2) := by decide +kernel
theorem dX12_isEven_70 : decode cX12_isEven 70 = .ok (.ifCond .ne 7, 3) := by decide +kernel
theorem dX12_isEven_73 : decode cX12_isEven 73 = .ok (.iconst 1, 1) := by decide +kernel
theorem dX12_isEven_74 : decode cX12_isEven 74 = .ok (.goto 5, 3) := by decide +kernel
theorem dX12_isEven_77 : decode cX12_isEven 77 = .ok (.iload 4, 2) := by decide +kernel
theorem dX12_isEven_79 : decode cX12_isEven 79 = .ok (.imul, 1) := by decide +kernel
theorem dX12_isEven_80 : decode cX12_isEven 80 = .ok (.aload_n 0, 1) := by decide +kernel
theorem dX12_isEven_81 : decode cX12_isEven 81 = .ok (.getfield 44, 3) := by decide +kernel
theorem dX12_isEven_84 : decode cX12_isEven 84 = .ok (.iload_n 3, 1) := by decide +kernel
theorem dX12_isEven_85 : decode cX12_isEven 85 = .ok (.iconst 4, 1) := by decide +kernel
theorem dX12_isEven_86 : decode cX12_isEven 86 = .ok (.iadd, 1) := by decide +kernel
theorem dX12_isEven_87 : decode cX12_isEven 87 = .ok (.iaload, 1) := by decide +kernel
theorem dX12_isEven_88 : decode cX12_isEven 88 = .ok (.iload 5, 2) := by decide +kernel
theorem dX12_isEven_90 : decode cX12_isEven 90 = .ok (.ifCond .ne 7, 3) := by decide +kernel
theorem dX12_isEven_93 : decode cX12_isEven 93 = .ok (.iconst 1, 1) := by decide +kernel
theorem dX12_isEven_94 : decode cX12_isEven 94 = .ok (.goto 5, 3) := by decide +kernel
theorem dX12_isEven_97 : decode cX12_isEven 97 = .ok (.iload 5, 2) := by decide +kernel
theorem dX12_isEven_99 : decode cX12_isEven 99 = .ok (.imul, 1) := by decide +kernel
theorem dX12_isEven_100 : decode cX12_isEven 100 = .ok (.if_icmp .ne 7, 3) := by decide +kernel
theorem dX12_isEven_103 : decode cX12_isEven 103 = .ok (.iconst 1, 1) := by decide +kernel
theorem dX12_isEven_104 : decode cX12_isEven 104 = .ok (.goto 4, 3) := by decide +kernel
theorem dX12_isEven_107 : decode cX12_isEven 107 = .ok (.iconst 0, 1) := by decide +kernel
theorem dX12_isEven_108 : decode cX12_isEven 108 = .ok (.istore_n 1, 1) := by decide +kernel
theorem dX12_isEven_109 : decode cX12_isEven 109 = .ok (.iinc 2 1, 3) := by decide +kernel
theorem dX12_isEven_112 : decode cX12_isEven 112 = .ok (.goto (-108), 3) := by decide +kernel
theorem dX12_isEven_115 : decode cX12_isEven 115 = .ok (.iload_n 1, 1) := by decide +kernel
theorem dX12_isEven_116 : decode cX12_isEven 116 = .ok (.ireturn, 1) := by decide +kernel
theorem dX12_text_0 : decode cX12_text 0 = .ok (.aload_n 0, 1) := by decide +kernel
theorem dX12_text_1 : decode cX12_text 1 = .ok (.getfield 7, 3) := by decide +kernel
theorem dX12_text_4 : decode cX12_text 4 = .ok (.iconst 0, 1) := by decide +kernel
theorem dX12_text_5 : decode cX12_text 5 = .ok (.iaload, 1) := by decide +kernel
theorem dX12_text_6 : decode cX12_text 6 = .ok (.bipush 30, 2) := by decide +kernel
theorem dX12_text_8 : decode cX12_text 8 = .ok (.if_icmp .ne 5, 3) := by decide +kernel
theorem dX12_text_11 : decode cX12_text 11 = .ok (.iconst (-1), 1) := by decide +kernel
theorem dX12_text_12 : decode cX12_text 12 = .ok (.ireturn, 1) := by decide +kernel
theorem dX12_text_13 : decode cX12_text 13 = .ok (.aload_n 0, 1) := by decide +kernel
theorem dX12_text_14 : decode cX12_text 14 = .ok (.aload_n 0, 1) := by decide +kernel
theorem dX12_text_15 : decode cX12_text 15 = .ok (.getfield 86, 3) := by decide +kernel
theorem dX12_text_18 : decode cX12_text 18 = .ok (.putfield 118, 3) := by decide +kernel
theorem dX12_text_21 : decode cX12_text 21 = .ok (.aload_n 0, 1) := by decide +kernel
theorem dX12_text_22 : decode cX12_text 22 = .ok (.iconst 0, 1) := by decide +kernel
theorem dX12_text_23 : decode cX12_text 23 = .ok (.putfield 86, 3) := by decide +kernel
theorem dX12_text_26 : decode cX12_text 26 = .ok (.aload_n 0, 1) := by decide +kernel
theorem dX12_text_27 : decode cX12_text 27 = .ok (.iconst 0, 1) := by decide +kernel
theorem dX12_text_28 : decode cX12_text 28 = .ok (.putfield 115, 3) := by decide +kernel
theorem dX12_text_31 : decode cX12_text 31 = .ok (.aload_n 0, 1) := by decide +kernel
theorem dX12_text_32 : decode cX12_text 32 = .ok (.iconst 0, 1) := by decide +kernel
theorem dX12_text_33 : decode cX12_text 33 = .ok (.putfield 146, 3) := by decide +kernel
theorem dX12_text_36 : decode cX12_text 36 = .ok (.aload_n 0, 1) := by decide +kernel
theorem dX12_text_37 : decode cX12_text 37 = .ok (.iconst (-1), 1) := by decide +kernel
theorem dX12_text_38 : decode cX12_text 38 = .ok (.putfield 149, 3) := by decide +kernel
theorem dX12_text_41 : decode cX12_text 41 = .ok (.iconst 0, 1) := by decide +kernel
theorem dX12_text_42 : decode cX12_text 42 = .ok (.istore_n 1, 1) := by decide +kernel
theorem dX12_text_43 : decode cX12_text 43 = .ok (.iload_n 1, 1) := by decide +kernel
theorem dX12_text_44 : decode cX12_text 44 = .ok (.bipush 18, 2) := by decide +kernel
theorem dX12_text_46 : decode cX12_text 46 = .ok (.if_icmp .ge 16, 3) := by decide +kernel
theorem dX12_text_49 : decode cX12_text 49 = .ok (.aload_n 0, 1) := by decide +kernel
theorem dX12_text_50 : decode cX12_text 50 = .ok (.getfield 40, 3) := by decide +kernel
theorem dX12_text_53 : decode cX12_text 53 = .ok (.iload_n 1, 1) := by decide +kernel
theorem dX12_text_54 : decode cX12_text 54 = .ok (.iconst 0, 1) := by decide +kernel
theorem dX12_text_55 : decode cX12_text 55 = .ok (.bastore, 1) := by decide +kernel
theorem dX12_text_56 : decode cX12_text 56 = .ok (.iinc 1 1, 3) := by decide +kernel
theorem dX12_text_59 : decode cX12_text 59 = .ok (.goto (-16), 3) := by decide +kernel
theorem dX12_text_62 : decode cX12_text 62 = .ok (.iconst 0, 1) := by decide +kernel
theorem dX12_text_63 : decode cX12_text 63 = .ok (.istore_n 1, 1) := by decide +kernel
theorem dX12_text_64 : decode cX12_text 64 = .ok (.iload_n 1, 1) := by decide +kernel
theorem dX12_text_65 : decode cX12_text 65 = .ok (.sipush 220, 3) := by decide +kernel
theorem dX12_text_68 : decode cX12_text 68 = .ok (.if_icmp .ge 36, 3) := by decide +kernel
theorem dX12_text_71 : decode cX12_text 71 = .ok (.aload_n 0, 1) := by decide +kernel
theorem dX12_text_72 : decode cX12_text 72 = .ok (.getfield 44, 3) := by decide +kernel
theorem dX12_text_75 : decode cX12_text 75 = .ok (.iload_n 1, 1) := by decide +kernel
theorem dX12_text_76 : decode cX12_text 76 = .ok (.aload_n 0, 1) := by decide +kernel
theorem dX12_text_77 : decode cX12_text 77 = .ok (.getfield 7, 3) := by decide +kernel
theorem dX12_text_80 : decode cX12_text 80 = .ok (.sipush 1500, 3) := by decide +kernel
theorem dX12_text_83 : decode cX12_text 83 = .ok (.sipush 220, 3) := by decide +kernel
theorem dX12_text_86 : decode cX12_text 86 = .ok (.aload_n 0, 1) := by decide +kernel
theorem dX12_text_87 : decode cX12_text 87 = .ok (.getfield 7, 3) := by decide +kernel
theorem dX12_text_90 : decode cX12_text 90 = .ok (.iconst 0, 1) := by decide +kernel
theorem dX12_text_91 : decode cX12_text 91 = .ok (.iaload, 1) := by decide +kernel
theorem dX12_text_92 : decode cX12_text 92 = .ok (.imul, 1) := by decide +kernel
theorem dX12_text_93 : decode cX12_text 93 = .ok (.iadd, 1) := by decide +kernel
theorem dX12_text_94 : decode cX12_text 94 = .ok (.iload_n 1, 1) := by decide +kernel
theorem dX12_text_95 : decode cX12_text 95 = .ok (.iadd, 1) := by decide +kernel
theorem dX12_text_96 : decode cX12_text 96 = .ok (.iaload, 1) := by decide +kernel
theorem dX12_text_97 : decode cX12_text 97 = .ok (.iastore, 1) := by decide +kernel
theorem dX12_text_98 : decode cX12_text 98 = .ok (.iinc 1 1, 3) := by decide +kernel
theorem dX12_text_101 : decode cX12_text 101 = .ok (.goto (-37), 3) := by decide +kernel
theorem dX12_text_104 : decode cX12_text 104 = .ok (.iconst 0, 1) := by decide +kernel
theorem dX12_text_105 : decode cX12_text 105 = .ok (.istore_n 1, 1) := by decide +kernel
theorem dX12_text_106 : decode cX12_text 106 = .ok (.aload_n 0, 1) := by decide +kernel
theorem dX12_text_107 : decode cX12_text 107 = .ok (.invokevirtual 155, 3) := by decide +kernel
theorem dX12_text_110 : decode cX12_text 110 = .ok (.aload_n 0, 1) := by decide +kernel
theorem dX12_text_111 : decode cX12_text 111 = .ok (.getfield 124, 3) := by decide +kernel
theorem dX12_text_114 : decode cX12_text 114 = .ok (.ifCond .eq 118, 3) := by decide +kernel
theorem dX12_text_117 : decode cX12_text 117 = .ok (.aload_n 0, 1) := by decide +kernel
theorem dX12_text_118 : decode cX12_text 118 = .ok (.getfield 146, 3) := by decide +kernel
theorem dX12_text_121 : decode cX12_text 121 = .ok (.ifCond .ne 111, 3) := by decide +kernel
theorem dX12_text_124 : decode cX12_text 124 = .ok (.aload_n 0, 1) := by decide +kernel
theorem dX12_text_125 : decode cX12_text 125 = .ok (.getfield 124, 3) := by decide +kernel
theorem dX12_text_128 : decode cX12_text 128 = .ok (.iconst 1, 1) := by decide +kernel
theorem dX12_text_129 : decode cX12_text 129 = .ok (.if_icmp .ne 23, 3) := by decide +kernel
theorem dX12_text_132 : decode cX12_text 132 = .ok (.aload_n 0, 1) := by decide +kernel
theorem dX12_text_133 : decode cX12_text 133 = .ok (.getfield 134, 3) := by decide +kernel
theorem dX12_text_136 : decode cX12_text 136 = .ok (.iconst 2, 1) := by decide +kernel
theorem dX12_text_137 : decode cX12_text 137 = .ok (.if_icmp .eq 15, 3) := by decide +kernel
theorem dX12_text_140 : decode cX12_text 140 = .ok (.aload_n 0, 1) := by decide +kernel
theorem dX12_text_141 : decode cX12_text 141 = .ok (.getfield 134, 3) := by decide +kernel
theorem dX12_text_144 : decode cX12_text 144 = .ok (.iconst 3, 1) := by decide +kernel
theorem dX12_text_145 : decode cX12_text 145 = .ok (.if_icmp .eq 7, 3) := by decide +kernel
theorem dX12_text_148 : decode cX12_text 148 = .ok (.iconst 1, 1) := by decide +kernel
theorem dX12_text_149 : decode cX12_text 149 = .ok (.goto 4, 3) := by decide +kernel
theorem dX12_text_152 : decode cX12_text 152 = .ok (.iconst 0, 1) := by decide +kernel
theorem dX12_text_153 : decode cX12_text 153 = .ok (.istore_n 2, 1) := by decide +kernel
theorem dX12_text_154 : decode cX12_text 154 = .ok (.iload_n 2, 1) := by decide +kernel
theorem dX12_text_155 : decode cX12_text 155 = .ok (.ifCond .eq 43, 3) := by decide +kernel
theorem dX12_text_158 : decode cX12_text 158 = .ok (.aload_n 0, 1) := by decide +kernel
theorem dX12_text_159 : decode cX12_text 159 = .ok (.getfield 134, 3) := by decide +kernel
theorem dX12_text_162 : decode cX12_text 162 = .ok (.iconst 4, 1) := by decide +kernel
theorem dX12_text_163 : decode cX12_text 163 = .ok (.if_icmp .ne 13, 3) := by decide +kernel
theorem dX12_text_166 : decode cX12_text 166 = .ok (.aload_n 0, 1) := by decide +kernel
theorem dX12_text_167 : decode cX12_text 167 = .ok (.getfield 40, 3) := by decide +kernel
theorem dX12_text_170 : decode cX12_text 170 = .ok (.bipush 11, 2) := by decide +kernel
theorem dX12_text_172 : decode cX12_text 172 = .ok (.baload, 1) := by decide +kernel
theorem dX12_text_173 : decode cX12_text 173 = .ok (.ifCond .ne 21, 3) := by decide +kernel
theorem dX12_text_176 : decode cX12_text 176 = .ok (.aload_n 0, 1) := by decide +kernel
theorem dX12_text_177 : decode cX12_text 177 = .ok (.getfield 134, 3) := by decide +kernel
theorem dX12_text_180 : decode cX12_text 180 = .ok (.iconst 5, 1) := by decide +kernel
theorem dX12_text_181 : decode cX12_text 181 = .ok (.if_icmp .ne 17, 3) := by decide +kernel
theorem dX12_text_184 : decode cX12_text 184 = .ok (.aload_n 0, 1) := by decide +kernel
theorem dX12_text_185 : decode cX12_text 185 = .ok (.getfield 40, 3) := by decide +kernel
theorem dX12_text_188 : decode cX12_text 188 = .ok (.bipush 12, 2) := by decide +kernel
theorem dX12_text_190 : decode cX12_text 190 = .ok (.baload, 1) := by decide +kernel
theorem dX12_text_191 : decode cX12_text 191 = .ok (.ifCond .eq 7, 3) := by decide +kernel
theorem dX12_text_194 : decode cX12_text 194 = .ok (.iconst 1, 1) := by decide +kernel
theorem dX12_text_195 : decode cX12_text 195 = .ok (.goto 4, 3) := by decide +kernel
theorem dX12_text_198 : decode cX12_text 198 = .ok (.iconst 0, 1) := by decide +kernel
theorem dX12_text_199 : decode cX12_text 199 = .ok (.istore_n 3, 1) := by decide +kernel
theorem dX12_text_200 : decode cX12_text 200 = .ok (.iload_n 1, 1) := by decide +kernel
theorem dX12_text_201 : decode cX12_text 201 = .ok (.bipush 20, 2) := by decide +kernel
theorem dX12_text_203 : decode cX12_text 203 = .ok (.if_icmp .ne 19, 3) := by decide +kernel
theorem dX12_text_206 : decode cX12_text 206 = .ok (.iload_n 2, 1) := by decide +kernel
theorem dX12_text_207 : decode cX12_text 207 = .ok (.ifCond .eq 15, 3) := by decide +kernel
theorem dX12_text_210 : decode cX12_text 210 = .ok (.iload_n 3, 1) := by decide +kernel
theorem dX12_text_211 : decode cX12_text 211 = .ok (.ifCond .ne 11, 3) := by decide +kernel
theorem dX12_text_214 : decode cX12_text 214 = .ok (.aload_n 0, 1) := by decide +kernel
theorem dX12_text_215 : decode cX12_text 215 = .ok (.iconst 5, 1) := by decide +kernel
theorem dX12_text_216 : decode cX12_text 216 = .ok (.invokevirtual 152, 3) := by decide +kernel
theorem dX12_text_219 : decode cX12_text 219 = .ok (.goto 7, 3) := by decide +kernel
theorem dX12_text_222 : decode cX12_text 222 = .ok (.aload_n 0, 1) := by decide +kernel
theorem dX12_text_223 : decode cX12_text 223 = .ok (.invokevirtual 186, 3) := by decide +kernel
theorem dX12_text_226 : decode cX12_text 226 = .ok (.iinc 1 1, 3) := by decide +kernel
theorem dX12_text_229 : decode cX12_text 229 = .ok (.goto (-119), 3) := by decide +kernel
theorem dX12_text_232 : decode cX12_text 232 = .ok (.aload_n 0, 1) := by decide +kernel
theorem dX12_text_233 : decode cX12_text 233 = .ok (.getfield 146, 3) := by decide +kernel
theorem dX12_text_236 : decode cX12_text 236 = .ok (.ifCond .ne 16, 3) := by decide +kernel
theorem dX12_text_239 : decode cX12_text 239 = .ok (.aload_n 0, 1) := by decide +kernel
theorem dX12_text_240 : decode cX12_text 240 = .ok (.invokevirtual 189, 3) := by decide +kernel
theorem dX12_text_243 : decode cX12_text 243 = .ok (.ifCond .ne 9, 3) := by decide +kernel
theorem dX12_text_246 : decode cX12_text 246 = .ok (.aload_n 0, 1) := by decide +kernel
theorem dX12_text_247 : decode cX12_text 247 = .ok (.bipush 6, 2) := by decide +kernel
theorem dX12_text_249 : decode cX12_text 249 = .ok (.invokevirtual 152, 3) := by decide +kernel
theorem dX12_text_252 : decode cX12_text 252 = .ok (.aload_n 0, 1) := by decide +kernel
theorem dX12_text_253 : decode cX12_text 253 = .ok (.aload_n 0, 1) := by decide +kernel
theorem dX12_text_254 : decode cX12_text 254 = .ok (.getfield 146, 3) := by decide +kernel
theorem dX12_text_257 : decode cX12_text 257 = .ok (.putfield 34, 3) := by decide +kernel
theorem dX12_text_260 : decode cX12_text 260 = .ok (.aload_n 0, 1) := by decide +kernel
theorem dX12_text_261 : decode cX12_text 261 = .ok (.aload_n 0, 1) := by decide +kernel
theorem dX12_text_262 : decode cX12_text 262 = .ok (.getfield 149, 3) := by decide +kernel
theorem dX12_text_265 : decode cX12_text 265 = .ok (.putfield 37, 3) := by decide +kernel
theorem dX12_text_268 : decode cX12_text 268 = .ok (.aload_n 0, 1) := by decide +kernel
theorem dX12_text_269 : decode cX12_text 269 = .ok (.getfield 146, 3) := by decide +kernel
theorem dX12_text_272 : decode cX12_text 272 = .ok (.ifCond .le 5, 3) := by decide +kernel
theorem dX12_text_275 : decode cX12_text 275 = .ok (.iconst (-1), 1) := by decide +kernel
theorem dX12_text_276 : decode cX12_text 276 = .ok (.ireturn, 1) := by decide +kernel
theorem dX12_text_277 : decode cX12_text 277 = .ok (.aload_n 0, 1) := by decide +kernel
theorem dX12_text_278 : decode cX12_text 278 = .ok (.getfield 7, 3) := by decide +kernel
theorem dX12_text_281 : decode cX12_text 281 = .ok (.iconst 0, 1) := by decide +kernel
theorem dX12_text_282 : decode cX12_text 282 = .ok (.dup2, 1) := by decide +kernel
theorem dX12_text_283 : decode cX12_text 283 = .ok (.iaload, 1) := by decide +kernel
theorem dX12_text_284 : decode cX12_text 284 = .ok (.iconst 1, 1) := by decide +kernel
theorem dX12_text_285 : decode cX12_text 285 = .ok (.iadd, 1) := by decide +kernel
theorem dX12_text_286 : decode cX12_text 286 = .ok (.iastore, 1) := by decide +kernel
theorem dX12_text_287 : decode cX12_text 287 = .ok (.aload_n 0, 1) := by decide +kernel
theorem dX12_text_288 : decode cX12_text 288 = .ok (.getfield 7, 3) := by decide +kernel
theorem dX12_text_291 : decode cX12_text 291 = .ok (.iconst 1, 1) := by decide +kernel
theorem dX12_text_292 : decode cX12_text 292 = .ok (.aload_n 0, 1) := by decide +kernel
theorem dX12_text_293 : decode cX12_text 293 = .ok (.getfield 7, 3) := by decide +kernel
theorem dX12_text_296 : decode cX12_text 296 = .ok (.iconst 0, 1) := by decide +kernel
theorem dX12_text_297 : decode cX12_text 297 = .ok (.iaload, 1) := by decide +kernel
theorem dX12_text_298 : decode cX12_text 298 = .ok (.iastore, 1) := by decide +kernel
theorem dX12_text_299 : decode cX12_text 299 = .ok (.aload_n 0, 1) := by decide +kernel
theorem dX12_text_300 : decode cX12_text 300 = .ok (.getfield 7, 3) := by decide +kernel
theorem dX12_text_303 : decode cX12_text 303 = .ok (.bipush 7, 2) := by decide +kernel
theorem dX12_text_305 : decode cX12_text 305 = .ok (.iload_n 1, 1) := by decide +kernel
theorem dX12_text_306 : decode cX12_text 306 = .ok (.iastore, 1) := by decide +kernel
theorem dX12_text_307 : decode cX12_text 307 = .ok (.iconst 0, 1) := by decide +kernel
theorem dX12_text_308 : decode cX12_text 308 = .ok (.istore_n 2, 1) := by decide +kernel
theorem dX12_text_309 : decode cX12_text 309 = .ok (.iload_n 2, 1) := by decide +kernel
theorem dX12_text_310 : decode cX12_text 310 = .ok (.sipush 220, 3) := by decide +kernel
theorem dX12_text_313 : decode cX12_text 313 = .ok (.if_icmp .ge 36, 3) := by decide +kernel
theorem dX12_text_316 : decode cX12_text 316 = .ok (.aload_n 0, 1) := by decide +kernel
theorem dX12_text_317 : decode cX12_text 317 = .ok (.getfield 7, 3) := by decide +kernel
theorem dX12_text_320 : decode cX12_text 320 = .ok (.sipush 1500, 3) := by decide +kernel
theorem dX12_text_323 : decode cX12_text 323 = .ok (.sipush 220, 3) := by decide +kernel
theorem dX12_text_326 : decode cX12_text 326 = .ok (.aload_n 0, 1) := by decide +kernel
theorem dX12_text_327 : decode cX12_text 327 = .ok (.getfield 7, 3) := by decide +kernel
theorem dX12_text_330 : decode cX12_text 330 = .ok (.iconst 0, 1) := by decide +kernel
theorem dX12_text_331 : decode cX12_text 331 = .ok (.iaload, 1) := by decide +kernel
theorem dX12_text_332 : decode cX12_text 332 = .ok (.imul, 1) := by decide +kernel
theorem dX12_text_333 : decode cX12_text 333 = .ok (.iadd, 1) := by decide +kernel
theorem dX12_text_334 : decode cX12_text 334 = .ok (.iload_n 2, 1) := by decide +kernel
theorem dX12_text_335 : decode cX12_text 335 = .ok (.iadd, 1) := by decide +kernel
theorem dX12_text_336 : decode cX12_text 336 = .ok (.aload_n 0, 1) := by decide +kernel
theorem dX12_text_337 : decode cX12_text 337 = .ok (.getfield 44, 3) := by decide +kernel
theorem dX12_text_340 : decode cX12_text 340 = .ok (.iload_n 2, 1) := by decide +kernel
theorem dX12_text_341 : decode cX12_text 341 = .ok (.iaload, 1) := by decide +kernel
theorem dX12_text_342 : decode cX12_text 342 = .ok (.iastore, 1) := by decide +kernel
theorem dX12_text_343 : decode cX12_text 343 = .ok (.iinc 2 1, 3) := by decide +kernel
theorem dX12_text_346 : decode cX12_text 346 = .ok (.goto (-37), 3) := by decide +kernel
theorem dX12_text_349 : decode cX12_text 349 = .ok (.aload_n 0, 1) := by decide +kernel
theorem dX12_text_350 : decode cX12_text 350 = .ok (.getfield 7, 3) := by decide +kernel
theorem dX12_text_353 : decode cX12_text 353 = .ok (.iconst 0, 1) := by decide +kernel
theorem dX12_text_354 : decode cX12_text 354 = .ok (.iaload, 1) := by decide +kernel
theorem dX12_text_355 : decode cX12_text 355 = .ok (.ireturn, 1) := by decide +kernel
theorem dX12_fault_0 : decode cX12_fault 0 = .ok (.iload_n 1, 1) := by decide +kernel
theorem dX12_fault_1 : decode cX12_fault 1 = .ok (.ifCond .ne 10, 3) := by decide +kernel
theorem dX12_fault_4 : decode cX12_fault 4 = .ok (.aload_n 0, 1) := by decide +kernel
theorem dX12_fault_5 : decode cX12_fault 5 = .ok (.getfield 34, 3) := by decide +kernel
theorem dX12_fault_8 : decode cX12_fault 8 = .ok (.goto 16, 3) := by decide +kernel
theorem dX12_fault_11 : decode cX12_fault 11 = .ok (.iload_n 1, 1) := by decide +kernel
theorem dX12_fault_12 : decode cX12_fault 12 = .ok (.iconst 1, 1) := by decide +kernel
theorem dX12_fault_13 : decode cX12_fault 13 = .ok (.if_icmp .ne 10, 3) := by decide +kernel
theorem dX12_fault_16 : decode cX12_fault 16 = .ok (.aload_n 0, 1) := by decide +kernel
theorem dX12_fault_17 : decode cX12_fault 17 = .ok (.getfield 37, 3) := by decide +kernel
theorem dX12_fault_20 : decode cX12_fault 20 = .ok (.goto 4, 3) := by decide +kernel
theorem dX12_fault_23 : decode cX12_fault 23 = .ok (.iconst (-1), 1) := by decide +kernel
theorem dX12_fault_24 : decode cX12_fault 24 = .ok (.ireturn, 1) := by decide +kernel
theorem dX12_look_0 : decode cX12_look 0 = .ok (.iload_n 1, 1) := by decide +kernel
theorem dX12_look_1 : decode cX12_look 1 = .ok (.i2l, 1) := by decide +kernel
theorem dX12_look_2 : decode cX12_look 2 = .ok (.lconst 0, 1) := by decide +kernel
theorem dX12_look_3 : decode cX12_look 3 = .ok (.aload_n 0, 1) := by decide +kernel
theorem dX12_look_4 : decode cX12_look 4 = .ok (.getfield 7, 3) := by decide +kernel
theorem dX12_look_7 : decode cX12_look 7 = .ok (.iconst 0, 1) := by decide +kernel
theorem dX12_look_8 : decode cX12_look 8 = .ok (.iaload, 1) := by decide +kernel
theorem dX12_look_9 : decode cX12_look 9 = .ok (.i2l, 1) := by decide +kernel
theorem dX12_look_10 : decode cX12_look 10 = .ok (.invokestatic 78, 3) := by decide +kernel
theorem dX12_look_13 : decode cX12_look 13 = .ok (.ifCond .ne 5, 3) := by decide +kernel
theorem dX12_look_16 : decode cX12_look 16 = .ok (.iconst 0, 1) := by decide +kernel
theorem dX12_look_17 : decode cX12_look 17 = .ok (.ireturn, 1) := by decide +kernel
theorem dX12_look_18 : decode cX12_look 18 = .ok (.aload_n 0, 1) := by decide +kernel
theorem dX12_look_19 : decode cX12_look 19 = .ok (.getfield 7, 3) := by decide +kernel
theorem dX12_look_22 : decode cX12_look 22 = .ok (.iconst 1, 1) := by decide +kernel
theorem dX12_look_23 : decode cX12_look 23 = .ok (.iload_n 1, 1) := by decide +kernel
theorem dX12_look_24 : decode cX12_look 24 = .ok (.iastore, 1) := by decide +kernel
theorem dX12_look_25 : decode cX12_look 25 = .ok (.iconst 1, 1) := by decide +kernel
theorem dX12_look_26 : decode cX12_look 26 = .ok (.ireturn, 1) := by decide +kernel
theorem dX12_says_0 : decode cX12_says 0 = .ok (.aload_n 0, 1) := by decide +kernel
theorem dX12_says_1 : decode cX12_says 1 = .ok (.getfield 7, 3) := by decide +kernel
theorem dX12_says_4 : decode cX12_says 4 = .ok (.sipush 1500, 3) := by decide +kernel
theorem dX12_says_7 : decode cX12_says 7 = .ok (.sipush 220, 3) := by decide +kernel
theorem dX12_says_10 : decode cX12_says 10 = .ok (.aload_n 0, 1) := by decide +kernel
theorem dX12_says_11 : decode cX12_says 11 = .ok (.getfield 7, 3) := by decide +kernel
theorem dX12_says_14 : decode cX12_says 14 = .ok (.iconst 1, 1) := by decide +kernel
theorem dX12_says_15 : decode cX12_says 15 = .ok (.iaload, 1) := by decide +kernel
theorem dX12_says_16 : decode cX12_says 16 = .ok (.imul, 1) := by decide +kernel
theorem dX12_says_17 : decode cX12_says 17 = .ok (.iadd, 1) := by decide +kernel
theorem dX12_says_18 : decode cX12_says 18 = .ok (.iload_n 1, 1) := by decide +kernel
theorem dX12_says_19 : decode cX12_says 19 = .ok (.iadd, 1) := by decide +kernel
theorem dX12_says_20 : decode cX12_says 20 = .ok (.iaload, 1) := by decide +kernel
theorem dX12_says_21 : decode cX12_says 21 = .ok (.ireturn, 1) := by decide +kernel
theorem dX12_weightOf_0 : decode cX12_weightOf 0 = .ok (.aload_n 0, 1) := by decide +kernel
theorem dX12_weightOf_1 : decode cX12_weightOf 1 = .ok (.iload_n 1, 1) := by decide +kernel
theorem dX12_weightOf_2 : decode cX12_weightOf 2 = .ok (.invokevirtual 193, 3) := by decide +kernel
theorem dX12_weightOf_5 : decode cX12_weightOf 5 = .ok (.ifCond .ne 7, 3) := by decide +kernel
theorem dX12_weightOf_8 : decode cX12_weightOf 8 = .ok (.iconst 1, 1) := by decide +kernel
theorem dX12_weightOf_9 : decode cX12_weightOf 9 = .ok (.goto 8, 3) := by decide +kernel
theorem dX12_weightOf_12 : decode cX12_weightOf 12 = .ok (.aload_n 0, 1) := by decide +kernel
theorem dX12_weightOf_13 : decode cX12_weightOf 13 = .ok (.iload_n 1, 1) := by decide +kernel
theorem dX12_weightOf_14 : decode cX12_weightOf 14 = .ok (.invokevirtual 193, 3) := by decide +kernel
theorem dX12_weightOf_17 : decode cX12_weightOf 17 = .ok (.ireturn, 1) := by decide +kernel
theorem dX12_weight_0 : decode cX12_weight 0 = .ok (.iload_n 1, 1) := by decide +kernel
theorem dX12_weight_1 : decode cX12_weight 1 = .ok (.i2l, 1) := by decide +kernel
theorem dX12_weight_2 : decode cX12_weight 2 = .ok (.lconst 0, 1) := by decide +kernel
theorem dX12_weight_3 : decode cX12_weight 3 = .ok (.ldc2_w 197, 3) := by decide +kernel
theorem dX12_weight_6 : decode cX12_weight 6 = .ok (.invokestatic 78, 3) := by decide +kernel
theorem dX12_weight_9 : decode cX12_weight 9 = .ok (.ifCond .eq 11, 3) := by decide +kernel
theorem dX12_weight_12 : decode cX12_weight 12 = .ok (.aload_n 0, 1) := by decide +kernel
theorem dX12_weight_13 : decode cX12_weight 13 = .ok (.iload_n 1, 1) := by decide +kernel
theorem dX12_weight_14 : decode cX12_weight 14 = .ok (.invokevirtual 199, 3) := by decide +kernel
theorem dX12_weight_17 : decode cX12_weight 17 = .ok (.goto 4, 3) := by decide +kernel
theorem dX12_weight_20 : decode cX12_weight 20 = .ok (.iconst (-1), 1) := by decide +kernel
theorem dX12_weight_21 : decode cX12_weight 21 = .ok (.ireturn, 1) := by decide +kernel
theorem dX12_isChain_0 : decode cX12_isChain 0 = .ok (.aload_n 0, 1) := by decide +kernel
theorem dX12_isChain_1 : decode cX12_isChain 1 = .ok (.bipush 6, 2) := by decide +kernel
theorem dX12_isChain_3 : decode cX12_isChain 3 = .ok (.bipush 6, 2) := by decide +kernel
theorem dX12_isChain_5 : decode cX12_isChain 5 = .ok (.iload_n 1, 1) := by decide +kernel
theorem dX12_isChain_6 : decode cX12_isChain 6 = .ok (.imul, 1) := by decide +kernel
theorem dX12_isChain_7 : decode cX12_isChain 7 = .ok (.iadd, 1) := by decide +kernel
theorem dX12_isChain_8 : decode cX12_isChain 8 = .ok (.invokevirtual 193, 3) := by decide +kernel
theorem dX12_isChain_11 : decode cX12_isChain 11 = .ok (.iconst 1, 1) := by decide +kernel
theorem dX12_isChain_12 : decode cX12_isChain 12 = .ok (.if_icmp .ne 7, 3) := by decide +kernel
theorem dX12_isChain_15 : decode cX12_isChain 15 = .ok (.iconst 1, 1) := by decide +kernel
theorem dX12_isChain_16 : decode cX12_isChain 16 = .ok (.goto 4, 3) := by decide +kernel
theorem dX12_isChain_19 : decode cX12_isChain 19 = .ok (.iconst 0, 1) := by decide +kernel
theorem dX12_isChain_20 : decode cX12_isChain 20 = .ok (.ireturn, 1) := by decide +kernel
theorem dX12_chainOf_0 : decode cX12_chainOf 0 = .ok (.aload_n 0, 1) := by decide +kernel
theorem dX12_chainOf_1 : decode cX12_chainOf 1 = .ok (.bipush 6, 2) := by decide +kernel
theorem dX12_chainOf_3 : decode cX12_chainOf 3 = .ok (.bipush 6, 2) := by decide +kernel
theorem dX12_chainOf_5 : decode cX12_chainOf 5 = .ok (.iload_n 1, 1) := by decide +kernel
theorem dX12_chainOf_6 : decode cX12_chainOf 6 = .ok (.imul, 1) := by decide +kernel
theorem dX12_chainOf_7 : decode cX12_chainOf 7 = .ok (.iadd, 1) := by decide +kernel
theorem dX12_chainOf_8 : decode cX12_chainOf 8 = .ok (.iconst 1, 1) := by decide +kernel
theorem dX12_chainOf_9 : decode cX12_chainOf 9 = .ok (.iadd, 1) := by decide +kernel
theorem dX12_chainOf_10 : decode cX12_chainOf 10 = .ok (.iload_n 2, 1) := by decide +kernel
theorem dX12_chainOf_11 : decode cX12_chainOf 11 = .ok (.iadd, 1) := by decide +kernel
theorem dX12_chainOf_12 : decode cX12_chainOf 12 = .ok (.invokevirtual 193, 3) := by decide +kernel
theorem dX12_chainOf_15 : decode cX12_chainOf 15 = .ok (.ireturn, 1) := by decide +kernel
theorem dX12_chain_0 : decode cX12_chain 0 = .ok (.iload_n 1, 1) := by decide +kernel
theorem dX12_chain_1 : decode cX12_chain 1 = .ok (.i2l, 1) := by decide +kernel
theorem dX12_chain_2 : decode cX12_chain 2 = .ok (.lconst 0, 1) := by decide +kernel
theorem dX12_chain_3 : decode cX12_chain 3 = .ok (.ldc2_w 169, 3) := by decide +kernel
theorem dX12_chain_6 : decode cX12_chain 6 = .ok (.invokestatic 78, 3) := by decide +kernel
theorem dX12_chain_9 : decode cX12_chain 9 = .ok (.ifCond .eq 32, 3) := by decide +kernel
theorem dX12_chain_12 : decode cX12_chain 12 = .ok (.iload_n 2, 1) := by decide +kernel
theorem dX12_chain_13 : decode cX12_chain 13 = .ok (.i2l, 1) := by decide +kernel
theorem dX12_chain_14 : decode cX12_chain 14 = .ok (.lconst 0, 1) := by decide +kernel
theorem dX12_chain_15 : decode cX12_chain 15 = .ok (.ldc2_w 169, 3) := by decide +kernel
theorem dX12_chain_18 : decode cX12_chain 18 = .ok (.invokestatic 78, 3) := by decide +kernel
theorem dX12_chain_21 : decode cX12_chain 21 = .ok (.ifCond .eq 20, 3) := by decide +kernel
theorem dX12_chain_24 : decode cX12_chain 24 = .ok (.aload_n 0, 1) := by decide +kernel
theorem dX12_chain_25 : decode cX12_chain 25 = .ok (.iload_n 1, 1) := by decide +kernel
theorem dX12_chain_26 : decode cX12_chain 26 = .ok (.invokevirtual 202, 3) := by decide +kernel
theorem dX12_chain_29 : decode cX12_chain 29 = .ok (.ifCond .eq 12, 3) := by decide +kernel
theorem dX12_chain_32 : decode cX12_chain 32 = .ok (.aload_n 0, 1) := by decide +kernel
theorem dX12_chain_33 : decode cX12_chain 33 = .ok (.iload_n 1, 1) := by decide +kernel
theorem dX12_chain_34 : decode cX12_chain 34 = .ok (.iload_n 2, 1) := by decide +kernel
theorem dX12_chain_35 : decode cX12_chain 35 = .ok (.invokevirtual 205, 3) := by decide +kernel
theorem dX12_chain_38 : decode cX12_chain 38 = .ok (.goto 4, 3) := by decide +kernel
theorem dX12_chain_41 : decode cX12_chain 41 = .ok (.iconst (-1), 1) := by decide +kernel
theorem dX12_chain_42 : decode cX12_chain 42 = .ok (.ireturn, 1) := by decide +kernel
theorem dX12_down_0 : decode cX12_down 0 = .ok (.lload_n 0, 1) := by decide +kernel
theorem dX12_down_1 : decode cX12_down 1 = .ok (.lconst 0, 1) := by decide +kernel
theorem dX12_down_2 : decode cX12_down 2 = .ok (.lcmp, 1) := by decide +kernel
theorem dX12_down_3 : decode cX12_down 3 = .ok (.ifCond .lt 9, 3) := by decide +kernel
theorem dX12_down_6 : decode cX12_down 6 = .ok (.lload_n 0, 1) := by decide +kernel
theorem dX12_down_7 : decode cX12_down 7 = .ok (.lload_n 2, 1) := by decide +kernel
theorem dX12_down_8 : decode cX12_down 8 = .ok (.ldiv, 1) := by decide +kernel
theorem dX12_down_9 : decode cX12_down 9 = .ok (.goto 11, 3) := by decide +kernel
theorem dX12_down_12 : decode cX12_down 12 = .ok (.lload_n 2, 1) := by decide +kernel
theorem dX12_down_13 : decode cX12_down 13 = .ok (.lconst 1, 1) := by decide +kernel
theorem dX12_down_14 : decode cX12_down 14 = .ok (.lsub, 1) := by decide +kernel
theorem dX12_down_15 : decode cX12_down 15 = .ok (.lload_n 0, 1) := by decide +kernel
theorem dX12_down_16 : decode cX12_down 16 = .ok (.lsub, 1) := by decide +kernel
theorem dX12_down_17 : decode cX12_down 17 = .ok (.lload_n 2, 1) := by decide +kernel
theorem dX12_down_18 : decode cX12_down 18 = .ok (.ldiv, 1) := by decide +kernel
theorem dX12_down_19 : decode cX12_down 19 = .ok (.lneg, 1) := by decide +kernel
theorem dX12_down_20 : decode cX12_down 20 = .ok (.lreturn, 1) := by decide +kernel
theorem dX12_spanOf_0 : decode cX12_spanOf 0 = .ok (.bipush 36, 2) := by decide +kernel
theorem dX12_spanOf_2 : decode cX12_spanOf 2 = .ok (.bipush 25, 2) := by decide +kernel
theorem dX12_spanOf_4 : decode cX12_spanOf 4 = .ok (.iload_n 1, 1) := by decide +kernel
theorem dX12_spanOf_5 : decode cX12_spanOf 5 = .ok (.imul, 1) := by decide +kernel
theorem dX12_spanOf_6 : decode cX12_spanOf 6 = .ok (.iadd, 1) := by decide +kernel
theorem dX12_spanOf_7 : decode cX12_spanOf 7 = .ok (.istore 4, 2) := by decide +kernel
theorem dX12_spanOf_9 : decode cX12_spanOf 9 = .ok (.aload_n 0, 1) := by decide +kernel
theorem dX12_spanOf_10 : decode cX12_spanOf 10 = .ok (.iload 4, 2) := by decide +kernel
theorem dX12_spanOf_12 : decode cX12_spanOf 12 = .ok (.invokevirtual 193, 3) := by decide +kernel
theorem dX12_spanOf_15 : decode cX12_spanOf 15 = .ok (.istore 5, 2) := by decide +kernel
theorem dX12_spanOf_17 : decode cX12_spanOf 17 = .ok (.iload 5, 2) := by decide +kernel
theorem dX12_spanOf_19 : decode cX12_spanOf 19 = .ok (.ifCond .ne 5, 3) := by decide +kernel
theorem dX12_spanOf_22 : decode cX12_spanOf 22 = .ok (.iconst 0, 1) := by decide +kernel
theorem dX12_spanOf_23 : decode cX12_spanOf 23 = .ok (.ireturn, 1) := by decide +kernel
theorem dX12_spanOf_24 : decode cX12_spanOf 24 = .ok (.iconst 0, 1) := by decide +kernel
theorem dX12_spanOf_25 : decode cX12_spanOf 25 = .ok (.istore 6, 2) := by decide +kernel
theorem dX12_spanOf_27 : decode cX12_spanOf 27 = .ok (.iload 6, 2) := by decide +kernel
theorem dX12_spanOf_29 : decode cX12_spanOf 29 = .ok (.iload 5, 2) := by decide +kernel
theorem dX12_spanOf_31 : decode cX12_spanOf 31 = .ok (.if_icmp .ge 26, 3) := by decide +kernel
theorem dX12_spanOf_34 : decode cX12_spanOf 34 = .ok (.aload_n 0, 1) := by decide +kernel
theorem dX12_spanOf_35 : decode cX12_spanOf 35 = .ok (.iload 4, 2) := by decide +kernel
theorem dX12_spanOf_37 : decode cX12_spanOf 37 = .ok (.iconst 1, 1) := by decide +kernel
theorem dX12_spanOf_38 : decode cX12_spanOf 38 = .ok (.iadd, 1) := by decide +kernel
theorem dX12_spanOf_39 : decode cX12_spanOf 39 = .ok (.iconst 3, 1) := by decide +kernel
theorem dX12_spanOf_40 : decode cX12_spanOf 40 = .ok (.iload 6, 2) := by decide +kernel
theorem dX12_spanOf_42 : decode cX12_spanOf 42 = .ok (.imul, 1) := by decide +kernel
theorem dX12_spanOf_43 : decode cX12_spanOf 43 = .ok (.iadd, 1) := by decide +kernel
theorem dX12_spanOf_44 : decode cX12_spanOf 44 = .ok (.invokevirtual 193, 3) := by decide +kernel
theorem dX12_spanOf_47 : decode cX12_spanOf 47 = .ok (.iload_n 2, 1) := by decide +kernel
theorem dX12_spanOf_48 : decode cX12_spanOf 48 = .ok (.if_icmp .gt 9, 3) := by decide +kernel
theorem dX12_spanOf_51 : decode cX12_spanOf 51 = .ok (.iinc 6 1, 3) := by decide +kernel
theorem dX12_spanOf_54 : decode cX12_spanOf 54 = .ok (.goto (-27), 3) := by decide +kernel
theorem dX12_spanOf_57 : decode cX12_spanOf 57 = .ok (.iload_n 3, 1) := by decide +kernel
theorem dX12_spanOf_58 : decode cX12_spanOf 58 = .ok (.ifCond .eq 7, 3) := by decide +kernel
theorem dX12_spanOf_61 : decode cX12_spanOf 61 = .ok (.iconst 3, 1) := by decide +kernel
theorem dX12_spanOf_62 : decode cX12_spanOf 62 = .ok (.goto 4, 3) := by decide +kernel
theorem dX12_spanOf_65 : decode cX12_spanOf 65 = .ok (.iconst 2, 1) := by decide +kernel
theorem dX12_spanOf_66 : decode cX12_spanOf 66 = .ok (.istore 7, 2) := by decide +kernel
theorem dX12_spanOf_68 : decode cX12_spanOf 68 = .ok (.iload 6, 2) := by decide +kernel
theorem dX12_spanOf_70 : decode cX12_spanOf 70 = .ok (.ifCond .ne 13, 3) := by decide +kernel
theorem dX12_spanOf_73 : decode cX12_spanOf 73 = .ok (.aload_n 0, 1) := by decide +kernel
theorem dX12_spanOf_74 : decode cX12_spanOf 74 = .ok (.iload 4, 2) := by decide +kernel
theorem dX12_spanOf_76 : decode cX12_spanOf 76 = .ok (.iload 7, 2) := by decide +kernel
theorem dX12_spanOf_78 : decode cX12_spanOf 78 = .ok (.iadd, 1) := by decide +kernel
theorem dX12_spanOf_79 : decode cX12_spanOf 79 = .ok (.invokevirtual 193, 3) := by decide +kernel
theorem dX12_spanOf_82 : decode cX12_spanOf 82 = .ok (.ireturn, 1) := by decide +kernel
theorem dX12_spanOf_83 : decode cX12_spanOf 83 = .ok (.aload_n 0, 1) := by decide +kernel
theorem dX12_spanOf_84 : decode cX12_spanOf 84 = .ok (.iload 4, 2) := by decide +kernel
theorem dX12_spanOf_86 : decode cX12_spanOf 86 = .ok (.iconst 1, 1) := by decide +kernel
theorem dX12_spanOf_87 : decode cX12_spanOf 87 = .ok (.iadd, 1) := by decide +kernel
theorem dX12_spanOf_88 : decode cX12_spanOf 88 = .ok (.iconst 3, 1) := by decide +kernel
theorem dX12_spanOf_89 : decode cX12_spanOf 89 = .ok (.iload 6, 2) := by decide +kernel
theorem dX12_spanOf_91 : decode cX12_spanOf 91 = .ok (.iconst 1, 1) := by decide +kernel
theorem dX12_spanOf_92 : decode cX12_spanOf 92 = .ok (.isub, 1) := by decide +kernel
theorem dX12_spanOf_93 : decode cX12_spanOf 93 = .ok (.imul, 1) := by decide +kernel
theorem dX12_spanOf_94 : decode cX12_spanOf 94 = .ok (.iadd, 1) := by decide +kernel
theorem dX12_spanOf_95 : decode cX12_spanOf 95 = .ok (.invokevirtual 193, 3) := by decide +kernel
theorem dX12_spanOf_98 : decode cX12_spanOf 98 = .ok (.istore 8, 2) := by decide +kernel
theorem dX12_spanOf_100 : decode cX12_spanOf 100 = .ok (.aload_n 0, 1) := by decide +kernel
theorem dX12_spanOf_101 : decode cX12_spanOf 101 = .ok (.iload 4, 2) := by decide +kernel
theorem dX12_spanOf_103 : decode cX12_spanOf 103 = .ok (.iload 7, 2) := by decide +kernel
theorem dX12_spanOf_105 : decode cX12_spanOf 105 = .ok (.iadd, 1) := by decide +kernel
theorem dX12_spanOf_106 : decode cX12_spanOf 106 = .ok (.iconst 3, 1) := by decide +kernel
theorem dX12_spanOf_107 : decode cX12_spanOf 107 = .ok (.iload 6, 2) := by decide +kernel
theorem dX12_spanOf_109 : decode cX12_spanOf 109 = .ok (.iconst 1, 1) := by decide +kernel
theorem dX12_spanOf_110 : decode cX12_spanOf 110 = .ok (.isub, 1) := by decide +kernel
theorem dX12_spanOf_111 : decode cX12_spanOf 111 = .ok (.imul, 1) := by decide +kernel
theorem dX12_spanOf_112 : decode cX12_spanOf 112 = .ok (.iadd, 1) := by decide +kernel
theorem dX12_spanOf_113 : decode cX12_spanOf 113 = .ok (.invokevirtual 193, 3) := by decide +kernel
theorem dX12_spanOf_116 : decode cX12_spanOf 116 = .ok (.istore 9, 2) := by decide +kernel
theorem dX12_spanOf_118 : decode cX12_spanOf 118 = .ok (.iload 6, 2) := by decide +kernel
theorem dX12_spanOf_120 : decode cX12_spanOf 120 = .ok (.iload 5, 2) := by decide +kernel
theorem dX12_spanOf_122 : decode cX12_spanOf 122 = .ok (.if_icmp .eq 9, 3) := by decide +kernel
theorem dX12_spanOf_125 : decode cX12_spanOf 125 = .ok (.iload 8, 2) := by decide +kernel
theorem dX12_spanOf_127 : decode cX12_spanOf 127 = .ok (.iload_n 2, 1) := by decide +kernel
theorem dX12_spanOf_128 : decode cX12_spanOf 128 = .ok (.if_icmp .ne 6, 3) := by decide +kernel
theorem dX12_spanOf_131 : decode cX12_spanOf 131 = .ok (.iload 9, 2) := by decide +kernel
theorem dX12_spanOf_133 : decode cX12_spanOf 133 = .ok (.ireturn, 1) := by decide +kernel
theorem dX12_spanOf_134 : decode cX12_spanOf 134 = .ok (.aload_n 0, 1) := by decide +kernel
theorem dX12_spanOf_135 : decode cX12_spanOf 135 = .ok (.iload 4, 2) := by decide +kernel
theorem dX12_spanOf_137 : decode cX12_spanOf 137 = .ok (.iconst 1, 1) := by decide +kernel
theorem dX12_spanOf_138 : decode cX12_spanOf 138 = .ok (.iadd, 1) := by decide +kernel
theorem dX12_spanOf_139 : decode cX12_spanOf 139 = .ok (.iconst 3, 1) := by decide +kernel
theorem dX12_spanOf_140 : decode cX12_spanOf 140 = .ok (.iload 6, 2) := by decide +kernel
theorem dX12_spanOf_142 : decode cX12_spanOf 142 = .ok (.imul, 1) := by decide +kernel
theorem dX12_spanOf_143 : decode cX12_spanOf 143 = .ok (.iadd, 1) := by decide +kernel
theorem dX12_spanOf_144 : decode cX12_spanOf 144 = .ok (.invokevirtual 193, 3) := by decide +kernel
theorem dX12_spanOf_147 : decode cX12_spanOf 147 = .ok (.iload 8, 2) := by decide +kernel
theorem dX12_spanOf_149 : decode cX12_spanOf 149 = .ok (.isub, 1) := by decide +kernel
theorem dX12_spanOf_150 : decode cX12_spanOf 150 = .ok (.i2l, 1) := by decide +kernel
theorem dX12_spanOf_151 : decode cX12_spanOf 151 = .ok (.lstore 10, 2) := by decide +kernel
theorem dX12_spanOf_153 : decode cX12_spanOf 153 = .ok (.aload_n 0, 1) := by decide +kernel
theorem dX12_spanOf_154 : decode cX12_spanOf 154 = .ok (.iload 4, 2) := by decide +kernel
theorem dX12_spanOf_156 : decode cX12_spanOf 156 = .ok (.iload 7, 2) := by decide +kernel
theorem dX12_spanOf_158 : decode cX12_spanOf 158 = .ok (.iadd, 1) := by decide +kernel
theorem dX12_spanOf_159 : decode cX12_spanOf 159 = .ok (.iconst 3, 1) := by decide +kernel
theorem dX12_spanOf_160 : decode cX12_spanOf 160 = .ok (.iload 6, 2) := by decide +kernel
theorem dX12_spanOf_162 : decode cX12_spanOf 162 = .ok (.imul, 1) := by decide +kernel
theorem dX12_spanOf_163 : decode cX12_spanOf 163 = .ok (.iadd, 1) := by decide +kernel
theorem dX12_spanOf_164 : decode cX12_spanOf 164 = .ok (.invokevirtual 193, 3) := by decide +kernel
theorem dX12_spanOf_167 : decode cX12_spanOf 167 = .ok (.iload 9, 2) := by decide +kernel
theorem dX12_spanOf_169 : decode cX12_spanOf 169 = .ok (.isub, 1) := by decide +kernel
theorem dX12_spanOf_170 : decode cX12_spanOf 170 = .ok (.i2l, 1) := by decide +kernel
theorem dX12_spanOf_171 : decode cX12_spanOf 171 = .ok (.iload_n 2, 1) := by decide +kernel
theorem dX12_spanOf_172 : decode cX12_spanOf 172 = .ok (.iload 8, 2) := by decide +kernel
theorem dX12_spanOf_174 : decode cX12_spanOf 174 = .ok (.isub, 1) := by decide +kernel
theorem dX12_spanOf_175 : decode cX12_spanOf 175 = .ok (.i2l, 1) := by decide +kernel
theorem dX12_spanOf_176 : decode cX12_spanOf 176 = .ok (.lmul, 1) := by decide +kernel
theorem dX12_spanOf_177 : decode cX12_spanOf 177 = .ok (.lstore 12, 2) := by decide +kernel
theorem dX12_spanOf_179 : decode cX12_spanOf 179 = .ok (.iload 9, 2) := by decide +kernel
theorem dX12_spanOf_181 : decode cX12_spanOf 181 = .ok (.i2l, 1) := by decide +kernel
theorem dX12_spanOf_182 : decode cX12_spanOf 182 = .ok (.iload_n 3, 1) := by decide +kernel
theorem dX12_spanOf_183 : decode cX12_spanOf 183 = .ok (.ifCond .eq 15, 3) := by decide +kernel
theorem dX12_spanOf_186 : decode cX12_spanOf 186 = .ok (.lload 12, 2) := by decide +kernel
theorem dX12_spanOf_188 : decode cX12_spanOf 188 = .ok (.lneg, 1) := by decide +kernel
theorem dX12_spanOf_189 : decode cX12_spanOf 189 = .ok (.lload 10, 2) := by decide +kernel
theorem dX12_spanOf_191 : decode cX12_spanOf 191 = .ok (.invokestatic 208, 3) := by decide +kernel
theorem dX12_spanOf_194 : decode cX12_spanOf 194 = .ok (.lneg, 1) := by decide +kernel
theorem dX12_spanOf_195 : decode cX12_spanOf 195 = .ok (.goto 10, 3) := by decide +kernel
theorem dX12_spanOf_198 : decode cX12_spanOf 198 = .ok (.lload 12, 2) := by decide +kernel
theorem dX12_spanOf_200 : decode cX12_spanOf 200 = .ok (.lload 10, 2) := by decide +kernel
theorem dX12_spanOf_202 : decode cX12_spanOf 202 = .ok (.invokestatic 208, 3) := by decide +kernel
theorem dX12_spanOf_205 : decode cX12_spanOf 205 = .ok (.ladd, 1) := by decide +kernel
theorem dX12_spanOf_206 : decode cX12_spanOf 206 = .ok (.l2i, 1) := by decide +kernel
theorem dX12_spanOf_207 : decode cX12_spanOf 207 = .ok (.ireturn, 1) := by decide +kernel
theorem dX12_law_0 : decode cX12_law 0 = .ok (.iload_n 1, 1) := by decide +kernel
theorem dX12_law_1 : decode cX12_law 1 = .ok (.i2l, 1) := by decide +kernel
theorem dX12_law_2 : decode cX12_law 2 = .ok (.lconst 0, 1) := by decide +kernel
theorem dX12_law_3 : decode cX12_law 3 = .ok (.ldc2_w 212, 3) := by decide +kernel
theorem dX12_law_6 : decode cX12_law 6 = .ok (.invokestatic 78, 3) := by decide +kernel
theorem dX12_law_9 : decode cX12_law 9 = .ok (.ifCond .eq 25, 3) := by decide +kernel
theorem dX12_law_12 : decode cX12_law 12 = .ok (.iload_n 2, 1) := by decide +kernel
theorem dX12_law_13 : decode cX12_law 13 = .ok (.i2l, 1) := by decide +kernel
theorem dX12_law_14 : decode cX12_law 14 = .ok (.lconst 0, 1) := by decide +kernel
theorem dX12_law_15 : decode cX12_law 15 = .ok (.ldc2_w 175, 3) := by decide +kernel
theorem dX12_law_18 : decode cX12_law 18 = .ok (.invokestatic 78, 3) := by decide +kernel
theorem dX12_law_21 : decode cX12_law 21 = .ok (.ifCond .eq 13, 3) := by decide +kernel
theorem dX12_law_24 : decode cX12_law 24 = .ok (.aload_n 0, 1) := by decide +kernel
theorem dX12_law_25 : decode cX12_law 25 = .ok (.iload_n 1, 1) := by decide +kernel
theorem dX12_law_26 : decode cX12_law 26 = .ok (.iload_n 2, 1) := by decide +kernel
theorem dX12_law_27 : decode cX12_law 27 = .ok (.iload_n 3, 1) := by decide +kernel
theorem dX12_law_28 : decode cX12_law 28 = .ok (.invokevirtual 214, 3) := by decide +kernel
theorem dX12_law_31 : decode cX12_law 31 = .ok (.goto 4, 3) := by decide +kernel
theorem dX12_law_34 : decode cX12_law 34 = .ok (.iconst (-1), 1) := by decide +kernel
theorem dX12_law_35 : decode cX12_law 35 = .ok (.ireturn, 1) := by decide +kernel
theorem dX12_partsAt_0 : decode cX12_partsAt 0 = .ok (.aload_n 0, 1) := by decide +kernel
theorem dX12_partsAt_1 : decode cX12_partsAt 1 = .ok (.getfield 7, 3) := by decide +kernel
theorem dX12_partsAt_4 : decode cX12_partsAt 4 = .ok (.bipush 20, 2) := by decide +kernel
theorem dX12_partsAt_6 : decode cX12_partsAt 6 = .ok (.bipush 96, 2) := by decide +kernel
theorem dX12_partsAt_8 : decode cX12_partsAt 8 = .ok (.iload_n 1, 1) := by decide +kernel
theorem dX12_partsAt_9 : decode cX12_partsAt 9 = .ok (.imul, 1) := by decide +kernel
theorem dX12_partsAt_10 : decode cX12_partsAt 10 = .ok (.iadd, 1) := by decide +kernel
theorem dX12_partsAt_11 : decode cX12_partsAt 11 = .ok (.bipush 6, 2) := by decide +kernel
theorem dX12_partsAt_13 : decode cX12_partsAt 13 = .ok (.iload_n 2, 1) := by decide +kernel
theorem dX12_partsAt_14 : decode cX12_partsAt 14 = .ok (.imul, 1) := by decide +kernel
theorem dX12_partsAt_15 : decode cX12_partsAt 15 = .ok (.iadd, 1) := by decide +kernel
theorem dX12_partsAt_16 : decode cX12_partsAt 16 = .ok (.iload_n 3, 1) := by decide +kernel
theorem dX12_partsAt_17 : decode cX12_partsAt 17 = .ok (.iadd, 1) := by decide +kernel
theorem dX12_partsAt_18 : decode cX12_partsAt 18 = .ok (.iaload, 1) := by decide +kernel
theorem dX12_partsAt_19 : decode cX12_partsAt 19 = .ok (.ireturn, 1) := by decide +kernel
theorem dX12_sets_0 : decode cX12_sets 0 = .ok (.aload_n 0, 1) := by decide +kernel
theorem dX12_sets_1 : decode cX12_sets 1 = .ok (.getfield 7, 3) := by decide +kernel
theorem dX12_sets_4 : decode cX12_sets 4 = .ok (.bipush 20, 2) := by decide +kernel
theorem dX12_sets_6 : decode cX12_sets 6 = .ok (.bipush 96, 2) := by decide +kernel
theorem dX12_sets_8 : decode cX12_sets 8 = .ok (.iload_n 1, 1) := by decide +kernel
theorem dX12_sets_9 : decode cX12_sets 9 = .ok (.imul, 1) := by decide +kernel
theorem dX12_sets_10 : decode cX12_sets 10 = .ok (.iadd, 1) := by decide +kernel
theorem dX12_sets_11 : decode cX12_sets 11 = .ok (.bipush 6, 2) := by decide +kernel
theorem dX12_sets_13 : decode cX12_sets 13 = .ok (.iload_n 2, 1) := by decide +kernel
theorem dX12_sets_14 : decode cX12_sets 14 = .ok (.imul, 1) := by decide +kernel
theorem dX12_sets_15 : decode cX12_sets 15 = .ok (.iadd, 1) := by decide +kernel
theorem dX12_sets_16 : decode cX12_sets 16 = .ok (.iload_n 3, 1) := by decide +kernel
theorem dX12_sets_17 : decode cX12_sets 17 = .ok (.iadd, 1) := by decide +kernel
theorem dX12_sets_18 : decode cX12_sets 18 = .ok (.iload 4, 2) := by decide +kernel
theorem dX12_sets_20 : decode cX12_sets 20 = .ok (.iastore, 1) := by decide +kernel
theorem dX12_sets_21 : decode cX12_sets 21 = .ok (.return_, 1) := by decide +kernel
theorem dX12_shell_0 : decode cX12_shell 0 = .ok (.iload_n 1, 1) := by decide +kernel
theorem dX12_shell_1 : decode cX12_shell 1 = .ok (.invokestatic 82, 3) := by decide +kernel
theorem dX12_shell_4 : decode cX12_shell 4 = .ok (.ifCond .eq 16, 3) := by decide +kernel
theorem dX12_shell_7 : decode cX12_shell 7 = .ok (.aload_n 0, 1) := by decide +kernel
theorem dX12_shell_8 : decode cX12_shell 8 = .ok (.getfield 7, 3) := by decide +kernel
theorem dX12_shell_11 : decode cX12_shell 11 = .ok (.iconst 2, 1) := by decide +kernel
theorem dX12_shell_12 : decode cX12_shell 12 = .ok (.iload_n 1, 1) := by decide +kernel
theorem dX12_shell_13 : decode cX12_shell 13 = .ok (.iadd, 1) := by decide +kernel
theorem dX12_shell_14 : decode cX12_shell 14 = .ok (.iaload, 1) := by decide +kernel
theorem dX12_shell_15 : decode cX12_shell 15 = .ok (.bipush 16, 2) := by decide +kernel
theorem dX12_shell_17 : decode cX12_shell 17 = .ok (.if_icmp .ne 5, 3) := by decide +kernel
theorem dX12_shell_20 : decode cX12_shell 20 = .ok (.iconst (-1), 1) := by decide +kernel
theorem dX12_shell_21 : decode cX12_shell 21 = .ok (.ireturn, 1) := by decide +kernel
theorem dX12_shell_22 : decode cX12_shell 22 = .ok (.aload_n 0, 1) := by decide +kernel
theorem dX12_shell_23 : decode cX12_shell 23 = .ok (.getfield 7, 3) := by decide +kernel
theorem dX12_shell_26 : decode cX12_shell 26 = .ok (.iconst 2, 1) := by decide +kernel
theorem dX12_shell_27 : decode cX12_shell 27 = .ok (.iload_n 1, 1) := by decide +kernel
theorem dX12_shell_28 : decode cX12_shell 28 = .ok (.iadd, 1) := by decide +kernel
theorem dX12_shell_29 : decode cX12_shell 29 = .ok (.dup2, 1) := by decide +kernel
theorem dX12_shell_30 : decode cX12_shell 30 = .ok (.iaload, 1) := by decide +kernel
theorem dX12_shell_31 : decode cX12_shell 31 = .ok (.iconst 1, 1) := by decide +kernel
theorem dX12_shell_32 : decode cX12_shell 32 = .ok (.iadd, 1) := by decide +kernel
theorem dX12_shell_33 : decode cX12_shell 33 = .ok (.iastore, 1) := by decide +kernel
theorem dX12_shell_34 : decode cX12_shell 34 = .ok (.aload_n 0, 1) := by decide +kernel
theorem dX12_shell_35 : decode cX12_shell 35 = .ok (.getfield 7, 3) := by decide +kernel
theorem dX12_shell_38 : decode cX12_shell 38 = .ok (.iconst 2, 1) := by decide +kernel
theorem dX12_shell_39 : decode cX12_shell 39 = .ok (.iload_n 1, 1) := by decide +kernel
theorem dX12_shell_40 : decode cX12_shell 40 = .ok (.iadd, 1) := by decide +kernel
theorem dX12_shell_41 : decode cX12_shell 41 = .ok (.iaload, 1) := by decide +kernel
theorem dX12_shell_42 : decode cX12_shell 42 = .ok (.iconst 1, 1) := by decide +kernel
theorem dX12_shell_43 : decode cX12_shell 43 = .ok (.isub, 1) := by decide +kernel
theorem dX12_shell_44 : decode cX12_shell 44 = .ok (.ireturn, 1) := by decide +kernel
theorem dX12_fill_0 : decode cX12_fill 0 = .ok (.aload_n 0, 1) := by decide +kernel
theorem dX12_fill_1 : decode cX12_fill 1 = .ok (.iload_n 1, 1) := by decide +kernel
theorem dX12_fill_2 : decode cX12_fill 2 = .ok (.iload_n 2, 1) := by decide +kernel
theorem dX12_fill_3 : decode cX12_fill 3 = .ok (.invokevirtual 218, 3) := by decide +kernel
theorem dX12_fill_6 : decode cX12_fill 6 = .ok (.ifCond .eq 28, 3) := by decide +kernel
theorem dX12_fill_9 : decode cX12_fill 9 = .ok (.iload_n 3, 1) := by decide +kernel
theorem dX12_fill_10 : decode cX12_fill 10 = .ok (.i2l, 1) := by decide +kernel
theorem dX12_fill_11 : decode cX12_fill 11 = .ok (.lconst 0, 1) := by decide +kernel
theorem dX12_fill_12 : decode cX12_fill 12 = .ok (.ldc2_w 197, 3) := by decide +kernel
theorem dX12_fill_15 : decode cX12_fill 15 = .ok (.invokestatic 78, 3) := by decide +kernel
theorem dX12_fill_18 : decode cX12_fill 18 = .ok (.ifCond .eq 16, 3) := by decide +kernel
theorem dX12_fill_21 : decode cX12_fill 21 = .ok (.iload 4, 2) := by decide +kernel
theorem dX12_fill_23 : decode cX12_fill 23 = .ok (.i2l, 1) := by decide +kernel
theorem dX12_fill_24 : decode cX12_fill 24 = .ok (.lconst 0, 1) := by decide +kernel
theorem dX12_fill_25 : decode cX12_fill 25 = .ok (.ldc2_w 222, 3) := by decide +kernel
theorem dX12_fill_28 : decode cX12_fill 28 = .ok (.invokestatic 78, 3) := by decide +kernel
theorem dX12_fill_31 : decode cX12_fill 31 = .ok (.ifCond .ne 5, 3) := by decide +kernel
theorem dX12_fill_34 : decode cX12_fill 34 = .ok (.iconst 0, 1) := by decide +kernel
theorem dX12_fill_35 : decode cX12_fill 35 = .ok (.ireturn, 1) := by decide +kernel
theorem dX12_fill_36 : decode cX12_fill 36 = .ok (.aload_n 0, 1) := by decide +kernel
theorem dX12_fill_37 : decode cX12_fill 37 = .ok (.iload_n 1, 1) := by decide +kernel
theorem dX12_fill_38 : decode cX12_fill 38 = .ok (.iload_n 2, 1) := by decide +kernel
theorem dX12_fill_39 : decode cX12_fill 39 = .ok (.iload_n 3, 1) := by decide +kernel
theorem dX12_fill_40 : decode cX12_fill 40 = .ok (.iload 4, 2) := by decide +kernel
theorem dX12_fill_42 : decode cX12_fill 42 = .ok (.invokevirtual 224, 3) := by decide +kernel
theorem dX12_fill_45 : decode cX12_fill 45 = .ok (.iconst 1, 1) := by decide +kernel
theorem dX12_fill_46 : decode cX12_fill 46 = .ok (.ireturn, 1) := by decide +kernel
theorem dX12_parts_0 : decode cX12_parts 0 = .ok (.aload_n 0, 1) := by decide +kernel
theorem dX12_parts_1 : decode cX12_parts 1 = .ok (.iload_n 1, 1) := by decide +kernel
theorem dX12_parts_2 : decode cX12_parts 2 = .ok (.iload_n 2, 1) := by decide +kernel
theorem dX12_parts_3 : decode cX12_parts 3 = .ok (.invokevirtual 218, 3) := by decide +kernel
theorem dX12_parts_6 : decode cX12_parts 6 = .ok (.ifCond .eq 25, 3) := by decide +kernel
theorem dX12_parts_9 : decode cX12_parts 9 = .ok (.iload_n 3, 1) := by decide +kernel
theorem dX12_parts_10 : decode cX12_parts 10 = .ok (.i2l, 1) := by decide +kernel
theorem dX12_parts_11 : decode cX12_parts 11 = .ok (.lconst 0, 1) := by decide +kernel
theorem dX12_parts_12 : decode cX12_parts 12 = .ok (.ldc2_w 197, 3) := by decide +kernel
theorem dX12_parts_15 : decode cX12_parts 15 = .ok (.invokestatic 78, 3) := by decide +kernel
theorem dX12_parts_18 : decode cX12_parts 18 = .ok (.ifCond .eq 13, 3) := by decide +kernel
theorem dX12_parts_21 : decode cX12_parts 21 = .ok (.aload_n 0, 1) := by decide +kernel
theorem dX12_parts_22 : decode cX12_parts 22 = .ok (.iload_n 1, 1) := by decide +kernel
theorem dX12_parts_23 : decode cX12_parts 23 = .ok (.iload_n 2, 1) := by decide +kernel
theorem dX12_parts_24 : decode cX12_parts 24 = .ok (.iload_n 3, 1) := by decide +kernel
theorem dX12_parts_25 : decode cX12_parts 25 = .ok (.invokevirtual 228, 3) := by decide +kernel
theorem dX12_parts_28 : decode cX12_parts 28 = .ok (.goto 4, 3) := by decide +kernel
theorem dX12_parts_31 : decode cX12_parts 31 = .ok (.iconst (-1), 1) := by decide +kernel
theorem dX12_parts_32 : decode cX12_parts 32 = .ok (.ireturn, 1) := by decide +kernel
theorem dX12_rules_0 : decode cX12_rules 0 = .ok (.iload_n 1, 1) := by decide +kernel
theorem dX12_rules_1 : decode cX12_rules 1 = .ok (.invokestatic 82, 3) := by decide +kernel
theorem dX12_rules_4 : decode cX12_rules 4 = .ok (.ifCond .eq 27, 3) := by decide +kernel
theorem dX12_rules_7 : decode cX12_rules 7 = .ok (.iload_n 2, 1) := by decide +kernel
theorem dX12_rules_8 : decode cX12_rules 8 = .ok (.i2l, 1) := by decide +kernel
theorem dX12_rules_9 : decode cX12_rules 9 = .ok (.lconst 1, 1) := by decide +kernel
theorem dX12_rules_10 : decode cX12_rules 10 = .ok (.ldc2_w 222, 3) := by decide +kernel
theorem dX12_rules_13 : decode cX12_rules 13 = .ok (.invokestatic 78, 3) := by decide +kernel
theorem dX12_rules_16 : decode cX12_rules 16 = .ok (.ifCond .eq 15, 3) := by decide +kernel
theorem dX12_rules_19 : decode cX12_rules 19 = .ok (.iload_n 3, 1) := by decide +kernel
theorem dX12_rules_20 : decode cX12_rules 20 = .ok (.i2l, 1) := by decide +kernel
theorem dX12_rules_21 : decode cX12_rules 21 = .ok (.lconst 0, 1) := by decide +kernel
theorem dX12_rules_22 : decode cX12_rules 22 = .ok (.ldc2_w 232, 3) := by decide +kernel
theorem dX12_rules_25 : decode cX12_rules 25 = .ok (.invokestatic 78, 3) := by decide +kernel
theorem dX12_rules_28 : decode cX12_rules 28 = .ok (.ifCond .ne 5, 3) := by decide +kernel
theorem dX12_rules_31 : decode cX12_rules 31 = .ok (.iconst 0, 1) := by decide +kernel
theorem dX12_rules_32 : decode cX12_rules 32 = .ok (.ireturn, 1) := by decide +kernel
theorem dX12_rules_33 : decode cX12_rules 33 = .ok (.aload_n 0, 1) := by decide +kernel
theorem dX12_rules_34 : decode cX12_rules 34 = .ok (.getfield 7, 3) := by decide +kernel
theorem dX12_rules_37 : decode cX12_rules 37 = .ok (.bipush 8, 2) := by decide +kernel
theorem dX12_rules_39 : decode cX12_rules 39 = .ok (.iload_n 1, 1) := by decide +kernel
theorem dX12_rules_40 : decode cX12_rules 40 = .ok (.iadd, 1) := by decide +kernel
theorem dX12_rules_41 : decode cX12_rules 41 = .ok (.iload_n 2, 1) := by decide +kernel
theorem dX12_rules_42 : decode cX12_rules 42 = .ok (.iastore, 1) := by decide +kernel
theorem dX12_rules_43 : decode cX12_rules 43 = .ok (.aload_n 0, 1) := by decide +kernel
theorem dX12_rules_44 : decode cX12_rules 44 = .ok (.getfield 7, 3) := by decide +kernel
theorem dX12_rules_47 : decode cX12_rules 47 = .ok (.bipush 10, 2) := by decide +kernel
theorem dX12_rules_49 : decode cX12_rules 49 = .ok (.iload_n 1, 1) := by decide +kernel
theorem dX12_rules_50 : decode cX12_rules 50 = .ok (.iadd, 1) := by decide +kernel
theorem dX12_rules_51 : decode cX12_rules 51 = .ok (.iload_n 3, 1) := by decide +kernel
theorem dX12_rules_52 : decode cX12_rules 52 = .ok (.iastore, 1) := by decide +kernel
theorem dX12_rules_53 : decode cX12_rules 53 = .ok (.iconst 1, 1) := by decide +kernel
theorem dX12_rules_54 : decode cX12_rules 54 = .ok (.ireturn, 1) := by decide +kernel
theorem dX12_weighs_0 : decode cX12_weighs 0 = .ok (.iconst 0, 1) := by decide +kernel
theorem dX12_weighs_1 : decode cX12_weighs 1 = .ok (.istore_n 3, 1) := by decide +kernel
theorem dX12_weighs_2 : decode cX12_weighs 2 = .ok (.iconst 0, 1) := by decide +kernel
theorem dX12_weighs_3 : decode cX12_weighs 3 = .ok (.istore 4, 2) := by decide +kernel
theorem dX12_weighs_5 : decode cX12_weighs 5 = .ok (.iload 4, 2) := by decide +kernel
theorem dX12_weighs_7 : decode cX12_weighs 7 = .ok (.bipush 6, 2) := by decide +kernel
theorem dX12_weighs_9 : decode cX12_weighs 9 = .ok (.if_icmp .ge 27, 3) := by decide +kernel
theorem dX12_weighs_12 : decode cX12_weighs 12 = .ok (.iload_n 3, 1) := by decide +kernel
theorem dX12_weighs_13 : decode cX12_weighs 13 = .ok (.aload_n 0, 1) := by decide +kernel
theorem dX12_weighs_14 : decode cX12_weighs 14 = .ok (.iload 4, 2) := by decide +kernel
theorem dX12_weighs_16 : decode cX12_weighs 16 = .ok (.invokevirtual 199, 3) := by decide +kernel
theorem dX12_weighs_19 : decode cX12_weighs 19 = .ok (.aload_n 0, 1) := by decide +kernel
theorem dX12_weighs_20 : decode cX12_weighs 20 = .ok (.iload_n 1, 1) := by decide +kernel
theorem dX12_weighs_21 : decode cX12_weighs 21 = .ok (.iload_n 2, 1) := by decide +kernel
theorem dX12_weighs_22 : decode cX12_weighs 22 = .ok (.iload 4, 2) := by decide +kernel
theorem dX12_weighs_24 : decode cX12_weighs 24 = .ok (.invokevirtual 228, 3) := by decide +kernel
theorem dX12_weighs_27 : decode cX12_weighs 27 = .ok (.imul, 1) := by decide +kernel
theorem dX12_weighs_28 : decode cX12_weighs 28 = .ok (.iadd, 1) := by decide +kernel
theorem dX12_weighs_29 : decode cX12_weighs 29 = .ok (.istore_n 3, 1) := by decide +kernel
theorem dX12_weighs_30 : decode cX12_weighs 30 = .ok (.iinc 4 1, 3) := by decide +kernel
theorem dX12_weighs_33 : decode cX12_weighs 33 = .ok (.goto (-28), 3) := by decide +kernel
theorem dX12_weighs_36 : decode cX12_weighs 36 = .ok (.iload_n 3, 1) := by decide +kernel
theorem dX12_weighs_37 : decode cX12_weighs 37 = .ok (.ireturn, 1) := by decide +kernel
theorem dX12_needOf_0 : decode cX12_needOf 0 = .ok (.aload_n 0, 1) := by decide +kernel
theorem dX12_needOf_1 : decode cX12_needOf 1 = .ok (.iload_n 1, 1) := by decide +kernel
theorem dX12_needOf_2 : decode cX12_needOf 2 = .ok (.iload_n 2, 1) := by decide +kernel
theorem dX12_needOf_3 : decode cX12_needOf 3 = .ok (.invokevirtual 234, 3) := by decide +kernel
theorem dX12_needOf_6 : decode cX12_needOf 6 = .ok (.iconst 2, 1) := by decide +kernel
theorem dX12_needOf_7 : decode cX12_needOf 7 = .ok (.idiv, 1) := by decide +kernel
theorem dX12_needOf_8 : decode cX12_needOf 8 = .ok (.istore 4, 2) := by decide +kernel
theorem dX12_needOf_10 : decode cX12_needOf 10 = .ok (.iload_n 2, 1) := by decide +kernel
theorem dX12_needOf_11 : decode cX12_needOf 11 = .ok (.iconst 1, 1) := by decide +kernel
theorem dX12_needOf_12 : decode cX12_needOf 12 = .ok (.iadd, 1) := by decide +kernel
theorem dX12_needOf_13 : decode cX12_needOf 13 = .ok (.istore 5, 2) := by decide +kernel
theorem dX12_needOf_15 : decode cX12_needOf 15 = .ok (.iload 5, 2) := by decide +kernel
theorem dX12_needOf_17 : decode cX12_needOf 17 = .ok (.aload_n 0, 1) := by decide +kernel
theorem dX12_needOf_18 : decode cX12_needOf 18 = .ok (.getfield 7, 3) := by decide +kernel
theorem dX12_needOf_21 : decode cX12_needOf 21 = .ok (.iconst 2, 1) := by decide +kernel
theorem dX12_needOf_22 : decode cX12_needOf 22 = .ok (.iload_n 1, 1) := by decide +kernel
theorem dX12_needOf_23 : decode cX12_needOf 23 = .ok (.iadd, 1) := by decide +kernel
theorem dX12_needOf_24 : decode cX12_needOf 24 = .ok (.iaload, 1) := by decide +kernel
theorem dX12_needOf_25 : decode cX12_needOf 25 = .ok (.if_icmp .ge 21, 3) := by decide +kernel
theorem dX12_needOf_28 : decode cX12_needOf 28 = .ok (.iload 4, 2) := by decide +kernel
theorem dX12_needOf_30 : decode cX12_needOf 30 = .ok (.aload_n 0, 1) := by decide +kernel
theorem dX12_needOf_31 : decode cX12_needOf 31 = .ok (.iload_n 1, 1) := by decide +kernel
theorem dX12_needOf_32 : decode cX12_needOf 32 = .ok (.iload 5, 2) := by decide +kernel
theorem dX12_needOf_34 : decode cX12_needOf 34 = .ok (.invokevirtual 234, 3) := by decide +kernel
theorem dX12_needOf_37 : decode cX12_needOf 37 = .ok (.iadd, 1) := by decide +kernel
theorem dX12_needOf_38 : decode cX12_needOf 38 = .ok (.istore 4, 2) := by decide +kernel
theorem dX12_needOf_40 : decode cX12_needOf 40 = .ok (.iinc 5 1, 3) := by decide +kernel
theorem dX12_needOf_43 : decode cX12_needOf 43 = .ok (.goto (-28), 3) := by decide +kernel
theorem dX12_needOf_46 : decode cX12_needOf 46 = .ok (.iload 4, 2) := by decide +kernel
theorem dX12_needOf_48 : decode cX12_needOf 48 = .ok (.iload_n 3, 1) := by decide +kernel
theorem dX12_needOf_49 : decode cX12_needOf 49 = .ok (.idiv, 1) := by decide +kernel
theorem dX12_needOf_50 : decode cX12_needOf 50 = .ok (.ireturn, 1) := by decide +kernel
theorem dX12_spans_0 : decode cX12_spans 0 = .ok (.iconst 0, 1) := by decide +kernel
theorem dX12_spans_1 : decode cX12_spans 1 = .ok (.istore_n 1, 1) := by decide +kernel
theorem dX12_spans_2 : decode cX12_spans 2 = .ok (.iload_n 1, 1) := by decide +kernel
theorem dX12_spans_3 : decode cX12_spans 3 = .ok (.bipush 7, 2) := by decide +kernel
theorem dX12_spans_5 : decode cX12_spans 5 = .ok (.if_icmp .ge 62, 3) := by decide +kernel
theorem dX12_spans_8 : decode cX12_spans 8 = .ok (.iconst 0, 1) := by decide +kernel
theorem dX12_spans_9 : decode cX12_spans 9 = .ok (.istore_n 2, 1) := by decide +kernel
theorem dX12_spans_10 : decode cX12_spans 10 = .ok (.iload_n 2, 1) := by decide +kernel
theorem dX12_spans_11 : decode cX12_spans 11 = .ok (.sipush 1000, 3) := by decide +kernel
theorem dX12_spans_14 : decode cX12_spans 14 = .ok (.if_icmp .ge 47, 3) := by decide +kernel
theorem dX12_spans_17 : decode cX12_spans 17 = .ok (.aload_n 0, 1) := by decide +kernel
theorem dX12_spans_18 : decode cX12_spans 18 = .ok (.getfield 47, 3) := by decide +kernel
theorem dX12_spans_21 : decode cX12_spans 21 = .ok (.sipush 1000, 3) := by decide +kernel
theorem dX12_spans_24 : decode cX12_spans 24 = .ok (.iload_n 1, 1) := by decide +kernel
theorem dX12_spans_25 : decode cX12_spans 25 = .ok (.imul, 1) := by decide +kernel
theorem dX12_spans_26 : decode cX12_spans 26 = .ok (.iload_n 2, 1) := by decide +kernel
theorem dX12_spans_27 : decode cX12_spans 27 = .ok (.iadd, 1) := by decide +kernel
theorem dX12_spans_28 : decode cX12_spans 28 = .ok (.aload_n 0, 1) := by decide +kernel
theorem dX12_spans_29 : decode cX12_spans 29 = .ok (.iload_n 1, 1) := by decide +kernel
theorem dX12_spans_30 : decode cX12_spans 30 = .ok (.iload_n 2, 1) := by decide +kernel
theorem dX12_spans_31 : decode cX12_spans 31 = .ok (.iconst 0, 1) := by decide +kernel
theorem dX12_spans_32 : decode cX12_spans 32 = .ok (.invokevirtual 214, 3) := by decide +kernel
theorem dX12_spans_35 : decode cX12_spans 35 = .ok (.iastore, 1) := by decide +kernel
theorem dX12_spans_36 : decode cX12_spans 36 = .ok (.aload_n 0, 1) := by decide +kernel
theorem dX12_spans_37 : decode cX12_spans 37 = .ok (.getfield 50, 3) := by decide +kernel
theorem dX12_spans_40 : decode cX12_spans 40 = .ok (.sipush 1000, 3) := by decide +kernel
theorem dX12_spans_43 : decode cX12_spans 43 = .ok (.iload_n 1, 1) := by decide +kernel
theorem dX12_spans_44 : decode cX12_spans 44 = .ok (.imul, 1) := by decide +kernel
theorem dX12_spans_45 : decode cX12_spans 45 = .ok (.iload_n 2, 1) := by decide +kernel
theorem dX12_spans_46 : decode cX12_spans 46 = .ok (.iadd, 1) := by decide +kernel
theorem dX12_spans_47 : decode cX12_spans 47 = .ok (.aload_n 0, 1) := by decide +kernel
theorem dX12_spans_48 : decode cX12_spans 48 = .ok (.iload_n 1, 1) := by decide +kernel
theorem dX12_spans_49 : decode cX12_spans 49 = .ok (.iload_n 2, 1) := by decide +kernel
theorem dX12_spans_50 : decode cX12_spans 50 = .ok (.iconst 1, 1) := by decide +kernel
theorem dX12_spans_51 : decode cX12_spans 51 = .ok (.invokevirtual 214, 3) := by decide +kernel
theorem dX12_spans_54 : decode cX12_spans 54 = .ok (.iastore, 1) := by decide +kernel
theorem dX12_spans_55 : decode cX12_spans 55 = .ok (.iinc 2 1, 3) := by decide +kernel
theorem dX12_spans_58 : decode cX12_spans 58 = .ok (.goto (-48), 3) := by decide +kernel
theorem dX12_spans_61 : decode cX12_spans 61 = .ok (.iinc 1 1, 3) := by decide +kernel
theorem dX12_spans_64 : decode cX12_spans 64 = .ok (.goto (-62), 3) := by decide +kernel
theorem dX12_spans_67 : decode cX12_spans 67 = .ok (.return_, 1) := by decide +kernel
theorem dX12_canBe_0 : decode cX12_canBe 0 = .ok (.aload_n 0, 1) := by decide +kernel
theorem dX12_canBe_1 : decode cX12_canBe 1 = .ok (.getfield 62, 3) := by decide +kernel
theorem dX12_canBe_4 : decode cX12_canBe 4 = .ok (.iload_n 1, 1) := by decide +kernel
theorem dX12_canBe_5 : decode cX12_canBe 5 = .ok (.iaload, 1) := by decide +kernel
theorem dX12_canBe_6 : decode cX12_canBe 6 = .ok (.i2l, 1) := by decide +kernel
theorem dX12_canBe_7 : decode cX12_canBe 7 = .ok (.aload_n 0, 1) := by decide +kernel
theorem dX12_canBe_8 : decode cX12_canBe 8 = .ok (.getfield 47, 3) := by decide +kernel
theorem dX12_canBe_11 : decode cX12_canBe 11 = .ok (.iload_n 2, 1) := by decide +kernel
theorem dX12_canBe_12 : decode cX12_canBe 12 = .ok (.iaload, 1) := by decide +kernel
theorem dX12_canBe_13 : decode cX12_canBe 13 = .ok (.i2l, 1) := by decide +kernel
theorem dX12_canBe_14 : decode cX12_canBe 14 = .ok (.aload_n 0, 1) := by decide +kernel
theorem dX12_canBe_15 : decode cX12_canBe 15 = .ok (.getfield 50, 3) := by decide +kernel
theorem dX12_canBe_18 : decode cX12_canBe 18 = .ok (.iload_n 2, 1) := by decide +kernel
theorem dX12_canBe_19 : decode cX12_canBe 19 = .ok (.iaload, 1) := by decide +kernel
theorem dX12_canBe_20 : decode cX12_canBe 20 = .ok (.i2l, 1) := by decide +kernel
theorem dX12_canBe_21 : decode cX12_canBe 21 = .ok (.invokestatic 78, 3) := by decide +kernel
theorem dX12_canBe_24 : decode cX12_canBe 24 = .ok (.ireturn, 1) := by decide +kernel
theorem dX12_settles_0 : decode cX12_settles 0 = .ok (.aload_n 0, 1) := by decide +kernel
theorem dX12_settles_1 : decode cX12_settles 1 = .ok (.getfield 7, 3) := by decide +kernel
theorem dX12_settles_4 : decode cX12_settles 4 = .ok (.iconst 2, 1) := by decide +kernel
theorem dX12_settles_5 : decode cX12_settles 5 = .ok (.iload_n 1, 1) := by decide +kernel
theorem dX12_settles_6 : decode cX12_settles 6 = .ok (.iadd, 1) := by decide +kernel
theorem dX12_settles_7 : decode cX12_settles 7 = .ok (.iaload, 1) := by decide +kernel
theorem dX12_settles_8 : decode cX12_settles 8 = .ok (.ifCond .le 7, 3) := by decide +kernel
theorem dX12_settles_11 : decode cX12_settles 11 = .ok (.iconst 1, 1) := by decide +kernel
theorem dX12_settles_12 : decode cX12_settles 12 = .ok (.goto 4, 3) := by decide +kernel
theorem dX12_settles_15 : decode cX12_settles 15 = .ok (.iconst 0, 1) := by decide +kernel
theorem dX12_settles_16 : decode cX12_settles 16 = .ok (.istore_n 3, 1) := by decide +kernel
theorem dX12_settles_17 : decode cX12_settles 17 = .ok (.iconst 0, 1) := by decide +kernel
theorem dX12_settles_18 : decode cX12_settles 18 = .ok (.istore 4, 2) := by decide +kernel
theorem dX12_settles_20 : decode cX12_settles 20 = .ok (.iload 4, 2) := by decide +kernel
theorem dX12_settles_22 : decode cX12_settles 22 = .ok (.aload_n 0, 1) := by decide +kernel
theorem dX12_settles_23 : decode cX12_settles 23 = .ok (.getfield 7, 3) := by decide +kernel
theorem dX12_settles_26 : decode cX12_settles 26 = .ok (.iconst 2, 1) := by decide +kernel
theorem dX12_settles_27 : decode cX12_settles 27 = .ok (.iload_n 1, 1) := by decide +kernel
theorem dX12_settles_28 : decode cX12_settles 28 = .ok (.iadd, 1) := by decide +kernel
theorem dX12_settles_29 : decode cX12_settles 29 = .ok (.iaload, 1) := by decide +kernel
theorem dX12_settles_30 : decode cX12_settles 30 = .ok (.if_icmp .ge 185, 3) := by decide +kernel
theorem dX12_settles_33 : decode cX12_settles 33 = .ok (.aload_n 0, 1) := by decide +kernel
theorem dX12_settles_34 : decode cX12_settles 34 = .ok (.getfield 62, 3) := by decide +kernel
theorem dX12_settles_37 : decode cX12_settles 37 = .ok (.iload 4, 2) := by decide +kernel
theorem dX12_settles_39 : decode cX12_settles 39 = .ok (.aload_n 0, 1) := by decide +kernel
theorem dX12_settles_40 : decode cX12_settles 40 = .ok (.iload_n 1, 1) := by decide +kernel
theorem dX12_settles_41 : decode cX12_settles 41 = .ok (.iload 4, 2) := by decide +kernel
theorem dX12_settles_43 : decode cX12_settles 43 = .ok (.iload_n 2, 1) := by decide +kernel
theorem dX12_settles_44 : decode cX12_settles 44 = .ok (.invokevirtual 237, 3) := by decide +kernel
theorem dX12_settles_47 : decode cX12_settles 47 = .ok (.iastore, 1) := by decide +kernel
theorem dX12_settles_48 : decode cX12_settles 48 = .ok (.aload_n 0, 1) := by decide +kernel
theorem dX12_settles_49 : decode cX12_settles 49 = .ok (.getfield 53, 3) := by decide +kernel
theorem dX12_settles_52 : decode cX12_settles 52 = .ok (.iload 4, 2) := by decide +kernel
theorem dX12_settles_54 : decode cX12_settles 54 = .ok (.iconst 0, 1) := by decide +kernel
theorem dX12_settles_55 : decode cX12_settles 55 = .ok (.iastore, 1) := by decide +kernel
theorem dX12_settles_56 : decode cX12_settles 56 = .ok (.aload_n 0, 1) := by decide +kernel
theorem dX12_settles_57 : decode cX12_settles 57 = .ok (.getfield 56, 3) := by decide +kernel
theorem dX12_settles_60 : decode cX12_settles 60 = .ok (.iload 4, 2) := by decide +kernel
theorem dX12_settles_62 : decode cX12_settles 62 = .ok (.iconst 0, 1) := by decide +kernel
theorem dX12_settles_63 : decode cX12_settles 63 = .ok (.iastore, 1) := by decide +kernel
theorem dX12_settles_64 : decode cX12_settles 64 = .ok (.aload_n 0, 1) := by decide +kernel
theorem dX12_settles_65 : decode cX12_settles 65 = .ok (.getfield 59, 3) := by decide +kernel
theorem dX12_settles_68 : decode cX12_settles 68 = .ok (.iload 4, 2) := by decide +kernel
theorem dX12_settles_70 : decode cX12_settles 70 = .ok (.iconst 0, 1) := by decide +kernel
theorem dX12_settles_71 : decode cX12_settles 71 = .ok (.iastore, 1) := by decide +kernel
theorem dX12_settles_72 : decode cX12_settles 72 = .ok (.iconst 0, 1) := by decide +kernel
theorem dX12_settles_73 : decode cX12_settles 73 = .ok (.istore 5, 2) := by decide +kernel
theorem dX12_settles_75 : decode cX12_settles 75 = .ok (.iload 5, 2) := by decide +kernel
theorem dX12_settles_77 : decode cX12_settles 77 = .ok (.sipush 1000, 3) := by decide +kernel
theorem dX12_settles_80 : decode cX12_settles 80 = .ok (.if_icmp .ge 109, 3) := by decide +kernel
theorem dX12_settles_83 : decode cX12_settles 83 = .ok (.aload_n 0, 1) := by decide +kernel
theorem dX12_settles_84 : decode cX12_settles 84 = .ok (.iload 4, 2) := by decide +kernel
theorem dX12_settles_86 : decode cX12_settles 86 = .ok (.iload 5, 2) := by decide +kernel
theorem dX12_settles_88 : decode cX12_settles 88 = .ok (.invokevirtual 240, 3) := by decide +kernel
theorem dX12_settles_91 : decode cX12_settles 91 = .ok (.ifCond .eq 92, 3) := by decide +kernel
theorem dX12_settles_94 : decode cX12_settles 94 = .ok (.iload 5, 2) := by decide +kernel
theorem dX12_settles_96 : decode cX12_settles 96 = .ok (.ifCond .eq 16, 3) := by decide +kernel
theorem dX12_settles_99 : decode cX12_settles 99 = .ok (.aload_n 0, 1) := by decide +kernel
theorem dX12_settles_100 : decode cX12_settles 100 = .ok (.iload 4, 2) := by decide +kernel
theorem dX12_settles_102 : decode cX12_settles 102 = .ok (.iload 5, 2) := by decide +kernel
theorem dX12_settles_104 : decode cX12_settles 104 = .ok (.iconst 1, 1) := by decide +kernel
theorem dX12_settles_105 : decode cX12_settles 105 = .ok (.isub, 1) := by decide +kernel
theorem dX12_settles_106 : decode cX12_settles 106 = .ok (.invokevirtual 240, 3) := by decide +kernel
theorem dX12_settles_109 : decode cX12_settles 109 = .ok (.ifCond .ne 44, 3) := by decide +kernel
theorem dX12_settles_112 : decode cX12_settles 112 = .ok (.aload_n 0, 1) := by decide +kernel
theorem dX12_settles_113 : decode cX12_settles 113 = .ok (.getfield 53, 3) := by decide +kernel
theorem dX12_settles_116 : decode cX12_settles 116 = .ok (.iload 4, 2) := by decide +kernel
theorem dX12_settles_118 : decode cX12_settles 118 = .ok (.dup2, 1) := by decide +kernel
theorem dX12_settles_119 : decode cX12_settles 119 = .ok (.iaload, 1) := by decide +kernel
theorem dX12_settles_120 : decode cX12_settles 120 = .ok (.iconst 1, 1) := by decide +kernel
theorem dX12_settles_121 : decode cX12_settles 121 = .ok (.iadd, 1) := by decide +kernel
theorem dX12_settles_122 : decode cX12_settles 122 = .ok (.iastore, 1) := by decide +kernel
theorem dX12_settles_123 : decode cX12_settles 123 = .ok (.aload_n 0, 1) := by decide +kernel
theorem dX12_settles_124 : decode cX12_settles 124 = .ok (.getfield 56, 3) := by decide +kernel
theorem dX12_settles_127 : decode cX12_settles 127 = .ok (.iload 4, 2) := by decide +kernel
theorem dX12_settles_129 : decode cX12_settles 129 = .ok (.aload_n 0, 1) := by decide +kernel
theorem dX12_settles_130 : decode cX12_settles 130 = .ok (.getfield 53, 3) := by decide +kernel
theorem dX12_settles_133 : decode cX12_settles 133 = .ok (.iload 4, 2) := by decide +kernel
theorem dX12_settles_135 : decode cX12_settles 135 = .ok (.iaload, 1) := by decide +kernel
theorem dX12_settles_136 : decode cX12_settles 136 = .ok (.iconst 1, 1) := by decide +kernel
theorem dX12_settles_137 : decode cX12_settles 137 = .ok (.if_icmp .ne 8, 3) := by decide +kernel
theorem dX12_settles_140 : decode cX12_settles 140 = .ok (.iload 5, 2) := by decide +kernel
theorem dX12_settles_142 : decode cX12_settles 142 = .ok (.goto 10, 3) := by decide +kernel
theorem dX12_settles_145 : decode cX12_settles 145 = .ok (.aload_n 0, 1) := by decide +kernel
theorem dX12_settles_146 : decode cX12_settles 146 = .ok (.getfield 56, 3) := by decide +kernel
theorem dX12_settles_149 : decode cX12_settles 149 = .ok (.iload 4, 2) := by decide +kernel
theorem dX12_settles_151 : decode cX12_settles 151 = .ok (.iaload, 1) := by decide +kernel
theorem dX12_settles_152 : decode cX12_settles 152 = .ok (.iastore, 1) := by decide +kernel
theorem dX12_settles_153 : decode cX12_settles 153 = .ok (.aload_n 0, 1) := by decide +kernel
theorem dX12_settles_154 : decode cX12_settles 154 = .ok (.getfield 59, 3) := by decide +kernel
theorem dX12_settles_157 : decode cX12_settles 157 = .ok (.iload 4, 2) := by decide +kernel
theorem dX12_settles_159 : decode cX12_settles 159 = .ok (.aload_n 0, 1) := by decide +kernel
theorem dX12_settles_160 : decode cX12_settles 160 = .ok (.getfield 53, 3) := by decide +kernel
theorem dX12_settles_163 : decode cX12_settles 163 = .ok (.iload 4, 2) := by decide +kernel
theorem dX12_settles_165 : decode cX12_settles 165 = .ok (.iaload, 1) := by decide +kernel
theorem dX12_settles_166 : decode cX12_settles 166 = .ok (.iconst 1, 1) := by decide +kernel
theorem dX12_settles_167 : decode cX12_settles 167 = .ok (.if_icmp .ne 8, 3) := by decide +kernel
theorem dX12_settles_170 : decode cX12_settles 170 = .ok (.iload 5, 2) := by decide +kernel
theorem dX12_settles_172 : decode cX12_settles 172 = .ok (.goto 10, 3) := by decide +kernel
theorem dX12_settles_175 : decode cX12_settles 175 = .ok (.aload_n 0, 1) := by decide +kernel
theorem dX12_settles_176 : decode cX12_settles 176 = .ok (.getfield 59, 3) := by decide +kernel
theorem dX12_settles_179 : decode cX12_settles 179 = .ok (.iload 4, 2) := by decide +kernel
theorem dX12_settles_181 : decode cX12_settles 181 = .ok (.iaload, 1) := by decide +kernel
theorem dX12_settles_182 : decode cX12_settles 182 = .ok (.iastore, 1) := by decide +kernel
theorem dX12_settles_183 : decode cX12_settles 183 = .ok (.iinc 5 1, 3) := by decide +kernel
theorem dX12_settles_186 : decode cX12_settles 186 = .ok (.goto (-111), 3) := by decide +kernel
theorem dX12_settles_189 : decode cX12_settles 189 = .ok (.iload_n 3, 1) := by decide +kernel
theorem dX12_settles_190 : decode cX12_settles 190 = .ok (.ifCond .eq 17, 3) := by decide +kernel
theorem dX12_settles_193 : decode cX12_settles 193 = .ok (.aload_n 0, 1) := by decide +kernel
theorem dX12_settles_194 : decode cX12_settles 194 = .ok (.getfield 53, 3) := by decide +kernel
theorem dX12_settles_197 : decode cX12_settles 197 = .ok (.iload 4, 2) := by decide +kernel
theorem dX12_settles_199 : decode cX12_settles 199 = .ok (.iaload, 1) := by decide +kernel
theorem dX12_settles_200 : decode cX12_settles 200 = .ok (.ifCond .le 7, 3) := by decide +kernel
theorem dX12_settles_203 : decode cX12_settles 203 = .ok (.iconst 1, 1) := by decide +kernel
theorem dX12_settles_204 : decode cX12_settles 204 = .ok (.goto 4, 3) := by decide +kernel
theorem dX12_settles_207 : decode cX12_settles 207 = .ok (.iconst 0, 1) := by decide +kernel
theorem dX12_settles_208 : decode cX12_settles 208 = .ok (.istore_n 3, 1) := by decide +kernel
theorem dX12_settles_209 : decode cX12_settles 209 = .ok (.iinc 4 1, 3) := by decide +kernel
theorem dX12_settles_212 : decode cX12_settles 212 = .ok (.goto (-192), 3) := by decide +kernel
theorem dX12_settles_215 : decode cX12_settles 215 = .ok (.iload_n 3, 1) := by decide +kernel
theorem dX12_settles_216 : decode cX12_settles 216 = .ok (.ireturn, 1) := by decide +kernel
theorem dX12_least_0 : decode cX12_least 0 = .ok (.aload_n 0, 1) := by decide +kernel
theorem dX12_least_1 : decode cX12_least 1 = .ok (.iload_n 1, 1) := by decide +kernel
theorem dX12_least_2 : decode cX12_least 2 = .ok (.iaload, 1) := by decide +kernel
theorem dX12_least_3 : decode cX12_least 3 = .ok (.istore_n 3, 1) := by decide +kernel
theorem dX12_least_4 : decode cX12_least 4 = .ok (.iload_n 1, 1) := by decide +kernel
theorem dX12_least_5 : decode cX12_least 5 = .ok (.istore 4, 2) := by decide +kernel
theorem dX12_least_7 : decode cX12_least 7 = .ok (.iload 4, 2) := by decide +kernel
theorem dX12_least_9 : decode cX12_least 9 = .ok (.iload_n 2, 1) := by decide +kernel
theorem dX12_least_10 : decode cX12_least 10 = .ok (.if_icmp .gt 26, 3) := by decide +kernel
theorem dX12_least_13 : decode cX12_least 13 = .ok (.aload_n 0, 1) := by decide +kernel
theorem dX12_least_14 : decode cX12_least 14 = .ok (.iload 4, 2) := by decide +kernel
theorem dX12_least_16 : decode cX12_least 16 = .ok (.iaload, 1) := by decide +kernel
theorem dX12_least_17 : decode cX12_least 17 = .ok (.iload_n 3, 1) := by decide +kernel
theorem dX12_least_18 : decode cX12_least 18 = .ok (.if_icmp .ge 10, 3) := by decide +kernel
theorem dX12_least_21 : decode cX12_least 21 = .ok (.aload_n 0, 1) := by decide +kernel
theorem dX12_least_22 : decode cX12_least 22 = .ok (.iload 4, 2) := by decide +kernel
theorem dX12_least_24 : decode cX12_least 24 = .ok (.iaload, 1) := by decide +kernel
theorem dX12_least_25 : decode cX12_least 25 = .ok (.goto 4, 3) := by decide +kernel
theorem dX12_least_28 : decode cX12_least 28 = .ok (.iload_n 3, 1) := by decide +kernel
theorem dX12_least_29 : decode cX12_least 29 = .ok (.istore_n 3, 1) := by decide +kernel
theorem dX12_least_30 : decode cX12_least 30 = .ok (.iinc 4 1, 3) := by decide +kernel
theorem dX12_least_33 : decode cX12_least 33 = .ok (.goto (-26), 3) := by decide +kernel
theorem dX12_least_36 : decode cX12_least 36 = .ok (.iload_n 3, 1) := by decide +kernel
theorem dX12_least_37 : decode cX12_least 37 = .ok (.ireturn, 1) := by decide +kernel
theorem dX12_most_0 : decode cX12_most 0 = .ok (.aload_n 0, 1) := by decide +kernel
theorem dX12_most_1 : decode cX12_most 1 = .ok (.iload_n 1, 1) := by decide +kernel
theorem dX12_most_2 : decode cX12_most 2 = .ok (.iaload, 1) := by decide +kernel
theorem dX12_most_3 : decode cX12_most 3 = .ok (.istore_n 3, 1) := by decide +kernel
theorem dX12_most_4 : decode cX12_most 4 = .ok (.iload_n 1, 1) := by decide +kernel
theorem dX12_most_5 : decode cX12_most 5 = .ok (.istore 4, 2) := by decide +kernel
theorem dX12_most_7 : decode cX12_most 7 = .ok (.iload 4, 2) := by decide +kernel
theorem dX12_most_9 : decode cX12_most 9 = .ok (.iload_n 2, 1) := by decide +kernel
theorem dX12_most_10 : decode cX12_most 10 = .ok (.if_icmp .gt 26, 3) := by decide +kernel
theorem dX12_most_13 : decode cX12_most 13 = .ok (.aload_n 0, 1) := by decide +kernel
theorem dX12_most_14 : decode cX12_most 14 = .ok (.iload 4, 2) := by decide +kernel
theorem dX12_most_16 : decode cX12_most 16 = .ok (.iaload, 1) := by decide +kernel
theorem dX12_most_17 : decode cX12_most 17 = .ok (.iload_n 3, 1) := by decide +kernel
theorem dX12_most_18 : decode cX12_most 18 = .ok (.if_icmp .le 10, 3) := by decide +kernel
theorem dX12_most_21 : decode cX12_most 21 = .ok (.aload_n 0, 1) := by decide +kernel
theorem dX12_most_22 : decode cX12_most 22 = .ok (.iload 4, 2) := by decide +kernel
theorem dX12_most_24 : decode cX12_most 24 = .ok (.iaload, 1) := by decide +kernel
theorem dX12_most_25 : decode cX12_most 25 = .ok (.goto 4, 3) := by decide +kernel
theorem dX12_most_28 : decode cX12_most 28 = .ok (.iload_n 3, 1) := by decide +kernel
theorem dX12_most_29 : decode cX12_most 29 = .ok (.istore_n 3, 1) := by decide +kernel
theorem dX12_most_30 : decode cX12_most 30 = .ok (.iinc 4 1, 3) := by decide +kernel
theorem dX12_most_33 : decode cX12_most 33 = .ok (.goto (-26), 3) := by decide +kernel
theorem dX12_most_36 : decode cX12_most 36 = .ok (.iload_n 3, 1) := by decide +kernel
theorem dX12_most_37 : decode cX12_most 37 = .ok (.ireturn, 1) := by decide +kernel
theorem dX12_throughOf_0 : decode cX12_throughOf 0 = .ok (.lconst 0, 1) := by decide +kernel
theorem dX12_throughOf_1 : decode cX12_throughOf 1 = .ok (.lstore 4, 2) := by decide +kernel
theorem dX12_throughOf_3 : decode cX12_throughOf 3 = .ok (.iconst 0, 1) := by decide +kernel
theorem dX12_throughOf_4 : decode cX12_throughOf 4 = .ok (.istore 6, 2) := by decide +kernel
theorem dX12_throughOf_6 : decode cX12_throughOf 6 = .ok (.iload 6, 2) := by decide +kernel
theorem dX12_throughOf_8 : decode cX12_throughOf 8 = .ok (.iload_n 2, 1) := by decide +kernel
theorem dX12_throughOf_9 : decode cX12_throughOf 9 = .ok (.if_icmp .gt 153, 3) := by decide +kernel
theorem dX12_throughOf_12 : decode cX12_throughOf 12 = .ok (.iconst 0, 1) := by decide +kernel
theorem dX12_throughOf_13 : decode cX12_throughOf 13 = .ok (.istore 7, 2) := by decide +kernel
theorem dX12_throughOf_15 : decode cX12_throughOf 15 = .ok (.iload 7, 2) := by decide +kernel
theorem dX12_throughOf_17 : decode cX12_throughOf 17 = .ok (.iconst 5, 1) := by decide +kernel
theorem dX12_throughOf_18 : decode cX12_throughOf 18 = .ok (.if_icmp .ge 138, 3) := by decide +kernel
theorem dX12_throughOf_21 : decode cX12_throughOf 21 = .ok (.aload_n 0, 1) := by decide +kernel
theorem dX12_throughOf_22 : decode cX12_throughOf 22 = .ok (.iload 7, 2) := by decide +kernel
theorem dX12_throughOf_24 : decode cX12_throughOf 24 = .ok (.invokevirtual 202, 3) := by decide +kernel
theorem dX12_throughOf_27 : decode cX12_throughOf 27 = .ok (.ifCond .eq 123, 3) := by decide +kernel
theorem dX12_throughOf_30 : decode cX12_throughOf 30 = .ok (.aload_n 0, 1) := by decide +kernel
theorem dX12_throughOf_31 : decode cX12_throughOf 31 = .ok (.iload_n 1, 1) := by decide +kernel
theorem dX12_throughOf_32 : decode cX12_throughOf 32 = .ok (.iload 6, 2) := by decide +kernel
theorem dX12_throughOf_34 : decode cX12_throughOf 34 = .ok (.aload_n 0, 1) := by decide +kernel
theorem dX12_throughOf_35 : decode cX12_throughOf 35 = .ok (.iload 7, 2) := by decide +kernel
theorem dX12_throughOf_37 : decode cX12_throughOf 37 = .ok (.iconst 0, 1) := by decide +kernel
theorem dX12_throughOf_38 : decode cX12_throughOf 38 = .ok (.invokevirtual 205, 3) := by decide +kernel
theorem dX12_throughOf_41 : decode cX12_throughOf 41 = .ok (.invokevirtual 228, 3) := by decide +kernel
theorem dX12_throughOf_44 : decode cX12_throughOf 44 = .ok (.aload_n 0, 1) := by decide +kernel
theorem dX12_throughOf_45 : decode cX12_throughOf 45 = .ok (.iload 7, 2) := by decide +kernel
theorem dX12_throughOf_47 : decode cX12_throughOf 47 = .ok (.iconst 1, 1) := by decide +kernel
theorem dX12_throughOf_48 : decode cX12_throughOf 48 = .ok (.invokevirtual 205, 3) := by decide +kernel
theorem dX12_throughOf_51 : decode cX12_throughOf 51 = .ok (.idiv, 1) := by decide +kernel
theorem dX12_throughOf_52 : decode cX12_throughOf 52 = .ok (.istore 8, 2) := by decide +kernel
theorem dX12_throughOf_54 : decode cX12_throughOf 54 = .ok (.sipush 1000, 3) := by decide +kernel
theorem dX12_throughOf_57 : decode cX12_throughOf 57 = .ok (.iconst 2, 1) := by decide +kernel
theorem dX12_throughOf_58 : decode cX12_throughOf 58 = .ok (.iload 7, 2) := by decide +kernel
theorem dX12_throughOf_60 : decode cX12_throughOf 60 = .ok (.iadd, 1) := by decide +kernel
theorem dX12_throughOf_61 : decode cX12_throughOf 61 = .ok (.imul, 1) := by decide +kernel
theorem dX12_throughOf_62 : decode cX12_throughOf 62 = .ok (.aload_n 0, 1) := by decide +kernel
theorem dX12_throughOf_63 : decode cX12_throughOf 63 = .ok (.getfield 56, 3) := by decide +kernel
theorem dX12_throughOf_66 : decode cX12_throughOf 66 = .ok (.iload 6, 2) := by decide +kernel
theorem dX12_throughOf_68 : decode cX12_throughOf 68 = .ok (.iaload, 1) := by decide +kernel
theorem dX12_throughOf_69 : decode cX12_throughOf 69 = .ok (.iadd, 1) := by decide +kernel
theorem dX12_throughOf_70 : decode cX12_throughOf 70 = .ok (.istore 9, 2) := by decide +kernel
theorem dX12_throughOf_72 : decode cX12_throughOf 72 = .ok (.sipush 1000, 3) := by decide +kernel
theorem dX12_throughOf_75 : decode cX12_throughOf 75 = .ok (.iconst 2, 1) := by decide +kernel
theorem dX12_throughOf_76 : decode cX12_throughOf 76 = .ok (.iload 7, 2) := by decide +kernel
theorem dX12_throughOf_78 : decode cX12_throughOf 78 = .ok (.iadd, 1) := by decide +kernel
theorem dX12_throughOf_79 : decode cX12_throughOf 79 = .ok (.imul, 1) := by decide +kernel
theorem dX12_throughOf_80 : decode cX12_throughOf 80 = .ok (.aload_n 0, 1) := by decide +kernel
theorem dX12_throughOf_81 : decode cX12_throughOf 81 = .ok (.getfield 59, 3) := by decide +kernel
theorem dX12_throughOf_84 : decode cX12_throughOf 84 = .ok (.iload 6, 2) := by decide +kernel
theorem dX12_throughOf_86 : decode cX12_throughOf 86 = .ok (.iaload, 1) := by decide +kernel
theorem dX12_throughOf_87 : decode cX12_throughOf 87 = .ok (.iadd, 1) := by decide +kernel
theorem dX12_throughOf_88 : decode cX12_throughOf 88 = .ok (.istore 10, 2) := by decide +kernel
theorem dX12_throughOf_90 : decode cX12_throughOf 90 = .ok (.iload_n 3, 1) := by decide +kernel
theorem dX12_throughOf_91 : decode cX12_throughOf 91 = .ok (.ifCond .eq 17, 3) := by decide +kernel
theorem dX12_throughOf_94 : decode cX12_throughOf 94 = .ok (.aload_n 0, 1) := by decide +kernel
theorem dX12_throughOf_95 : decode cX12_throughOf 95 = .ok (.getfield 50, 3) := by decide +kernel
theorem dX12_throughOf_98 : decode cX12_throughOf 98 = .ok (.iload 9, 2) := by decide +kernel
theorem dX12_throughOf_100 : decode cX12_throughOf 100 = .ok (.iload 10, 2) := by decide +kernel
theorem dX12_throughOf_102 : decode cX12_throughOf 102 = .ok (.invokestatic 243, 3) := by decide +kernel
theorem dX12_throughOf_105 : decode cX12_throughOf 105 = .ok (.goto 14, 3) := by decide +kernel
theorem dX12_throughOf_108 : decode cX12_throughOf 108 = .ok (.aload_n 0, 1) := by decide +kernel
theorem dX12_throughOf_109 : decode cX12_throughOf 109 = .ok (.getfield 47, 3) := by decide +kernel
theorem dX12_throughOf_112 : decode cX12_throughOf 112 = .ok (.iload 9, 2) := by decide +kernel
theorem dX12_throughOf_114 : decode cX12_throughOf 114 = .ok (.iload 10, 2) := by decide +kernel
theorem dX12_throughOf_116 : decode cX12_throughOf 116 = .ok (.invokestatic 247, 3) := by decide +kernel
theorem dX12_throughOf_119 : decode cX12_throughOf 119 = .ok (.istore 11, 2) := by decide +kernel
theorem dX12_throughOf_121 : decode cX12_throughOf 121 = .ok (.lload 4, 2) := by decide +kernel
theorem dX12_throughOf_123 : decode cX12_throughOf 123 = .ok (.iload 8, 2) := by decide +kernel
theorem dX12_throughOf_125 : decode cX12_throughOf 125 = .ok (.iload 11, 2) := by decide +kernel
theorem dX12_throughOf_127 : decode cX12_throughOf 127 = .ok (.if_icmp .ge 8, 3) := by decide +kernel
theorem dX12_throughOf_130 : decode cX12_throughOf 130 = .ok (.iload 8, 2) := by decide +kernel
theorem dX12_throughOf_132 : decode cX12_throughOf 132 = .ok (.goto 5, 3) := by decide +kernel
theorem dX12_throughOf_135 : decode cX12_throughOf 135 = .ok (.iload 11, 2) := by decide +kernel
theorem dX12_throughOf_137 : decode cX12_throughOf 137 = .ok (.i2l, 1) := by decide +kernel
theorem dX12_throughOf_138 : decode cX12_throughOf 138 = .ok (.aload_n 0, 1) := by decide +kernel
theorem dX12_throughOf_139 : decode cX12_throughOf 139 = .ok (.iload 7, 2) := by decide +kernel
theorem dX12_throughOf_141 : decode cX12_throughOf 141 = .ok (.iconst 4, 1) := by decide +kernel
theorem dX12_throughOf_142 : decode cX12_throughOf 142 = .ok (.invokevirtual 205, 3) := by decide +kernel
theorem dX12_throughOf_145 : decode cX12_throughOf 145 = .ok (.i2l, 1) := by decide +kernel
theorem dX12_throughOf_146 : decode cX12_throughOf 146 = .ok (.lmul, 1) := by decide +kernel
theorem dX12_throughOf_147 : decode cX12_throughOf 147 = .ok (.ladd, 1) := by decide +kernel
theorem dX12_throughOf_148 : decode cX12_throughOf 148 = .ok (.lstore 4, 2) := by decide +kernel
theorem dX12_throughOf_150 : decode cX12_throughOf 150 = .ok (.iinc 7 1, 3) := by decide +kernel
theorem dX12_throughOf_153 : decode cX12_throughOf 153 = .ok (.goto (-138), 3) := by decide +kernel
theorem dX12_throughOf_156 : decode cX12_throughOf 156 = .ok (.iinc 6 1, 3) := by decide +kernel
theorem dX12_throughOf_159 : decode cX12_throughOf 159 = .ok (.goto (-153), 3) := by decide +kernel
theorem dX12_throughOf_162 : decode cX12_throughOf 162 = .ok (.lload 4, 2) := by decide +kernel
theorem dX12_throughOf_164 : decode cX12_throughOf 164 = .ok (.lreturn, 1) := by decide +kernel
theorem dX12_churns_0 : decode cX12_churns 0 = .ok (.sipush 1000, 3) := by decide +kernel
theorem dX12_churns_3 : decode cX12_churns 3 = .ok (.aload_n 0, 1) := by decide +kernel
theorem dX12_churns_4 : decode cX12_churns 4 = .ok (.getfield 56, 3) := by decide +kernel
theorem dX12_churns_7 : decode cX12_churns 7 = .ok (.iload_n 2, 1) := by decide +kernel
theorem dX12_churns_8 : decode cX12_churns 8 = .ok (.iaload, 1) := by decide +kernel
theorem dX12_churns_9 : decode cX12_churns 9 = .ok (.iadd, 1) := by decide +kernel
theorem dX12_churns_10 : decode cX12_churns 10 = .ok (.istore_n 3, 1) := by decide +kernel
theorem dX12_churns_11 : decode cX12_churns 11 = .ok (.sipush 1000, 3) := by decide +kernel
theorem dX12_churns_14 : decode cX12_churns 14 = .ok (.aload_n 0, 1) := by decide +kernel
theorem dX12_churns_15 : decode cX12_churns 15 = .ok (.getfield 59, 3) := by decide +kernel
theorem dX12_churns_18 : decode cX12_churns 18 = .ok (.iload_n 2, 1) := by decide +kernel
theorem dX12_churns_19 : decode cX12_churns 19 = .ok (.iaload, 1) := by decide +kernel
theorem dX12_churns_20 : decode cX12_churns 20 = .ok (.iadd, 1) := by decide +kernel
theorem dX12_churns_21 : decode cX12_churns 21 = .ok (.istore 4, 2) := by decide +kernel
theorem dX12_churns_23 : decode cX12_churns 23 = .ok (.aload_n 0, 1) := by decide +kernel
theorem dX12_churns_24 : decode cX12_churns 24 = .ok (.iload_n 1, 1) := by decide +kernel
theorem dX12_churns_25 : decode cX12_churns 25 = .ok (.iload_n 2, 1) := by decide +kernel
theorem dX12_churns_26 : decode cX12_churns 26 = .ok (.iconst 1, 1) := by decide +kernel
theorem dX12_churns_27 : decode cX12_churns 27 = .ok (.invokevirtual 250, 3) := by decide +kernel
theorem dX12_churns_30 : decode cX12_churns 30 = .ok (.aload_n 0, 1) := by decide +kernel
theorem dX12_churns_31 : decode cX12_churns 31 = .ok (.getfield 50, 3) := by decide +kernel
theorem dX12_churns_34 : decode cX12_churns 34 = .ok (.iload_n 3, 1) := by decide +kernel
theorem dX12_churns_35 : decode cX12_churns 35 = .ok (.iload 4, 2) := by decide +kernel
theorem dX12_churns_37 : decode cX12_churns 37 = .ok (.invokestatic 243, 3) := by decide +kernel
theorem dX12_churns_40 : decode cX12_churns 40 = .ok (.i2l, 1) := by decide +kernel
theorem dX12_churns_41 : decode cX12_churns 41 = .ok (.lmul, 1) := by decide +kernel
theorem dX12_churns_42 : decode cX12_churns 42 = .ok (.ldc2_w 254, 3) := by decide +kernel
theorem dX12_churns_45 : decode cX12_churns 45 = .ok (.ldiv, 1) := by decide +kernel
theorem dX12_churns_46 : decode cX12_churns 46 = .ok (.lstore 5, 2) := by decide +kernel
theorem dX12_churns_48 : decode cX12_churns 48 = .ok (.aload_n 0, 1) := by decide +kernel
theorem dX12_churns_49 : decode cX12_churns 49 = .ok (.iload_n 1, 1) := by decide +kernel
theorem dX12_churns_50 : decode cX12_churns 50 = .ok (.iload_n 2, 1) := by decide +kernel
theorem dX12_churns_51 : decode cX12_churns 51 = .ok (.iconst 0, 1) := by decide +kernel
theorem dX12_churns_52 : decode cX12_churns 52 = .ok (.invokevirtual 250, 3) := by decide +kernel
theorem dX12_churns_55 : decode cX12_churns 55 = .ok (.aload_n 0, 1) := by decide +kernel
theorem dX12_churns_56 : decode cX12_churns 56 = .ok (.getfield 47, 3) := by decide +kernel
theorem dX12_churns_59 : decode cX12_churns 59 = .ok (.iload_n 3, 1) := by decide +kernel
theorem dX12_churns_60 : decode cX12_churns 60 = .ok (.iload 4, 2) := by decide +kernel
theorem dX12_churns_62 : decode cX12_churns 62 = .ok (.invokestatic 247, 3) := by decide +kernel
theorem dX12_churns_65 : decode cX12_churns 65 = .ok (.i2l, 1) := by decide +kernel
theorem dX12_churns_66 : decode cX12_churns 66 = .ok (.lmul, 1) := by decide +kernel
theorem dX12_churns_67 : decode cX12_churns 67 = .ok (.ldc2_w 254, 3) := by decide +kernel
theorem dX12_churns_70 : decode cX12_churns 70 = .ok (.ldiv, 1) := by decide +kernel
theorem dX12_churns_71 : decode cX12_churns 71 = .ok (.lstore 7, 2) := by decide +kernel
theorem dX12_churns_73 : decode cX12_churns 73 = .ok (.lload 5, 2) := by decide +kernel
theorem dX12_churns_75 : decode cX12_churns 75 = .ok (.aload_n 0, 1) := by decide +kernel
theorem dX12_churns_76 : decode cX12_churns 76 = .ok (.getfield 7, 3) := by decide +kernel
theorem dX12_churns_79 : decode cX12_churns 79 = .ok (.bipush 10, 2) := by decide +kernel
theorem dX12_churns_81 : decode cX12_churns 81 = .ok (.iload_n 1, 1) := by decide +kernel
theorem dX12_churns_82 : decode cX12_churns 82 = .ok (.iadd, 1) := by decide +kernel
theorem dX12_churns_83 : decode cX12_churns 83 = .ok (.iaload, 1) := by decide +kernel
theorem dX12_churns_84 : decode cX12_churns 84 = .ok (.i2l, 1) := by decide +kernel
theorem dX12_churns_85 : decode cX12_churns 85 = .ok (.lcmp, 1) := by decide +kernel
theorem dX12_churns_86 : decode cX12_churns 86 = .ok (.ifCond .gt 7, 3) := by decide +kernel
theorem dX12_churns_89 : decode cX12_churns 89 = .ok (.iconst 0, 1) := by decide +kernel
theorem dX12_churns_90 : decode cX12_churns 90 = .ok (.goto 24, 3) := by decide +kernel
theorem dX12_churns_93 : decode cX12_churns 93 = .ok (.lload 7, 2) := by decide +kernel
theorem dX12_churns_95 : decode cX12_churns 95 = .ok (.aload_n 0, 1) := by decide +kernel
theorem dX12_churns_96 : decode cX12_churns 96 = .ok (.getfield 7, 3) := by decide +kernel
theorem dX12_churns_99 : decode cX12_churns 99 = .ok (.bipush 10, 2) := by decide +kernel
theorem dX12_churns_101 : decode cX12_churns 101 = .ok (.iload_n 1, 1) := by decide +kernel
theorem dX12_churns_102 : decode cX12_churns 102 = .ok (.iadd, 1) := by decide +kernel
theorem dX12_churns_103 : decode cX12_churns 103 = .ok (.iaload, 1) := by decide +kernel
theorem dX12_churns_104 : decode cX12_churns 104 = .ok (.i2l, 1) := by decide +kernel
theorem dX12_churns_105 : decode cX12_churns 105 = .ok (.lcmp, 1) := by decide +kernel
theorem dX12_churns_106 : decode cX12_churns 106 = .ok (.ifCond .le 7, 3) := by decide +kernel
theorem dX12_churns_109 : decode cX12_churns 109 = .ok (.iconst 1, 1) := by decide +kernel
theorem dX12_churns_110 : decode cX12_churns 110 = .ok (.goto 4, 3) := by decide +kernel
theorem dX12_churns_113 : decode cX12_churns 113 = .ok (.iconst 2, 1) := by decide +kernel
theorem dX12_churns_114 : decode cX12_churns 114 = .ok (.ireturn, 1) := by decide +kernel
theorem dX12_of_0 : decode cX12_of 0 = .ok (.aload_n 0, 1) := by decide +kernel
theorem dX12_of_1 : decode cX12_of 1 = .ok (.iload_n 1, 1) := by decide +kernel
theorem dX12_of_2 : decode cX12_of 2 = .ok (.iload_n 2, 1) := by decide +kernel
theorem dX12_of_3 : decode cX12_of 3 = .ok (.invokevirtual 218, 3) := by decide +kernel
theorem dX12_of_6 : decode cX12_of 6 = .ok (.ifCond .eq 15, 3) := by decide +kernel
theorem dX12_of_9 : decode cX12_of 9 = .ok (.iload_n 3, 1) := by decide +kernel
theorem dX12_of_10 : decode cX12_of 10 = .ok (.i2l, 1) := by decide +kernel
theorem dX12_of_11 : decode cX12_of 11 = .ok (.lconst 0, 1) := by decide +kernel
theorem dX12_of_12 : decode cX12_of 12 = .ok (.ldc2_w 197, 3) := by decide +kernel
theorem dX12_of_15 : decode cX12_of 15 = .ok (.invokestatic 78, 3) := by decide +kernel
theorem dX12_of_18 : decode cX12_of 18 = .ok (.ifCond .ne 5, 3) := by decide +kernel
theorem dX12_of_21 : decode cX12_of 21 = .ok (.iconst (-1), 1) := by decide +kernel
theorem dX12_of_22 : decode cX12_of 22 = .ok (.ireturn, 1) := by decide +kernel
theorem dX12_of_23 : decode cX12_of 23 = .ok (.iload_n 3, 1) := by decide +kernel
theorem dX12_of_24 : decode cX12_of 24 = .ok (.ifCond .ne 10, 3) := by decide +kernel
theorem dX12_of_27 : decode cX12_of 27 = .ok (.aload_n 0, 1) := by decide +kernel
theorem dX12_of_28 : decode cX12_of 28 = .ok (.iload_n 1, 1) := by decide +kernel
theorem dX12_of_29 : decode cX12_of 29 = .ok (.iload_n 2, 1) := by decide +kernel
theorem dX12_of_30 : decode cX12_of 30 = .ok (.invokevirtual 234, 3) := by decide +kernel
theorem dX12_of_33 : decode cX12_of 33 = .ok (.ireturn, 1) := by decide +kernel
theorem dX12_of_34 : decode cX12_of 34 = .ok (.aload_n 0, 1) := by decide +kernel
theorem dX12_of_35 : decode cX12_of 35 = .ok (.invokevirtual 256, 3) := by decide +kernel
theorem dX12_of_38 : decode cX12_of 38 = .ok (.aload_n 0, 1) := by decide +kernel
theorem dX12_of_39 : decode cX12_of 39 = .ok (.iload_n 1, 1) := by decide +kernel
theorem dX12_of_40 : decode cX12_of 40 = .ok (.aload_n 0, 1) := by decide +kernel
theorem dX12_of_41 : decode cX12_of 41 = .ok (.getfield 7, 3) := by decide +kernel
theorem dX12_of_44 : decode cX12_of 44 = .ok (.bipush 8, 2) := by decide +kernel
theorem dX12_of_46 : decode cX12_of 46 = .ok (.iload_n 1, 1) := by decide +kernel
theorem dX12_of_47 : decode cX12_of 47 = .ok (.iadd, 1) := by decide +kernel
theorem dX12_of_48 : decode cX12_of 48 = .ok (.iaload, 1) := by decide +kernel
theorem dX12_of_49 : decode cX12_of 49 = .ok (.invokevirtual 259, 3) := by decide +kernel
theorem dX12_of_52 : decode cX12_of 52 = .ok (.istore 4, 2) := by decide +kernel
theorem dX12_of_54 : decode cX12_of 54 = .ok (.iload_n 3, 1) := by decide +kernel
theorem dX12_of_55 : decode cX12_of 55 = .ok (.tableswitch 83 1 4 #[29, 36, 43, 63], 29) := by decide +kernel
theorem dX12_of_84 : decode cX12_of 84 = .ok (.aload_n 0, 1) := by decide +kernel
theorem dX12_of_85 : decode cX12_of 85 = .ok (.getfield 62, 3) := by decide +kernel
theorem dX12_of_88 : decode cX12_of 88 = .ok (.iload_n 2, 1) := by decide +kernel
theorem dX12_of_89 : decode cX12_of 89 = .ok (.iaload, 1) := by decide +kernel
theorem dX12_of_90 : decode cX12_of 90 = .ok (.ireturn, 1) := by decide +kernel
theorem dX12_of_91 : decode cX12_of 91 = .ok (.aload_n 0, 1) := by decide +kernel
theorem dX12_of_92 : decode cX12_of 92 = .ok (.getfield 53, 3) := by decide +kernel
theorem dX12_of_95 : decode cX12_of 95 = .ok (.iload_n 2, 1) := by decide +kernel
theorem dX12_of_96 : decode cX12_of 96 = .ok (.iaload, 1) := by decide +kernel
theorem dX12_of_97 : decode cX12_of 97 = .ok (.ireturn, 1) := by decide +kernel
theorem dX12_of_98 : decode cX12_of 98 = .ok (.aload_n 0, 1) := by decide +kernel
theorem dX12_of_99 : decode cX12_of 99 = .ok (.getfield 53, 3) := by decide +kernel
theorem dX12_of_102 : decode cX12_of 102 = .ok (.iload_n 2, 1) := by decide +kernel
theorem dX12_of_103 : decode cX12_of 103 = .ok (.iaload, 1) := by decide +kernel
theorem dX12_of_104 : decode cX12_of 104 = .ok (.ifCond .ne 7, 3) := by decide +kernel
theorem dX12_of_107 : decode cX12_of 107 = .ok (.iconst (-1), 1) := by decide +kernel
theorem dX12_of_108 : decode cX12_of 108 = .ok (.goto 9, 3) := by decide +kernel
theorem dX12_of_111 : decode cX12_of 111 = .ok (.aload_n 0, 1) := by decide +kernel
theorem dX12_of_112 : decode cX12_of 112 = .ok (.getfield 56, 3) := by decide +kernel
theorem dX12_of_115 : decode cX12_of 115 = .ok (.iload_n 2, 1) := by decide +kernel
theorem dX12_of_116 : decode cX12_of 116 = .ok (.iaload, 1) := by decide +kernel
theorem dX12_of_117 : decode cX12_of 117 = .ok (.ireturn, 1) := by decide +kernel
theorem dX12_of_118 : decode cX12_of 118 = .ok (.aload_n 0, 1) := by decide +kernel
theorem dX12_of_119 : decode cX12_of 119 = .ok (.getfield 53, 3) := by decide +kernel
theorem dX12_of_122 : decode cX12_of 122 = .ok (.iload_n 2, 1) := by decide +kernel
theorem dX12_of_123 : decode cX12_of 123 = .ok (.iaload, 1) := by decide +kernel
theorem dX12_of_124 : decode cX12_of 124 = .ok (.ifCond .ne 7, 3) := by decide +kernel
theorem dX12_of_127 : decode cX12_of 127 = .ok (.iconst (-1), 1) := by decide +kernel
theorem dX12_of_128 : decode cX12_of 128 = .ok (.goto 9, 3) := by decide +kernel
theorem dX12_of_131 : decode cX12_of 131 = .ok (.aload_n 0, 1) := by decide +kernel
theorem dX12_of_132 : decode cX12_of 132 = .ok (.getfield 59, 3) := by decide +kernel
theorem dX12_of_135 : decode cX12_of 135 = .ok (.iload_n 2, 1) := by decide +kernel
theorem dX12_of_136 : decode cX12_of 136 = .ok (.iaload, 1) := by decide +kernel
theorem dX12_of_137 : decode cX12_of 137 = .ok (.ireturn, 1) := by decide +kernel
theorem dX12_of_138 : decode cX12_of 138 = .ok (.aload_n 0, 1) := by decide +kernel
theorem dX12_of_139 : decode cX12_of 139 = .ok (.iload_n 1, 1) := by decide +kernel
theorem dX12_of_140 : decode cX12_of 140 = .ok (.iload_n 2, 1) := by decide +kernel
theorem dX12_of_141 : decode cX12_of 141 = .ok (.invokevirtual 262, 3) := by decide +kernel
theorem dX12_of_144 : decode cX12_of 144 = .ok (.ireturn, 1) := by decide +kernel
theorem dX12_box_0 : decode cX12_box 0 = .ok (.aload_n 0, 1) := by decide +kernel
theorem dX12_box_1 : decode cX12_box 1 = .ok (.iload_n 1, 1) := by decide +kernel
theorem dX12_box_2 : decode cX12_box 2 = .ok (.iload_n 2, 1) := by decide +kernel
theorem dX12_box_3 : decode cX12_box 3 = .ok (.invokevirtual 218, 3) := by decide +kernel
theorem dX12_box_6 : decode cX12_box 6 = .ok (.ifCond .eq 7, 3) := by decide +kernel
theorem dX12_box_9 : decode cX12_box 9 = .ok (.iload_n 3, 1) := by decide +kernel
theorem dX12_box_10 : decode cX12_box 10 = .ok (.ifCond .ge 5, 3) := by decide +kernel
theorem dX12_box_13 : decode cX12_box 13 = .ok (.iconst (-1), 1) := by decide +kernel
theorem dX12_box_14 : decode cX12_box 14 = .ok (.ireturn, 1) := by decide +kernel
theorem dX12_box_15 : decode cX12_box 15 = .ok (.aload_n 0, 1) := by decide +kernel
theorem dX12_box_16 : decode cX12_box 16 = .ok (.invokevirtual 256, 3) := by decide +kernel
theorem dX12_box_19 : decode cX12_box 19 = .ok (.aload_n 0, 1) := by decide +kernel
theorem dX12_box_20 : decode cX12_box 20 = .ok (.iload_n 1, 1) := by decide +kernel
theorem dX12_box_21 : decode cX12_box 21 = .ok (.aload_n 0, 1) := by decide +kernel
theorem dX12_box_22 : decode cX12_box 22 = .ok (.getfield 7, 3) := by decide +kernel
theorem dX12_box_25 : decode cX12_box 25 = .ok (.bipush 8, 2) := by decide +kernel
theorem dX12_box_27 : decode cX12_box 27 = .ok (.iload_n 1, 1) := by decide +kernel
theorem dX12_box_28 : decode cX12_box 28 = .ok (.iadd, 1) := by decide +kernel
theorem dX12_box_29 : decode cX12_box 29 = .ok (.iaload, 1) := by decide +kernel
theorem dX12_box_30 : decode cX12_box 30 = .ok (.invokevirtual 259, 3) := by decide +kernel
theorem dX12_box_33 : decode cX12_box 33 = .ok (.istore 5, 2) := by decide +kernel
theorem dX12_box_35 : decode cX12_box 35 = .ok (.iconst (-1), 1) := by decide +kernel
theorem dX12_box_36 : decode cX12_box 36 = .ok (.istore 6, 2) := by decide +kernel
theorem dX12_box_38 : decode cX12_box 38 = .ok (.iconst (-1), 1) := by decide +kernel
theorem dX12_box_39 : decode cX12_box 39 = .ok (.istore 7, 2) := by decide +kernel
theorem dX12_box_41 : decode cX12_box 41 = .ok (.iconst 0, 1) := by decide +kernel
theorem dX12_box_42 : decode cX12_box 42 = .ok (.istore 8, 2) := by decide +kernel
theorem dX12_box_44 : decode cX12_box 44 = .ok (.iload 8, 2) := by decide +kernel
theorem dX12_box_46 : decode cX12_box 46 = .ok (.sipush 1000, 3) := by decide +kernel
theorem dX12_box_49 : decode cX12_box 49 = .ok (.if_icmp .ge 71, 3) := by decide +kernel
theorem dX12_box_52 : decode cX12_box 52 = .ok (.aload_n 0, 1) := by decide +kernel
theorem dX12_box_53 : decode cX12_box 53 = .ok (.iload_n 2, 1) := by decide +kernel
theorem dX12_box_54 : decode cX12_box 54 = .ok (.iload 8, 2) := by decide +kernel
theorem dX12_box_56 : decode cX12_box 56 = .ok (.invokevirtual 240, 3) := by decide +kernel
theorem dX12_box_59 : decode cX12_box 59 = .ok (.ifCond .eq 55, 3) := by decide +kernel
theorem dX12_box_62 : decode cX12_box 62 = .ok (.iload 6, 2) := by decide +kernel
theorem dX12_box_64 : decode cX12_box 64 = .ok (.iload 8, 2) := by decide +kernel
theorem dX12_box_66 : decode cX12_box 66 = .ok (.ifCond .eq 15, 3) := by decide +kernel
theorem dX12_box_69 : decode cX12_box 69 = .ok (.aload_n 0, 1) := by decide +kernel
theorem dX12_box_70 : decode cX12_box 70 = .ok (.iload_n 2, 1) := by decide +kernel
theorem dX12_box_71 : decode cX12_box 71 = .ok (.iload 8, 2) := by decide +kernel
theorem dX12_box_73 : decode cX12_box 73 = .ok (.iconst 1, 1) := by decide +kernel
theorem dX12_box_74 : decode cX12_box 74 = .ok (.isub, 1) := by decide +kernel
theorem dX12_box_75 : decode cX12_box 75 = .ok (.invokevirtual 240, 3) := by decide +kernel
theorem dX12_box_78 : decode cX12_box 78 = .ok (.ifCond .ne 7, 3) := by decide +kernel
theorem dX12_box_81 : decode cX12_box 81 = .ok (.iconst 1, 1) := by decide +kernel
theorem dX12_box_82 : decode cX12_box 82 = .ok (.goto 4, 3) := by decide +kernel
theorem dX12_box_85 : decode cX12_box 85 = .ok (.iconst 0, 1) := by decide +kernel
theorem dX12_box_86 : decode cX12_box 86 = .ok (.iadd, 1) := by decide +kernel
theorem dX12_box_87 : decode cX12_box 87 = .ok (.istore 6, 2) := by decide +kernel
theorem dX12_box_89 : decode cX12_box 89 = .ok (.iload 6, 2) := by decide +kernel
theorem dX12_box_91 : decode cX12_box 91 = .ok (.iload_n 3, 1) := by decide +kernel
theorem dX12_box_92 : decode cX12_box 92 = .ok (.if_icmp .ne 18, 3) := by decide +kernel
theorem dX12_box_95 : decode cX12_box 95 = .ok (.iload 4, 2) := by decide +kernel
theorem dX12_box_97 : decode cX12_box 97 = .ok (.ifCond .ne 8, 3) := by decide +kernel
theorem dX12_box_100 : decode cX12_box 100 = .ok (.iload 7, 2) := by decide +kernel
theorem dX12_box_102 : decode cX12_box 102 = .ok (.ifCond .ge 8, 3) := by decide +kernel
theorem dX12_box_105 : decode cX12_box 105 = .ok (.iload 8, 2) := by decide +kernel
theorem dX12_box_107 : decode cX12_box 107 = .ok (.goto 5, 3) := by decide +kernel
theorem dX12_box_110 : decode cX12_box 110 = .ok (.iload 7, 2) := by decide +kernel
theorem dX12_box_112 : decode cX12_box 112 = .ok (.istore 7, 2) := by decide +kernel
theorem dX12_box_114 : decode cX12_box 114 = .ok (.iinc 8 1, 3) := by decide +kernel
theorem dX12_box_117 : decode cX12_box 117 = .ok (.goto (-73), 3) := by decide +kernel
theorem dX12_box_120 : decode cX12_box 120 = .ok (.iload 7, 2) := by decide +kernel
theorem dX12_box_122 : decode cX12_box 122 = .ok (.ireturn, 1) := by decide +kernel
theorem dX12_through_0 : decode cX12_through 0 = .ok (.aload_n 0, 1) := by decide +kernel
theorem dX12_through_1 : decode cX12_through 1 = .ok (.iload_n 1, 1) := by decide +kernel
theorem dX12_through_2 : decode cX12_through 2 = .ok (.iload_n 2, 1) := by decide +kernel
theorem dX12_through_3 : decode cX12_through 3 = .ok (.invokevirtual 218, 3) := by decide +kernel
theorem dX12_through_6 : decode cX12_through 6 = .ok (.ifCond .ne 7, 3) := by decide +kernel
theorem dX12_through_9 : decode cX12_through 9 = .ok (.ldc2_w 265, 3) := by decide +kernel
theorem dX12_through_12 : decode cX12_through 12 = .ok (.lreturn, 1) := by decide +kernel
theorem dX12_through_13 : decode cX12_through 13 = .ok (.aload_n 0, 1) := by decide +kernel
theorem dX12_through_14 : decode cX12_through 14 = .ok (.invokevirtual 256, 3) := by decide +kernel
theorem dX12_through_17 : decode cX12_through 17 = .ok (.aload_n 0, 1) := by decide +kernel
theorem dX12_through_18 : decode cX12_through 18 = .ok (.iload_n 1, 1) := by decide +kernel
theorem dX12_through_19 : decode cX12_through 19 = .ok (.aload_n 0, 1) := by decide +kernel
theorem dX12_through_20 : decode cX12_through 20 = .ok (.getfield 7, 3) := by decide +kernel
theorem dX12_through_23 : decode cX12_through 23 = .ok (.bipush 8, 2) := by decide +kernel
theorem dX12_through_25 : decode cX12_through 25 = .ok (.iload_n 1, 1) := by decide +kernel
theorem dX12_through_26 : decode cX12_through 26 = .ok (.iadd, 1) := by decide +kernel
theorem dX12_through_27 : decode cX12_through 27 = .ok (.iaload, 1) := by decide +kernel
theorem dX12_through_28 : decode cX12_through 28 = .ok (.invokevirtual 259, 3) := by decide +kernel
theorem dX12_through_31 : decode cX12_through 31 = .ok (.istore 4, 2) := by decide +kernel
theorem dX12_through_33 : decode cX12_through 33 = .ok (.aload_n 0, 1) := by decide +kernel
theorem dX12_through_34 : decode cX12_through 34 = .ok (.iload_n 1, 1) := by decide +kernel
theorem dX12_through_35 : decode cX12_through 35 = .ok (.iload_n 2, 1) := by decide +kernel
theorem dX12_through_36 : decode cX12_through 36 = .ok (.iload_n 3, 1) := by decide +kernel
theorem dX12_through_37 : decode cX12_through 37 = .ok (.invokevirtual 250, 3) := by decide +kernel
theorem dX12_through_40 : decode cX12_through 40 = .ok (.lreturn, 1) := by decide +kernel
theorem dX12_settled_0 : decode cX12_settled 0 = .ok (.iload_n 1, 1) := by decide +kernel
theorem dX12_settled_1 : decode cX12_settled 1 = .ok (.invokestatic 82, 3) := by decide +kernel
theorem dX12_settled_4 : decode cX12_settled 4 = .ok (.ifCond .ne 5, 3) := by decide +kernel
theorem dX12_settled_7 : decode cX12_settled 7 = .ok (.iconst (-1), 1) := by decide +kernel
theorem dX12_settled_8 : decode cX12_settled 8 = .ok (.ireturn, 1) := by decide +kernel
theorem dX12_settled_9 : decode cX12_settled 9 = .ok (.aload_n 0, 1) := by decide +kernel
theorem dX12_settled_10 : decode cX12_settled 10 = .ok (.invokevirtual 256, 3) := by decide +kernel
theorem dX12_settled_13 : decode cX12_settled 13 = .ok (.aload_n 0, 1) := by decide +kernel
theorem dX12_settled_14 : decode cX12_settled 14 = .ok (.iload_n 1, 1) := by decide +kernel
theorem dX12_settled_15 : decode cX12_settled 15 = .ok (.aload_n 0, 1) := by decide +kernel
theorem dX12_settled_16 : decode cX12_settled 16 = .ok (.getfield 7, 3) := by decide +kernel
theorem dX12_settled_19 : decode cX12_settled 19 = .ok (.bipush 8, 2) := by decide +kernel
theorem dX12_settled_21 : decode cX12_settled 21 = .ok (.iload_n 1, 1) := by decide +kernel
theorem dX12_settled_22 : decode cX12_settled 22 = .ok (.iadd, 1) := by decide +kernel
theorem dX12_settled_23 : decode cX12_settled 23 = .ok (.iaload, 1) := by decide +kernel
theorem dX12_settled_24 : decode cX12_settled 24 = .ok (.invokevirtual 259, 3) := by decide +kernel
theorem dX12_settled_27 : decode cX12_settled 27 = .ok (.ifCond .ne 5, 3) := by decide +kernel
theorem dX12_settled_30 : decode cX12_settled 30 = .ok (.iconst 0, 1) := by decide +kernel
theorem dX12_settled_31 : decode cX12_settled 31 = .ok (.ireturn, 1) := by decide +kernel
theorem dX12_settled_32 : decode cX12_settled 32 = .ok (.iconst 1, 1) := by decide +kernel
theorem dX12_settled_33 : decode cX12_settled 33 = .ok (.istore_n 2, 1) := by decide +kernel
theorem dX12_settled_34 : decode cX12_settled 34 = .ok (.iconst 0, 1) := by decide +kernel
theorem dX12_settled_35 : decode cX12_settled 35 = .ok (.istore_n 3, 1) := by decide +kernel
theorem dX12_settled_36 : decode cX12_settled 36 = .ok (.iload_n 3, 1) := by decide +kernel
theorem dX12_settled_37 : decode cX12_settled 37 = .ok (.aload_n 0, 1) := by decide +kernel
theorem dX12_settled_38 : decode cX12_settled 38 = .ok (.getfield 7, 3) := by decide +kernel
theorem dX12_settled_41 : decode cX12_settled 41 = .ok (.iconst 2, 1) := by decide +kernel
theorem dX12_settled_42 : decode cX12_settled 42 = .ok (.iload_n 1, 1) := by decide +kernel
theorem dX12_settled_43 : decode cX12_settled 43 = .ok (.iadd, 1) := by decide +kernel
theorem dX12_settled_44 : decode cX12_settled 44 = .ok (.iaload, 1) := by decide +kernel
theorem dX12_settled_45 : decode cX12_settled 45 = .ok (.if_icmp .ge 29, 3) := by decide +kernel
theorem dX12_settled_48 : decode cX12_settled 48 = .ok (.iload_n 2, 1) := by decide +kernel
theorem dX12_settled_49 : decode cX12_settled 49 = .ok (.ifCond .eq 17, 3) := by decide +kernel
theorem dX12_settled_52 : decode cX12_settled 52 = .ok (.aload_n 0, 1) := by decide +kernel
theorem dX12_settled_53 : decode cX12_settled 53 = .ok (.getfield 53, 3) := by decide +kernel
theorem dX12_settled_56 : decode cX12_settled 56 = .ok (.iload_n 3, 1) := by decide +kernel
theorem dX12_settled_57 : decode cX12_settled 57 = .ok (.iaload, 1) := by decide +kernel
theorem dX12_settled_58 : decode cX12_settled 58 = .ok (.iconst 1, 1) := by decide +kernel
theorem dX12_settled_59 : decode cX12_settled 59 = .ok (.if_icmp .ne 7, 3) := by decide +kernel
theorem dX12_settled_62 : decode cX12_settled 62 = .ok (.iconst 1, 1) := by decide +kernel
theorem dX12_settled_63 : decode cX12_settled 63 = .ok (.goto 4, 3) := by decide +kernel
theorem dX12_settled_66 : decode cX12_settled 66 = .ok (.iconst 0, 1) := by decide +kernel
theorem dX12_settled_67 : decode cX12_settled 67 = .ok (.istore_n 2, 1) := by decide +kernel
theorem dX12_settled_68 : decode cX12_settled 68 = .ok (.iinc 3 1, 3) := by decide +kernel
theorem dX12_settled_71 : decode cX12_settled 71 = .ok (.goto (-35), 3) := by decide +kernel
theorem dX12_settled_74 : decode cX12_settled 74 = .ok (.iload_n 2, 1) := by decide +kernel
theorem dX12_settled_75 : decode cX12_settled 75 = .ok (.ifCond .eq 7, 3) := by decide +kernel
theorem dX12_settled_78 : decode cX12_settled 78 = .ok (.iconst 2, 1) := by decide +kernel
theorem dX12_settled_79 : decode cX12_settled 79 = .ok (.goto 4, 3) := by decide +kernel
theorem dX12_settled_82 : decode cX12_settled 82 = .ok (.iconst 1, 1) := by decide +kernel
theorem dX12_settled_83 : decode cX12_settled 83 = .ok (.ireturn, 1) := by decide +kernel
theorem dX12_tells_0 : decode cX12_tells 0 = .ok (.aload_n 0, 1) := by decide +kernel
theorem dX12_tells_1 : decode cX12_tells 1 = .ok (.getfield 7, 3) := by decide +kernel
theorem dX12_tells_4 : decode cX12_tells 4 = .ok (.iconst 5, 1) := by decide +kernel
theorem dX12_tells_5 : decode cX12_tells 5 = .ok (.iaload, 1) := by decide +kernel
theorem dX12_tells_6 : decode cX12_tells 6 = .ok (.sipush 200, 3) := by decide +kernel
theorem dX12_tells_9 : decode cX12_tells 9 = .ok (.if_icmp .ne 4, 3) := by decide +kernel
theorem dX12_tells_12 : decode cX12_tells 12 = .ok (.return_, 1) := by decide +kernel
theorem dX12_tells_13 : decode cX12_tells 13 = .ok (.sipush 400, 3) := by decide +kernel
theorem dX12_tells_16 : decode cX12_tells 16 = .ok (.iconst 5, 1) := by decide +kernel
theorem dX12_tells_17 : decode cX12_tells 17 = .ok (.aload_n 0, 1) := by decide +kernel
theorem dX12_tells_18 : decode cX12_tells 18 = .ok (.getfield 7, 3) := by decide +kernel
theorem dX12_tells_21 : decode cX12_tells 21 = .ok (.iconst 5, 1) := by decide +kernel
theorem dX12_tells_22 : decode cX12_tells 22 = .ok (.iaload, 1) := by decide +kernel
theorem dX12_tells_23 : decode cX12_tells 23 = .ok (.imul, 1) := by decide +kernel
theorem dX12_tells_24 : decode cX12_tells 24 = .ok (.iadd, 1) := by decide +kernel
theorem dX12_tells_25 : decode cX12_tells 25 = .ok (.istore 5, 2) := by decide +kernel
theorem dX12_tells_27 : decode cX12_tells 27 = .ok (.aload_n 0, 1) := by decide +kernel
theorem dX12_tells_28 : decode cX12_tells 28 = .ok (.getfield 7, 3) := by decide +kernel
theorem dX12_tells_31 : decode cX12_tells 31 = .ok (.iload 5, 2) := by decide +kernel
theorem dX12_tells_33 : decode cX12_tells 33 = .ok (.aload_n 0, 1) := by decide +kernel
theorem dX12_tells_34 : decode cX12_tells 34 = .ok (.getfield 7, 3) := by decide +kernel
theorem dX12_tells_37 : decode cX12_tells 37 = .ok (.iconst 4, 1) := by decide +kernel
theorem dX12_tells_38 : decode cX12_tells 38 = .ok (.iaload, 1) := by decide +kernel
theorem dX12_tells_39 : decode cX12_tells 39 = .ok (.iastore, 1) := by decide +kernel
theorem dX12_tells_40 : decode cX12_tells 40 = .ok (.aload_n 0, 1) := by decide +kernel
theorem dX12_tells_41 : decode cX12_tells 41 = .ok (.getfield 7, 3) := by decide +kernel
theorem dX12_tells_44 : decode cX12_tells 44 = .ok (.iload 5, 2) := by decide +kernel
theorem dX12_tells_46 : decode cX12_tells 46 = .ok (.iconst 1, 1) := by decide +kernel
theorem dX12_tells_47 : decode cX12_tells 47 = .ok (.iadd, 1) := by decide +kernel
theorem dX12_tells_48 : decode cX12_tells 48 = .ok (.iload_n 1, 1) := by decide +kernel
theorem dX12_tells_49 : decode cX12_tells 49 = .ok (.iastore, 1) := by decide +kernel
theorem dX12_tells_50 : decode cX12_tells 50 = .ok (.aload_n 0, 1) := by decide +kernel
theorem dX12_tells_51 : decode cX12_tells 51 = .ok (.getfield 7, 3) := by decide +kernel
theorem dX12_tells_54 : decode cX12_tells 54 = .ok (.iload 5, 2) := by decide +kernel
theorem dX12_tells_56 : decode cX12_tells 56 = .ok (.iconst 2, 1) := by decide +kernel
theorem dX12_tells_57 : decode cX12_tells 57 = .ok (.iadd, 1) := by decide +kernel
theorem dX12_tells_58 : decode cX12_tells 58 = .ok (.iload_n 2, 1) := by decide +kernel
theorem dX12_tells_59 : decode cX12_tells 59 = .ok (.iastore, 1) := by decide +kernel
theorem dX12_tells_60 : decode cX12_tells 60 = .ok (.aload_n 0, 1) := by decide +kernel
theorem dX12_tells_61 : decode cX12_tells 61 = .ok (.getfield 7, 3) := by decide +kernel
theorem dX12_tells_64 : decode cX12_tells 64 = .ok (.iload 5, 2) := by decide +kernel
theorem dX12_tells_66 : decode cX12_tells 66 = .ok (.iconst 3, 1) := by decide +kernel
theorem dX12_tells_67 : decode cX12_tells 67 = .ok (.iadd, 1) := by decide +kernel
theorem dX12_tells_68 : decode cX12_tells 68 = .ok (.iload_n 3, 1) := by decide +kernel
theorem dX12_tells_69 : decode cX12_tells 69 = .ok (.iastore, 1) := by decide +kernel
theorem dX12_tells_70 : decode cX12_tells 70 = .ok (.aload_n 0, 1) := by decide +kernel
theorem dX12_tells_71 : decode cX12_tells 71 = .ok (.getfield 7, 3) := by decide +kernel
theorem dX12_tells_74 : decode cX12_tells 74 = .ok (.iload 5, 2) := by decide +kernel
theorem dX12_tells_76 : decode cX12_tells 76 = .ok (.iconst 4, 1) := by decide +kernel
theorem dX12_tells_77 : decode cX12_tells 77 = .ok (.iadd, 1) := by decide +kernel
theorem dX12_tells_78 : decode cX12_tells 78 = .ok (.iload 4, 2) := by decide +kernel
theorem dX12_tells_80 : decode cX12_tells 80 = .ok (.iastore, 1) := by decide +kernel
theorem dX12_tells_81 : decode cX12_tells 81 = .ok (.aload_n 0, 1) := by decide +kernel
theorem dX12_tells_82 : decode cX12_tells 82 = .ok (.getfield 7, 3) := by decide +kernel
theorem dX12_tells_85 : decode cX12_tells 85 = .ok (.iconst 5, 1) := by decide +kernel
theorem dX12_tells_86 : decode cX12_tells 86 = .ok (.dup2, 1) := by decide +kernel
theorem dX12_tells_87 : decode cX12_tells 87 = .ok (.iaload, 1) := by decide +kernel
theorem dX12_tells_88 : decode cX12_tells 88 = .ok (.iconst 1, 1) := by decide +kernel
theorem dX12_tells_89 : decode cX12_tells 89 = .ok (.iadd, 1) := by decide +kernel
theorem dX12_tells_90 : decode cX12_tells 90 = .ok (.iastore, 1) := by decide +kernel
theorem dX12_tells_91 : decode cX12_tells 91 = .ok (.return_, 1) := by decide +kernel
theorem dX12_burns_0 : decode cX12_burns 0 = .ok (.aload_n 0, 1) := by decide +kernel
theorem dX12_burns_1 : decode cX12_burns 1 = .ok (.iload_n 3, 1) := by decide +kernel
theorem dX12_burns_2 : decode cX12_burns 2 = .ok (.iconst 0, 1) := by decide +kernel
theorem dX12_burns_3 : decode cX12_burns 3 = .ok (.invokevirtual 205, 3) := by decide +kernel
theorem dX12_burns_6 : decode cX12_burns 6 = .ok (.istore 4, 2) := by decide +kernel
theorem dX12_burns_8 : decode cX12_burns 8 = .ok (.aload_n 0, 1) := by decide +kernel
theorem dX12_burns_9 : decode cX12_burns 9 = .ok (.iload_n 3, 1) := by decide +kernel
theorem dX12_burns_10 : decode cX12_burns 10 = .ok (.iconst 1, 1) := by decide +kernel
theorem dX12_burns_11 : decode cX12_burns 11 = .ok (.invokevirtual 205, 3) := by decide +kernel
theorem dX12_burns_14 : decode cX12_burns 14 = .ok (.istore 5, 2) := by decide +kernel
theorem dX12_burns_16 : decode cX12_burns 16 = .ok (.aload_n 0, 1) := by decide +kernel
theorem dX12_burns_17 : decode cX12_burns 17 = .ok (.iload_n 3, 1) := by decide +kernel
theorem dX12_burns_18 : decode cX12_burns 18 = .ok (.iconst 2, 1) := by decide +kernel
theorem dX12_burns_19 : decode cX12_burns 19 = .ok (.invokevirtual 205, 3) := by decide +kernel
theorem dX12_burns_22 : decode cX12_burns 22 = .ok (.istore 6, 2) := by decide +kernel
theorem dX12_burns_24 : decode cX12_burns 24 = .ok (.aload_n 0, 1) := by decide +kernel
theorem dX12_burns_25 : decode cX12_burns 25 = .ok (.iload_n 3, 1) := by decide +kernel
theorem dX12_burns_26 : decode cX12_burns 26 = .ok (.iconst 3, 1) := by decide +kernel
theorem dX12_burns_27 : decode cX12_burns 27 = .ok (.invokevirtual 205, 3) := by decide +kernel
theorem dX12_burns_30 : decode cX12_burns 30 = .ok (.istore 7, 2) := by decide +kernel
theorem dX12_burns_32 : decode cX12_burns 32 = .ok (.aload_n 0, 1) := by decide +kernel
theorem dX12_burns_33 : decode cX12_burns 33 = .ok (.iload_n 1, 1) := by decide +kernel
theorem dX12_burns_34 : decode cX12_burns 34 = .ok (.iload_n 2, 1) := by decide +kernel
theorem dX12_burns_35 : decode cX12_burns 35 = .ok (.iload 4, 2) := by decide +kernel
theorem dX12_burns_37 : decode cX12_burns 37 = .ok (.invokevirtual 228, 3) := by decide +kernel
theorem dX12_burns_40 : decode cX12_burns 40 = .ok (.iload 5, 2) := by decide +kernel
theorem dX12_burns_42 : decode cX12_burns 42 = .ok (.idiv, 1) := by decide +kernel
theorem dX12_burns_43 : decode cX12_burns 43 = .ok (.istore 8, 2) := by decide +kernel
theorem dX12_burns_45 : decode cX12_burns 45 = .ok (.aload_n 0, 1) := by decide +kernel
theorem dX12_burns_46 : decode cX12_burns 46 = .ok (.getfield 47, 3) := by decide +kernel
theorem dX12_burns_49 : decode cX12_burns 49 = .ok (.sipush 1000, 3) := by decide +kernel
theorem dX12_burns_52 : decode cX12_burns 52 = .ok (.iconst 2, 1) := by decide +kernel
theorem dX12_burns_53 : decode cX12_burns 53 = .ok (.iload_n 3, 1) := by decide +kernel
theorem dX12_burns_54 : decode cX12_burns 54 = .ok (.iadd, 1) := by decide +kernel
theorem dX12_burns_55 : decode cX12_burns 55 = .ok (.imul, 1) := by decide +kernel
theorem dX12_burns_56 : decode cX12_burns 56 = .ok (.aload_n 0, 1) := by decide +kernel
theorem dX12_burns_57 : decode cX12_burns 57 = .ok (.getfield 56, 3) := by decide +kernel
theorem dX12_burns_60 : decode cX12_burns 60 = .ok (.iload_n 2, 1) := by decide +kernel
theorem dX12_burns_61 : decode cX12_burns 61 = .ok (.iaload, 1) := by decide +kernel
theorem dX12_burns_62 : decode cX12_burns 62 = .ok (.iadd, 1) := by decide +kernel
theorem dX12_burns_63 : decode cX12_burns 63 = .ok (.iaload, 1) := by decide +kernel
theorem dX12_burns_64 : decode cX12_burns 64 = .ok (.istore 9, 2) := by decide +kernel
theorem dX12_burns_66 : decode cX12_burns 66 = .ok (.ldc_w 267, 3) := by decide +kernel
theorem dX12_burns_69 : decode cX12_burns 69 = .ok (.aload_n 0, 1) := by decide +kernel
theorem dX12_burns_70 : decode cX12_burns 70 = .ok (.iload_n 1, 1) := by decide +kernel
theorem dX12_burns_71 : decode cX12_burns 71 = .ok (.iload_n 2, 1) := by decide +kernel
theorem dX12_burns_72 : decode cX12_burns 72 = .ok (.iload 6, 2) := by decide +kernel
theorem dX12_burns_74 : decode cX12_burns 74 = .ok (.invokevirtual 228, 3) := by decide +kernel
theorem dX12_burns_77 : decode cX12_burns 77 = .ok (.isub, 1) := by decide +kernel
theorem dX12_burns_78 : decode cX12_burns 78 = .ok (.iload 7, 2) := by decide +kernel
theorem dX12_burns_80 : decode cX12_burns 80 = .ok (.idiv, 1) := by decide +kernel
theorem dX12_burns_81 : decode cX12_burns 81 = .ok (.istore 10, 2) := by decide +kernel
theorem dX12_burns_83 : decode cX12_burns 83 = .ok (.iload 9, 2) := by decide +kernel
theorem dX12_burns_85 : decode cX12_burns 85 = .ok (.iload 8, 2) := by decide +kernel
theorem dX12_burns_87 : decode cX12_burns 87 = .ok (.if_icmp .ge 8, 3) := by decide +kernel
theorem dX12_burns_90 : decode cX12_burns 90 = .ok (.iload 9, 2) := by decide +kernel
theorem dX12_burns_92 : decode cX12_burns 92 = .ok (.goto 5, 3) := by decide +kernel
theorem dX12_burns_95 : decode cX12_burns 95 = .ok (.iload 8, 2) := by decide +kernel
theorem dX12_burns_97 : decode cX12_burns 97 = .ok (.istore 8, 2) := by decide +kernel
theorem dX12_burns_99 : decode cX12_burns 99 = .ok (.iload 10, 2) := by decide +kernel
theorem dX12_burns_101 : decode cX12_burns 101 = .ok (.iload 8, 2) := by decide +kernel
theorem dX12_burns_103 : decode cX12_burns 103 = .ok (.if_icmp .ge 8, 3) := by decide +kernel
theorem dX12_burns_106 : decode cX12_burns 106 = .ok (.iload 10, 2) := by decide +kernel
theorem dX12_burns_108 : decode cX12_burns 108 = .ok (.goto 5, 3) := by decide +kernel
theorem dX12_burns_111 : decode cX12_burns 111 = .ok (.iload 8, 2) := by decide +kernel
theorem dX12_burns_113 : decode cX12_burns 113 = .ok (.istore 8, 2) := by decide +kernel
theorem dX12_burns_115 : decode cX12_burns 115 = .ok (.aload_n 0, 1) := by decide +kernel
theorem dX12_burns_116 : decode cX12_burns 116 = .ok (.iload_n 1, 1) := by decide +kernel
theorem dX12_burns_117 : decode cX12_burns 117 = .ok (.iload_n 2, 1) := by decide +kernel
theorem dX12_burns_118 : decode cX12_burns 118 = .ok (.iload 4, 2) := by decide +kernel
theorem dX12_burns_120 : decode cX12_burns 120 = .ok (.aload_n 0, 1) := by decide +kernel
theorem dX12_burns_121 : decode cX12_burns 121 = .ok (.iload_n 1, 1) := by decide +kernel
theorem dX12_burns_122 : decode cX12_burns 122 = .ok (.iload_n 2, 1) := by decide +kernel
theorem dX12_burns_123 : decode cX12_burns 123 = .ok (.iload 4, 2) := by decide +kernel
theorem dX12_burns_125 : decode cX12_burns 125 = .ok (.invokevirtual 228, 3) := by decide +kernel
theorem dX12_burns_128 : decode cX12_burns 128 = .ok (.iload 8, 2) := by decide +kernel
theorem dX12_burns_130 : decode cX12_burns 130 = .ok (.iload 5, 2) := by decide +kernel
theorem dX12_burns_132 : decode cX12_burns 132 = .ok (.imul, 1) := by decide +kernel
theorem dX12_burns_133 : decode cX12_burns 133 = .ok (.isub, 1) := by decide +kernel
theorem dX12_burns_134 : decode cX12_burns 134 = .ok (.invokevirtual 224, 3) := by decide +kernel
theorem dX12_burns_137 : decode cX12_burns 137 = .ok (.aload_n 0, 1) := by decide +kernel
theorem dX12_burns_138 : decode cX12_burns 138 = .ok (.iload_n 1, 1) := by decide +kernel
theorem dX12_burns_139 : decode cX12_burns 139 = .ok (.iload_n 2, 1) := by decide +kernel
theorem dX12_burns_140 : decode cX12_burns 140 = .ok (.iload 6, 2) := by decide +kernel
theorem dX12_burns_142 : decode cX12_burns 142 = .ok (.aload_n 0, 1) := by decide +kernel
theorem dX12_burns_143 : decode cX12_burns 143 = .ok (.iload_n 1, 1) := by decide +kernel
theorem dX12_burns_144 : decode cX12_burns 144 = .ok (.iload_n 2, 1) := by decide +kernel
theorem dX12_burns_145 : decode cX12_burns 145 = .ok (.iload 6, 2) := by decide +kernel
theorem dX12_burns_147 : decode cX12_burns 147 = .ok (.invokevirtual 228, 3) := by decide +kernel
theorem dX12_burns_150 : decode cX12_burns 150 = .ok (.iload 8, 2) := by decide +kernel
theorem dX12_burns_152 : decode cX12_burns 152 = .ok (.iload 7, 2) := by decide +kernel
theorem dX12_burns_154 : decode cX12_burns 154 = .ok (.imul, 1) := by decide +kernel
theorem dX12_burns_155 : decode cX12_burns 155 = .ok (.iadd, 1) := by decide +kernel
theorem dX12_burns_156 : decode cX12_burns 156 = .ok (.invokevirtual 224, 3) := by decide +kernel
theorem dX12_burns_159 : decode cX12_burns 159 = .ok (.aload_n 0, 1) := by decide +kernel
theorem dX12_burns_160 : decode cX12_burns 160 = .ok (.getfield 16, 3) := by decide +kernel
theorem dX12_burns_163 : decode cX12_burns 163 = .ok (.bipush 80, 2) := by decide +kernel
theorem dX12_burns_165 : decode cX12_burns 165 = .ok (.iload_n 1, 1) := by decide +kernel
theorem dX12_burns_166 : decode cX12_burns 166 = .ok (.imul, 1) := by decide +kernel
theorem dX12_burns_167 : decode cX12_burns 167 = .ok (.iconst 5, 1) := by decide +kernel
theorem dX12_burns_168 : decode cX12_burns 168 = .ok (.iload_n 2, 1) := by decide +kernel
theorem dX12_burns_169 : decode cX12_burns 169 = .ok (.imul, 1) := by decide +kernel
theorem dX12_burns_170 : decode cX12_burns 170 = .ok (.iadd, 1) := by decide +kernel
theorem dX12_burns_171 : decode cX12_burns 171 = .ok (.iload_n 3, 1) := by decide +kernel
theorem dX12_burns_172 : decode cX12_burns 172 = .ok (.iadd, 1) := by decide +kernel
theorem dX12_burns_173 : decode cX12_burns 173 = .ok (.dup2, 1) := by decide +kernel
theorem dX12_burns_174 : decode cX12_burns 174 = .ok (.laload, 1) := by decide +kernel
theorem dX12_burns_175 : decode cX12_burns 175 = .ok (.iload 8, 2) := by decide +kernel
theorem dX12_burns_177 : decode cX12_burns 177 = .ok (.i2l, 1) := by decide +kernel
theorem dX12_burns_178 : decode cX12_burns 178 = .ok (.aload_n 0, 1) := by decide +kernel
theorem dX12_burns_179 : decode cX12_burns 179 = .ok (.iload_n 3, 1) := by decide +kernel
theorem dX12_burns_180 : decode cX12_burns 180 = .ok (.iconst 4, 1) := by decide +kernel
theorem dX12_burns_181 : decode cX12_burns 181 = .ok (.invokevirtual 205, 3) := by decide +kernel
theorem dX12_burns_184 : decode cX12_burns 184 = .ok (.i2l, 1) := by decide +kernel
theorem dX12_burns_185 : decode cX12_burns 185 = .ok (.lmul, 1) := by decide +kernel
theorem dX12_burns_186 : decode cX12_burns 186 = .ok (.ladd, 1) := by decide +kernel
theorem dX12_burns_187 : decode cX12_burns 187 = .ok (.lastore, 1) := by decide +kernel
theorem dX12_burns_188 : decode cX12_burns 188 = .ok (.aload_n 0, 1) := by decide +kernel
theorem dX12_burns_189 : decode cX12_burns 189 = .ok (.getfield 71, 3) := by decide +kernel
theorem dX12_burns_192 : decode cX12_burns 192 = .ok (.iload_n 3, 1) := by decide +kernel
theorem dX12_burns_193 : decode cX12_burns 193 = .ok (.iload 8, 2) := by decide +kernel
theorem dX12_burns_195 : decode cX12_burns 195 = .ok (.ifCond .le 16, 3) := by decide +kernel
theorem dX12_burns_198 : decode cX12_burns 198 = .ok (.aload_n 0, 1) := by decide +kernel
theorem dX12_burns_199 : decode cX12_burns 199 = .ok (.iload_n 3, 1) := by decide +kernel
theorem dX12_burns_200 : decode cX12_burns 200 = .ok (.iconst 4, 1) := by decide +kernel
theorem dX12_burns_201 : decode cX12_burns 201 = .ok (.invokevirtual 205, 3) := by decide +kernel
theorem dX12_burns_204 : decode cX12_burns 204 = .ok (.ifCond .le 7, 3) := by decide +kernel
theorem dX12_burns_207 : decode cX12_burns 207 = .ok (.iconst 1, 1) := by decide +kernel
theorem dX12_burns_208 : decode cX12_burns 208 = .ok (.goto 4, 3) := by decide +kernel
theorem dX12_burns_211 : decode cX12_burns 211 = .ok (.iconst 0, 1) := by decide +kernel
theorem dX12_burns_212 : decode cX12_burns 212 = .ok (.bastore, 1) := by decide +kernel
theorem dX12_burns_213 : decode cX12_burns 213 = .ok (.return_, 1) := by decide +kernel
theorem dX12_looksAt_0 : decode cX12_looksAt 0 = .ok (.sipush 220, 3) := by decide +kernel
theorem dX12_looksAt_3 : decode cX12_looksAt 3 = .ok (.bipush 80, 2) := by decide +kernel
theorem dX12_looksAt_5 : decode cX12_looksAt 5 = .ok (.iload_n 1, 1) := by decide +kernel
theorem dX12_looksAt_6 : decode cX12_looksAt 6 = .ok (.imul, 1) := by decide +kernel
theorem dX12_looksAt_7 : decode cX12_looksAt 7 = .ok (.iadd, 1) := by decide +kernel
theorem dX12_looksAt_8 : decode cX12_looksAt 8 = .ok (.iconst 5, 1) := by decide +kernel
theorem dX12_looksAt_9 : decode cX12_looksAt 9 = .ok (.iload_n 2, 1) := by decide +kernel
theorem dX12_looksAt_10 : decode cX12_looksAt 10 = .ok (.imul, 1) := by decide +kernel
theorem dX12_looksAt_11 : decode cX12_looksAt 11 = .ok (.iadd, 1) := by decide +kernel
theorem dX12_looksAt_12 : decode cX12_looksAt 12 = .ok (.iload_n 3, 1) := by decide +kernel
theorem dX12_looksAt_13 : decode cX12_looksAt 13 = .ok (.iadd, 1) := by decide +kernel
theorem dX12_looksAt_14 : decode cX12_looksAt 14 = .ok (.istore 4, 2) := by decide +kernel
theorem dX12_looksAt_16 : decode cX12_looksAt 16 = .ok (.aload_n 0, 1) := by decide +kernel
theorem dX12_looksAt_17 : decode cX12_looksAt 17 = .ok (.iload_n 3, 1) := by decide +kernel
theorem dX12_looksAt_18 : decode cX12_looksAt 18 = .ok (.invokevirtual 202, 3) := by decide +kernel
theorem dX12_looksAt_21 : decode cX12_looksAt 21 = .ok (.ifCond .eq 16, 3) := by decide +kernel
theorem dX12_looksAt_24 : decode cX12_looksAt 24 = .ok (.aload_n 0, 1) := by decide +kernel
theorem dX12_looksAt_25 : decode cX12_looksAt 25 = .ok (.getfield 71, 3) := by decide +kernel
theorem dX12_looksAt_28 : decode cX12_looksAt 28 = .ok (.iload_n 3, 1) := by decide +kernel
theorem dX12_looksAt_29 : decode cX12_looksAt 29 = .ok (.baload, 1) := by decide +kernel
theorem dX12_looksAt_30 : decode cX12_looksAt 30 = .ok (.ifCond .eq 7, 3) := by decide +kernel
theorem dX12_looksAt_33 : decode cX12_looksAt 33 = .ok (.iconst 1, 1) := by decide +kernel
theorem dX12_looksAt_34 : decode cX12_looksAt 34 = .ok (.goto 4, 3) := by decide +kernel
theorem dX12_looksAt_37 : decode cX12_looksAt 37 = .ok (.iconst 0, 1) := by decide +kernel
theorem dX12_looksAt_38 : decode cX12_looksAt 38 = .ok (.istore 5, 2) := by decide +kernel
theorem dX12_looksAt_40 : decode cX12_looksAt 40 = .ok (.aload_n 0, 1) := by decide +kernel
theorem dX12_looksAt_41 : decode cX12_looksAt 41 = .ok (.iload_n 3, 1) := by decide +kernel
theorem dX12_looksAt_42 : decode cX12_looksAt 42 = .ok (.invokevirtual 202, 3) := by decide +kernel
theorem dX12_looksAt_45 : decode cX12_looksAt 45 = .ok (.ifCond .eq 52, 3) := by decide +kernel
theorem dX12_looksAt_48 : decode cX12_looksAt 48 = .ok (.aload_n 0, 1) := by decide +kernel
theorem dX12_looksAt_49 : decode cX12_looksAt 49 = .ok (.iload_n 1, 1) := by decide +kernel
theorem dX12_looksAt_50 : decode cX12_looksAt 50 = .ok (.iload_n 2, 1) := by decide +kernel
theorem dX12_looksAt_51 : decode cX12_looksAt 51 = .ok (.aload_n 0, 1) := by decide +kernel
theorem dX12_looksAt_52 : decode cX12_looksAt 52 = .ok (.iload_n 3, 1) := by decide +kernel
theorem dX12_looksAt_53 : decode cX12_looksAt 53 = .ok (.iconst 0, 1) := by decide +kernel
theorem dX12_looksAt_54 : decode cX12_looksAt 54 = .ok (.invokevirtual 205, 3) := by decide +kernel
theorem dX12_looksAt_57 : decode cX12_looksAt 57 = .ok (.invokevirtual 228, 3) := by decide +kernel
theorem dX12_looksAt_60 : decode cX12_looksAt 60 = .ok (.aload_n 0, 1) := by decide +kernel
theorem dX12_looksAt_61 : decode cX12_looksAt 61 = .ok (.iload_n 3, 1) := by decide +kernel
theorem dX12_looksAt_62 : decode cX12_looksAt 62 = .ok (.iconst 1, 1) := by decide +kernel
theorem dX12_looksAt_63 : decode cX12_looksAt 63 = .ok (.invokevirtual 205, 3) := by decide +kernel
theorem dX12_looksAt_66 : decode cX12_looksAt 66 = .ok (.if_icmp .ge 31, 3) := by decide +kernel
theorem dX12_looksAt_69 : decode cX12_looksAt 69 = .ok (.aload_n 0, 1) := by decide +kernel
theorem dX12_looksAt_70 : decode cX12_looksAt 70 = .ok (.getfield 68, 3) := by decide +kernel
theorem dX12_looksAt_73 : decode cX12_looksAt 73 = .ok (.aload_n 0, 1) := by decide +kernel
theorem dX12_looksAt_74 : decode cX12_looksAt 74 = .ok (.iload_n 3, 1) := by decide +kernel
theorem dX12_looksAt_75 : decode cX12_looksAt 75 = .ok (.iconst 0, 1) := by decide +kernel
theorem dX12_looksAt_76 : decode cX12_looksAt 76 = .ok (.invokevirtual 205, 3) := by decide +kernel
theorem dX12_looksAt_79 : decode cX12_looksAt 79 = .ok (.iaload, 1) := by decide +kernel
theorem dX12_looksAt_80 : decode cX12_looksAt 80 = .ok (.aload_n 0, 1) := by decide +kernel
theorem dX12_looksAt_81 : decode cX12_looksAt 81 = .ok (.iload_n 3, 1) := by decide +kernel
theorem dX12_looksAt_82 : decode cX12_looksAt 82 = .ok (.iconst 1, 1) := by decide +kernel
theorem dX12_looksAt_83 : decode cX12_looksAt 83 = .ok (.invokevirtual 205, 3) := by decide +kernel
theorem dX12_looksAt_86 : decode cX12_looksAt 86 = .ok (.if_icmp .lt 11, 3) := by decide +kernel
theorem dX12_looksAt_89 : decode cX12_looksAt 89 = .ok (.aload_n 0, 1) := by decide +kernel
theorem dX12_looksAt_90 : decode cX12_looksAt 90 = .ok (.iload_n 1, 1) := by decide +kernel
theorem dX12_looksAt_91 : decode cX12_looksAt 91 = .ok (.iload_n 2, 1) := by decide +kernel
theorem dX12_looksAt_92 : decode cX12_looksAt 92 = .ok (.iload_n 3, 1) := by decide +kernel
theorem dX12_looksAt_93 : decode cX12_looksAt 93 = .ok (.iconst 0, 1) := by decide +kernel
theorem dX12_looksAt_94 : decode cX12_looksAt 94 = .ok (.invokevirtual 268, 3) := by decide +kernel
theorem dX12_looksAt_97 : decode cX12_looksAt 97 = .ok (.iload 5, 2) := by decide +kernel
theorem dX12_looksAt_99 : decode cX12_looksAt 99 = .ok (.ifCond .eq 21, 3) := by decide +kernel
theorem dX12_looksAt_102 : decode cX12_looksAt 102 = .ok (.aload_n 0, 1) := by decide +kernel
theorem dX12_looksAt_103 : decode cX12_looksAt 103 = .ok (.getfield 7, 3) := by decide +kernel
theorem dX12_looksAt_106 : decode cX12_looksAt 106 = .ok (.iload 4, 2) := by decide +kernel
theorem dX12_looksAt_108 : decode cX12_looksAt 108 = .ok (.iaload, 1) := by decide +kernel
theorem dX12_looksAt_109 : decode cX12_looksAt 109 = .ok (.ifCond .ne 11, 3) := by decide +kernel
theorem dX12_looksAt_112 : decode cX12_looksAt 112 = .ok (.aload_n 0, 1) := by decide +kernel
theorem dX12_looksAt_113 : decode cX12_looksAt 113 = .ok (.iload_n 1, 1) := by decide +kernel
theorem dX12_looksAt_114 : decode cX12_looksAt 114 = .ok (.iload_n 2, 1) := by decide +kernel
theorem dX12_looksAt_115 : decode cX12_looksAt 115 = .ok (.iload_n 3, 1) := by decide +kernel
theorem dX12_looksAt_116 : decode cX12_looksAt 116 = .ok (.iconst 1, 1) := by decide +kernel
theorem dX12_looksAt_117 : decode cX12_looksAt 117 = .ok (.invokevirtual 268, 3) := by decide +kernel
theorem dX12_looksAt_120 : decode cX12_looksAt 120 = .ok (.aload_n 0, 1) := by decide +kernel
theorem dX12_looksAt_121 : decode cX12_looksAt 121 = .ok (.getfield 7, 3) := by decide +kernel
theorem dX12_looksAt_124 : decode cX12_looksAt 124 = .ok (.iload 4, 2) := by decide +kernel
theorem dX12_looksAt_126 : decode cX12_looksAt 126 = .ok (.iload 5, 2) := by decide +kernel
theorem dX12_looksAt_128 : decode cX12_looksAt 128 = .ok (.ifCond .eq 7, 3) := by decide +kernel
theorem dX12_looksAt_131 : decode cX12_looksAt 131 = .ok (.iconst 1, 1) := by decide +kernel
theorem dX12_looksAt_132 : decode cX12_looksAt 132 = .ok (.goto 4, 3) := by decide +kernel
theorem dX12_looksAt_135 : decode cX12_looksAt 135 = .ok (.iconst 0, 1) := by decide +kernel
theorem dX12_looksAt_136 : decode cX12_looksAt 136 = .ok (.iastore, 1) := by decide +kernel
theorem dX12_looksAt_137 : decode cX12_looksAt 137 = .ok (.return_, 1) := by decide +kernel
theorem dX12_mixes_0 : decode cX12_mixes 0 = .ok (.iload_n 3, 1) := by decide +kernel
theorem dX12_mixes_1 : decode cX12_mixes 1 = .ok (.iload_n 2, 1) := by decide +kernel
theorem dX12_mixes_2 : decode cX12_mixes 2 = .ok (.isub, 1) := by decide +kernel
theorem dX12_mixes_3 : decode cX12_mixes 3 = .ok (.iconst 1, 1) := by decide +kernel
theorem dX12_mixes_4 : decode cX12_mixes 4 = .ok (.iadd, 1) := by decide +kernel
theorem dX12_mixes_5 : decode cX12_mixes 5 = .ok (.istore 4, 2) := by decide +kernel
theorem dX12_mixes_7 : decode cX12_mixes 7 = .ok (.iconst 0, 1) := by decide +kernel
theorem dX12_mixes_8 : decode cX12_mixes 8 = .ok (.istore 5, 2) := by decide +kernel
theorem dX12_mixes_10 : decode cX12_mixes 10 = .ok (.iload 5, 2) := by decide +kernel
theorem dX12_mixes_12 : decode cX12_mixes 12 = .ok (.bipush 6, 2) := by decide +kernel
theorem dX12_mixes_14 : decode cX12_mixes 14 = .ok (.if_icmp .ge 88, 3) := by decide +kernel
theorem dX12_mixes_17 : decode cX12_mixes 17 = .ok (.iconst 0, 1) := by decide +kernel
theorem dX12_mixes_18 : decode cX12_mixes 18 = .ok (.istore 6, 2) := by decide +kernel
theorem dX12_mixes_20 : decode cX12_mixes 20 = .ok (.iload_n 2, 1) := by decide +kernel
theorem dX12_mixes_21 : decode cX12_mixes 21 = .ok (.istore 7, 2) := by decide +kernel
theorem dX12_mixes_23 : decode cX12_mixes 23 = .ok (.iload 7, 2) := by decide +kernel
theorem dX12_mixes_25 : decode cX12_mixes 25 = .ok (.iload_n 3, 1) := by decide +kernel
theorem dX12_mixes_26 : decode cX12_mixes 26 = .ok (.if_icmp .gt 23, 3) := by decide +kernel
theorem dX12_mixes_29 : decode cX12_mixes 29 = .ok (.iload 6, 2) := by decide +kernel
theorem dX12_mixes_31 : decode cX12_mixes 31 = .ok (.aload_n 0, 1) := by decide +kernel
theorem dX12_mixes_32 : decode cX12_mixes 32 = .ok (.iload_n 1, 1) := by decide +kernel
theorem dX12_mixes_33 : decode cX12_mixes 33 = .ok (.iload 7, 2) := by decide +kernel
theorem dX12_mixes_35 : decode cX12_mixes 35 = .ok (.iload 5, 2) := by decide +kernel
theorem dX12_mixes_37 : decode cX12_mixes 37 = .ok (.invokevirtual 228, 3) := by decide +kernel
theorem dX12_mixes_40 : decode cX12_mixes 40 = .ok (.iadd, 1) := by decide +kernel
theorem dX12_mixes_41 : decode cX12_mixes 41 = .ok (.istore 6, 2) := by decide +kernel
theorem dX12_mixes_43 : decode cX12_mixes 43 = .ok (.iinc 7 1, 3) := by decide +kernel
theorem dX12_mixes_46 : decode cX12_mixes 46 = .ok (.goto (-23), 3) := by decide +kernel
theorem dX12_mixes_49 : decode cX12_mixes 49 = .ok (.iload_n 2, 1) := by decide +kernel
theorem dX12_mixes_50 : decode cX12_mixes 50 = .ok (.istore 7, 2) := by decide +kernel
theorem dX12_mixes_52 : decode cX12_mixes 52 = .ok (.iload 7, 2) := by decide +kernel
theorem dX12_mixes_54 : decode cX12_mixes 54 = .ok (.iload_n 3, 1) := by decide +kernel
theorem dX12_mixes_55 : decode cX12_mixes 55 = .ok (.if_icmp .gt 41, 3) := by decide +kernel
theorem dX12_mixes_58 : decode cX12_mixes 58 = .ok (.aload_n 0, 1) := by decide +kernel
theorem dX12_mixes_59 : decode cX12_mixes 59 = .ok (.iload_n 1, 1) := by decide +kernel
theorem dX12_mixes_60 : decode cX12_mixes 60 = .ok (.iload 7, 2) := by decide +kernel
theorem dX12_mixes_62 : decode cX12_mixes 62 = .ok (.iload 5, 2) := by decide +kernel
theorem dX12_mixes_64 : decode cX12_mixes 64 = .ok (.iload 6, 2) := by decide +kernel
theorem dX12_mixes_66 : decode cX12_mixes 66 = .ok (.iload 4, 2) := by decide +kernel
theorem dX12_mixes_68 : decode cX12_mixes 68 = .ok (.idiv, 1) := by decide +kernel
theorem dX12_mixes_69 : decode cX12_mixes 69 = .ok (.iload 7, 2) := by decide +kernel
theorem dX12_mixes_71 : decode cX12_mixes 71 = .ok (.iload_n 2, 1) := by decide +kernel
theorem dX12_mixes_72 : decode cX12_mixes 72 = .ok (.isub, 1) := by decide +kernel
theorem dX12_mixes_73 : decode cX12_mixes 73 = .ok (.iload 6, 2) := by decide +kernel
theorem dX12_mixes_75 : decode cX12_mixes 75 = .ok (.iload 4, 2) := by decide +kernel
theorem dX12_mixes_77 : decode cX12_mixes 77 = .ok (.irem, 1) := by decide +kernel
theorem dX12_mixes_78 : decode cX12_mixes 78 = .ok (.if_icmp .ge 7, 3) := by decide +kernel
theorem dX12_mixes_81 : decode cX12_mixes 81 = .ok (.iconst 1, 1) := by decide +kernel
theorem dX12_mixes_82 : decode cX12_mixes 82 = .ok (.goto 4, 3) := by decide +kernel
theorem dX12_mixes_85 : decode cX12_mixes 85 = .ok (.iconst 0, 1) := by decide +kernel
theorem dX12_mixes_86 : decode cX12_mixes 86 = .ok (.iadd, 1) := by decide +kernel
theorem dX12_mixes_87 : decode cX12_mixes 87 = .ok (.invokevirtual 224, 3) := by decide +kernel
theorem dX12_mixes_90 : decode cX12_mixes 90 = .ok (.iinc 7 1, 3) := by decide +kernel
theorem dX12_mixes_93 : decode cX12_mixes 93 = .ok (.goto (-41), 3) := by decide +kernel
theorem dX12_mixes_96 : decode cX12_mixes 96 = .ok (.iinc 5 1, 3) := by decide +kernel
theorem dX12_mixes_99 : decode cX12_mixes 99 = .ok (.goto (-89), 3) := by decide +kernel
theorem dX12_mixes_102 : decode cX12_mixes 102 = .ok (.return_, 1) := by decide +kernel
theorem dX12_goes_0 : decode cX12_goes 0 = .ok (.aload_n 0, 1) := by decide +kernel
theorem dX12_goes_1 : decode cX12_goes 1 = .ok (.getfield 7, 3) := by decide +kernel
theorem dX12_goes_4 : decode cX12_goes 4 = .ok (.iconst 2, 1) := by decide +kernel
theorem dX12_goes_5 : decode cX12_goes 5 = .ok (.iload_n 1, 1) := by decide +kernel
theorem dX12_goes_6 : decode cX12_goes 6 = .ok (.iadd, 1) := by decide +kernel
theorem dX12_goes_7 : decode cX12_goes 7 = .ok (.iaload, 1) := by decide +kernel
theorem dX12_goes_8 : decode cX12_goes 8 = .ok (.istore_n 2, 1) := by decide +kernel
theorem dX12_goes_9 : decode cX12_goes 9 = .ok (.iconst 0, 1) := by decide +kernel
theorem dX12_goes_10 : decode cX12_goes 10 = .ok (.istore_n 3, 1) := by decide +kernel
theorem dX12_goes_11 : decode cX12_goes 11 = .ok (.iload_n 3, 1) := by decide +kernel
theorem dX12_goes_12 : decode cX12_goes 12 = .ok (.iload_n 2, 1) := by decide +kernel
theorem dX12_goes_13 : decode cX12_goes 13 = .ok (.if_icmp .ge 30, 3) := by decide +kernel
theorem dX12_goes_16 : decode cX12_goes 16 = .ok (.aload_n 0, 1) := by decide +kernel
theorem dX12_goes_17 : decode cX12_goes 17 = .ok (.getfield 65, 3) := by decide +kernel
theorem dX12_goes_20 : decode cX12_goes 20 = .ok (.iload_n 3, 1) := by decide +kernel
theorem dX12_goes_21 : decode cX12_goes 21 = .ok (.aload_n 0, 1) := by decide +kernel
theorem dX12_goes_22 : decode cX12_goes 22 = .ok (.iload_n 1, 1) := by decide +kernel
theorem dX12_goes_23 : decode cX12_goes 23 = .ok (.iload_n 3, 1) := by decide +kernel
theorem dX12_goes_24 : decode cX12_goes 24 = .ok (.invokevirtual 262, 3) := by decide +kernel
theorem dX12_goes_27 : decode cX12_goes 27 = .ok (.iconst 1, 1) := by decide +kernel
theorem dX12_goes_28 : decode cX12_goes 28 = .ok (.if_icmp .ne 7, 3) := by decide +kernel
theorem dX12_goes_31 : decode cX12_goes 31 = .ok (.iconst 1, 1) := by decide +kernel
theorem dX12_goes_32 : decode cX12_goes 32 = .ok (.goto 4, 3) := by decide +kernel
theorem dX12_goes_35 : decode cX12_goes 35 = .ok (.iconst 0, 1) := by decide +kernel
theorem dX12_goes_36 : decode cX12_goes 36 = .ok (.bastore, 1) := by decide +kernel
theorem dX12_goes_37 : decode cX12_goes 37 = .ok (.iinc 3 1, 3) := by decide +kernel
theorem dX12_goes_40 : decode cX12_goes 40 = .ok (.goto (-29), 3) := by decide +kernel
theorem dX12_goes_43 : decode cX12_goes 43 = .ok (.iconst 0, 1) := by decide +kernel
theorem dX12_goes_44 : decode cX12_goes 44 = .ok (.istore_n 3, 1) := by decide +kernel
theorem dX12_goes_45 : decode cX12_goes 45 = .ok (.iload_n 3, 1) := by decide +kernel
theorem dX12_goes_46 : decode cX12_goes 46 = .ok (.iload_n 2, 1) := by decide +kernel
theorem dX12_goes_47 : decode cX12_goes 47 = .ok (.if_icmp .ge 95, 3) := by decide +kernel
theorem dX12_goes_50 : decode cX12_goes 50 = .ok (.iconst 0, 1) := by decide +kernel
theorem dX12_goes_51 : decode cX12_goes 51 = .ok (.istore 4, 2) := by decide +kernel
theorem dX12_goes_53 : decode cX12_goes 53 = .ok (.iload 4, 2) := by decide +kernel
theorem dX12_goes_55 : decode cX12_goes 55 = .ok (.bipush 6, 2) := by decide +kernel
theorem dX12_goes_57 : decode cX12_goes 57 = .ok (.if_icmp .ge 24, 3) := by decide +kernel
theorem dX12_goes_60 : decode cX12_goes 60 = .ok (.aload_n 0, 1) := by decide +kernel
theorem dX12_goes_61 : decode cX12_goes 61 = .ok (.getfield 68, 3) := by decide +kernel
theorem dX12_goes_64 : decode cX12_goes 64 = .ok (.iload 4, 2) := by decide +kernel
theorem dX12_goes_66 : decode cX12_goes 66 = .ok (.aload_n 0, 1) := by decide +kernel
theorem dX12_goes_67 : decode cX12_goes 67 = .ok (.iload_n 1, 1) := by decide +kernel
theorem dX12_goes_68 : decode cX12_goes 68 = .ok (.iload_n 3, 1) := by decide +kernel
theorem dX12_goes_69 : decode cX12_goes 69 = .ok (.iload 4, 2) := by decide +kernel
theorem dX12_goes_71 : decode cX12_goes 71 = .ok (.invokevirtual 228, 3) := by decide +kernel
theorem dX12_goes_74 : decode cX12_goes 74 = .ok (.iastore, 1) := by decide +kernel
theorem dX12_goes_75 : decode cX12_goes 75 = .ok (.iinc 4 1, 3) := by decide +kernel
theorem dX12_goes_78 : decode cX12_goes 78 = .ok (.goto (-25), 3) := by decide +kernel
theorem dX12_goes_81 : decode cX12_goes 81 = .ok (.iconst 0, 1) := by decide +kernel
theorem dX12_goes_82 : decode cX12_goes 82 = .ok (.istore 4, 2) := by decide +kernel
theorem dX12_goes_84 : decode cX12_goes 84 = .ok (.iload 4, 2) := by decide +kernel
theorem dX12_goes_86 : decode cX12_goes 86 = .ok (.iconst 5, 1) := by decide +kernel
theorem dX12_goes_87 : decode cX12_goes 87 = .ok (.if_icmp .ge 26, 3) := by decide +kernel
theorem dX12_goes_90 : decode cX12_goes 90 = .ok (.aload_n 0, 1) := by decide +kernel
theorem dX12_goes_91 : decode cX12_goes 91 = .ok (.iload 4, 2) := by decide +kernel
theorem dX12_goes_93 : decode cX12_goes 93 = .ok (.invokevirtual 202, 3) := by decide +kernel
theorem dX12_goes_96 : decode cX12_goes 96 = .ok (.ifCond .eq 11, 3) := by decide +kernel
theorem dX12_goes_99 : decode cX12_goes 99 = .ok (.aload_n 0, 1) := by decide +kernel
theorem dX12_goes_100 : decode cX12_goes 100 = .ok (.iload_n 1, 1) := by decide +kernel
theorem dX12_goes_101 : decode cX12_goes 101 = .ok (.iload_n 3, 1) := by decide +kernel
theorem dX12_goes_102 : decode cX12_goes 102 = .ok (.iload 4, 2) := by decide +kernel
theorem dX12_goes_104 : decode cX12_goes 104 = .ok (.invokevirtual 271, 3) := by decide +kernel
theorem dX12_goes_107 : decode cX12_goes 107 = .ok (.iinc 4 1, 3) := by decide +kernel
theorem dX12_goes_110 : decode cX12_goes 110 = .ok (.goto (-26), 3) := by decide +kernel
theorem dX12_goes_113 : decode cX12_goes 113 = .ok (.iconst 0, 1) := by decide +kernel
theorem dX12_goes_114 : decode cX12_goes 114 = .ok (.istore 4, 2) := by decide +kernel
theorem dX12_goes_116 : decode cX12_goes 116 = .ok (.iload 4, 2) := by decide +kernel
theorem dX12_goes_118 : decode cX12_goes 118 = .ok (.iconst 5, 1) := by decide +kernel
theorem dX12_goes_119 : decode cX12_goes 119 = .ok (.if_icmp .ge 17, 3) := by decide +kernel
theorem dX12_goes_122 : decode cX12_goes 122 = .ok (.aload_n 0, 1) := by decide +kernel
theorem dX12_goes_123 : decode cX12_goes 123 = .ok (.iload_n 1, 1) := by decide +kernel
theorem dX12_goes_124 : decode cX12_goes 124 = .ok (.iload_n 3, 1) := by decide +kernel
theorem dX12_goes_125 : decode cX12_goes 125 = .ok (.iload 4, 2) := by decide +kernel
theorem dX12_goes_127 : decode cX12_goes 127 = .ok (.invokevirtual 275, 3) := by decide +kernel
theorem dX12_goes_130 : decode cX12_goes 130 = .ok (.iinc 4 1, 3) := by decide +kernel
theorem dX12_goes_133 : decode cX12_goes 133 = .ok (.goto (-17), 3) := by decide +kernel
theorem dX12_goes_136 : decode cX12_goes 136 = .ok (.iinc 3 1, 3) := by decide +kernel
theorem dX12_goes_139 : decode cX12_goes 139 = .ok (.goto (-94), 3) := by decide +kernel
theorem dX12_goes_142 : decode cX12_goes 142 = .ok (.iconst 0, 1) := by decide +kernel
theorem dX12_goes_143 : decode cX12_goes 143 = .ok (.istore_n 3, 1) := by decide +kernel
theorem dX12_goes_144 : decode cX12_goes 144 = .ok (.iload_n 3, 1) := by decide +kernel
theorem dX12_goes_145 : decode cX12_goes 145 = .ok (.iload_n 2, 1) := by decide +kernel
theorem dX12_goes_146 : decode cX12_goes 146 = .ok (.if_icmp .ge 57, 3) := by decide +kernel
theorem dX12_goes_149 : decode cX12_goes 149 = .ok (.iload_n 3, 1) := by decide +kernel
theorem dX12_goes_150 : decode cX12_goes 150 = .ok (.istore 4, 2) := by decide +kernel
theorem dX12_goes_152 : decode cX12_goes 152 = .ok (.aload_n 0, 1) := by decide +kernel
theorem dX12_goes_153 : decode cX12_goes 153 = .ok (.getfield 65, 3) := by decide +kernel
theorem dX12_goes_156 : decode cX12_goes 156 = .ok (.iload_n 3, 1) := by decide +kernel
theorem dX12_goes_157 : decode cX12_goes 157 = .ok (.baload, 1) := by decide +kernel
theorem dX12_goes_158 : decode cX12_goes 158 = .ok (.ifCond .eq 29, 3) := by decide +kernel
theorem dX12_goes_161 : decode cX12_goes 161 = .ok (.iload 4, 2) := by decide +kernel
theorem dX12_goes_163 : decode cX12_goes 163 = .ok (.iconst 1, 1) := by decide +kernel
theorem dX12_goes_164 : decode cX12_goes 164 = .ok (.iadd, 1) := by decide +kernel
theorem dX12_goes_165 : decode cX12_goes 165 = .ok (.iload_n 2, 1) := by decide +kernel
theorem dX12_goes_166 : decode cX12_goes 166 = .ok (.if_icmp .ge 21, 3) := by decide +kernel
theorem dX12_goes_169 : decode cX12_goes 169 = .ok (.aload_n 0, 1) := by decide +kernel
theorem dX12_goes_170 : decode cX12_goes 170 = .ok (.getfield 65, 3) := by decide +kernel
theorem dX12_goes_173 : decode cX12_goes 173 = .ok (.iload 4, 2) := by decide +kernel
theorem dX12_goes_175 : decode cX12_goes 175 = .ok (.iconst 1, 1) := by decide +kernel
theorem dX12_goes_176 : decode cX12_goes 176 = .ok (.iadd, 1) := by decide +kernel
theorem dX12_goes_177 : decode cX12_goes 177 = .ok (.baload, 1) := by decide +kernel
theorem dX12_goes_178 : decode cX12_goes 178 = .ok (.ifCond .eq 9, 3) := by decide +kernel
theorem dX12_goes_181 : decode cX12_goes 181 = .ok (.iinc 4 1, 3) := by decide +kernel
theorem dX12_goes_184 : decode cX12_goes 184 = .ok (.goto (-32), 3) := by decide +kernel
theorem dX12_goes_187 : decode cX12_goes 187 = .ok (.aload_n 0, 1) := by decide +kernel
theorem dX12_goes_188 : decode cX12_goes 188 = .ok (.iload_n 1, 1) := by decide +kernel
theorem dX12_goes_189 : decode cX12_goes 189 = .ok (.iload_n 3, 1) := by decide +kernel
theorem dX12_goes_190 : decode cX12_goes 190 = .ok (.iload 4, 2) := by decide +kernel
theorem dX12_goes_192 : decode cX12_goes 192 = .ok (.invokevirtual 278, 3) := by decide +kernel
theorem dX12_goes_195 : decode cX12_goes 195 = .ok (.iload 4, 2) := by decide +kernel
theorem dX12_goes_197 : decode cX12_goes 197 = .ok (.iconst 1, 1) := by decide +kernel
theorem dX12_goes_198 : decode cX12_goes 198 = .ok (.iadd, 1) := by decide +kernel
theorem dX12_goes_199 : decode cX12_goes 199 = .ok (.istore_n 3, 1) := by decide +kernel
theorem dX12_goes_200 : decode cX12_goes 200 = .ok (.goto (-56), 3) := by decide +kernel
theorem dX12_goes_203 : decode cX12_goes 203 = .ok (.aload_n 0, 1) := by decide +kernel
theorem dX12_goes_204 : decode cX12_goes 204 = .ok (.getfield 7, 3) := by decide +kernel
theorem dX12_goes_207 : decode cX12_goes 207 = .ok (.iconst 4, 1) := by decide +kernel
theorem dX12_goes_208 : decode cX12_goes 208 = .ok (.dup2, 1) := by decide +kernel
theorem dX12_goes_209 : decode cX12_goes 209 = .ok (.iaload, 1) := by decide +kernel
theorem dX12_goes_210 : decode cX12_goes 210 = .ok (.iconst 1, 1) := by decide +kernel
theorem dX12_goes_211 : decode cX12_goes 211 = .ok (.iadd, 1) := by decide +kernel
theorem dX12_goes_212 : decode cX12_goes 212 = .ok (.iastore, 1) := by decide +kernel
theorem dX12_goes_213 : decode cX12_goes 213 = .ok (.return_, 1) := by decide +kernel
theorem dX12_steps_0 : decode cX12_steps 0 = .ok (.iload_n 1, 1) := by decide +kernel
theorem dX12_steps_1 : decode cX12_steps 1 = .ok (.invokestatic 82, 3) := by decide +kernel
theorem dX12_steps_4 : decode cX12_steps 4 = .ok (.ifCond .eq 15, 3) := by decide +kernel
theorem dX12_steps_7 : decode cX12_steps 7 = .ok (.iload_n 2, 1) := by decide +kernel
theorem dX12_steps_8 : decode cX12_steps 8 = .ok (.i2l, 1) := by decide +kernel
theorem dX12_steps_9 : decode cX12_steps 9 = .ok (.lconst 1, 1) := by decide +kernel
theorem dX12_steps_10 : decode cX12_steps 10 = .ok (.ldc2_w 281, 3) := by decide +kernel
theorem dX12_steps_13 : decode cX12_steps 13 = .ok (.invokestatic 78, 3) := by decide +kernel
theorem dX12_steps_16 : decode cX12_steps 16 = .ok (.ifCond .ne 5, 3) := by decide +kernel
theorem dX12_steps_19 : decode cX12_steps 19 = .ok (.iconst (-1), 1) := by decide +kernel
theorem dX12_steps_20 : decode cX12_steps 20 = .ok (.ireturn, 1) := by decide +kernel
theorem dX12_steps_21 : decode cX12_steps 21 = .ok (.aload_n 0, 1) := by decide +kernel
theorem dX12_steps_22 : decode cX12_steps 22 = .ok (.invokevirtual 256, 3) := by decide +kernel
theorem dX12_steps_25 : decode cX12_steps 25 = .ok (.iconst 0, 1) := by decide +kernel
theorem dX12_steps_26 : decode cX12_steps 26 = .ok (.istore_n 3, 1) := by decide +kernel
theorem dX12_steps_27 : decode cX12_steps 27 = .ok (.iload_n 3, 1) := by decide +kernel
theorem dX12_steps_28 : decode cX12_steps 28 = .ok (.iload_n 2, 1) := by decide +kernel
theorem dX12_steps_29 : decode cX12_steps 29 = .ok (.if_icmp .ge 43, 3) := by decide +kernel
theorem dX12_steps_32 : decode cX12_steps 32 = .ok (.aload_n 0, 1) := by decide +kernel
theorem dX12_steps_33 : decode cX12_steps 33 = .ok (.getfield 7, 3) := by decide +kernel
theorem dX12_steps_36 : decode cX12_steps 36 = .ok (.iconst 4, 1) := by decide +kernel
theorem dX12_steps_37 : decode cX12_steps 37 = .ok (.iaload, 1) := by decide +kernel
theorem dX12_steps_38 : decode cX12_steps 38 = .ok (.sipush 300, 3) := by decide +kernel
theorem dX12_steps_41 : decode cX12_steps 41 = .ok (.if_icmp .ge 31, 3) := by decide +kernel
theorem dX12_steps_44 : decode cX12_steps 44 = .ok (.aload_n 0, 1) := by decide +kernel
theorem dX12_steps_45 : decode cX12_steps 45 = .ok (.iload_n 1, 1) := by decide +kernel
theorem dX12_steps_46 : decode cX12_steps 46 = .ok (.aload_n 0, 1) := by decide +kernel
theorem dX12_steps_47 : decode cX12_steps 47 = .ok (.getfield 7, 3) := by decide +kernel
theorem dX12_steps_50 : decode cX12_steps 50 = .ok (.bipush 8, 2) := by decide +kernel
theorem dX12_steps_52 : decode cX12_steps 52 = .ok (.iload_n 1, 1) := by decide +kernel
theorem dX12_steps_53 : decode cX12_steps 53 = .ok (.iadd, 1) := by decide +kernel
theorem dX12_steps_54 : decode cX12_steps 54 = .ok (.iaload, 1) := by decide +kernel
theorem dX12_steps_55 : decode cX12_steps 55 = .ok (.invokevirtual 259, 3) := by decide +kernel
theorem dX12_steps_58 : decode cX12_steps 58 = .ok (.ifCond .eq 14, 3) := by decide +kernel
theorem dX12_steps_61 : decode cX12_steps 61 = .ok (.aload_n 0, 1) := by decide +kernel
theorem dX12_steps_62 : decode cX12_steps 62 = .ok (.iload_n 1, 1) := by decide +kernel
theorem dX12_steps_63 : decode cX12_steps 63 = .ok (.invokevirtual 283, 3) := by decide +kernel
theorem dX12_steps_66 : decode cX12_steps 66 = .ok (.iinc 3 1, 3) := by decide +kernel
theorem dX12_steps_69 : decode cX12_steps 69 = .ok (.goto (-42), 3) := by decide +kernel
theorem dX12_steps_72 : decode cX12_steps 72 = .ok (.iload_n 3, 1) := by decide +kernel
theorem dX12_steps_73 : decode cX12_steps 73 = .ok (.ireturn, 1) := by decide +kernel
theorem dX12_event_0 : decode cX12_event 0 = .ok (.iload_n 1, 1) := by decide +kernel
theorem dX12_event_1 : decode cX12_event 1 = .ok (.i2l, 1) := by decide +kernel
theorem dX12_event_2 : decode cX12_event 2 = .ok (.lconst 0, 1) := by decide +kernel
theorem dX12_event_3 : decode cX12_event 3 = .ok (.aload_n 0, 1) := by decide +kernel
theorem dX12_event_4 : decode cX12_event 4 = .ok (.getfield 7, 3) := by decide +kernel
theorem dX12_event_7 : decode cX12_event 7 = .ok (.iconst 5, 1) := by decide +kernel
theorem dX12_event_8 : decode cX12_event 8 = .ok (.iaload, 1) := by decide +kernel
theorem dX12_event_9 : decode cX12_event 9 = .ok (.iconst 1, 1) := by decide +kernel
theorem dX12_event_10 : decode cX12_event 10 = .ok (.isub, 1) := by decide +kernel
theorem dX12_event_11 : decode cX12_event 11 = .ok (.i2l, 1) := by decide +kernel
theorem dX12_event_12 : decode cX12_event 12 = .ok (.invokestatic 78, 3) := by decide +kernel
theorem dX12_event_15 : decode cX12_event 15 = .ok (.ifCond .eq 32, 3) := by decide +kernel
theorem dX12_event_18 : decode cX12_event 18 = .ok (.iload_n 2, 1) := by decide +kernel
theorem dX12_event_19 : decode cX12_event 19 = .ok (.i2l, 1) := by decide +kernel
theorem dX12_event_20 : decode cX12_event 20 = .ok (.lconst 0, 1) := by decide +kernel
theorem dX12_event_21 : decode cX12_event 21 = .ok (.ldc2_w 169, 3) := by decide +kernel
theorem dX12_event_24 : decode cX12_event 24 = .ok (.invokestatic 78, 3) := by decide +kernel
theorem dX12_event_27 : decode cX12_event 27 = .ok (.ifCond .eq 20, 3) := by decide +kernel
theorem dX12_event_30 : decode cX12_event 30 = .ok (.aload_n 0, 1) := by decide +kernel
theorem dX12_event_31 : decode cX12_event 31 = .ok (.getfield 7, 3) := by decide +kernel
theorem dX12_event_34 : decode cX12_event 34 = .ok (.sipush 400, 3) := by decide +kernel
theorem dX12_event_37 : decode cX12_event 37 = .ok (.iconst 5, 1) := by decide +kernel
theorem dX12_event_38 : decode cX12_event 38 = .ok (.iload_n 1, 1) := by decide +kernel
theorem dX12_event_39 : decode cX12_event 39 = .ok (.imul, 1) := by decide +kernel
theorem dX12_event_40 : decode cX12_event 40 = .ok (.iadd, 1) := by decide +kernel
theorem dX12_event_41 : decode cX12_event 41 = .ok (.iload_n 2, 1) := by decide +kernel
theorem dX12_event_42 : decode cX12_event 42 = .ok (.iadd, 1) := by decide +kernel
theorem dX12_event_43 : decode cX12_event 43 = .ok (.iaload, 1) := by decide +kernel
theorem dX12_event_44 : decode cX12_event 44 = .ok (.goto 4, 3) := by decide +kernel
theorem dX12_event_47 : decode cX12_event 47 = .ok (.iconst (-1), 1) := by decide +kernel
theorem dX12_event_48 : decode cX12_event 48 = .ok (.ireturn, 1) := by decide +kernel
theorem dX12_hand_0 : decode cX12_hand 0 = .ok (.iload_n 1, 1) := by decide +kernel
theorem dX12_hand_1 : decode cX12_hand 1 = .ok (.invokestatic 82, 3) := by decide +kernel
theorem dX12_hand_4 : decode cX12_hand 4 = .ok (.ifCond .eq 33, 3) := by decide +kernel
theorem dX12_hand_7 : decode cX12_hand 7 = .ok (.iload_n 2, 1) := by decide +kernel
theorem dX12_hand_8 : decode cX12_hand 8 = .ok (.i2l, 1) := by decide +kernel
theorem dX12_hand_9 : decode cX12_hand 9 = .ok (.lconst 1, 1) := by decide +kernel
theorem dX12_hand_10 : decode cX12_hand 10 = .ok (.ldc2_w 222, 3) := by decide +kernel
theorem dX12_hand_13 : decode cX12_hand 13 = .ok (.invokestatic 78, 3) := by decide +kernel
theorem dX12_hand_16 : decode cX12_hand 16 = .ok (.ifCond .eq 21, 3) := by decide +kernel
theorem dX12_hand_19 : decode cX12_hand 19 = .ok (.aload_n 0, 1) := by decide +kernel
theorem dX12_hand_20 : decode cX12_hand 20 = .ok (.getfield 7, 3) := by decide +kernel
theorem dX12_hand_23 : decode cX12_hand 23 = .ok (.iconst 2, 1) := by decide +kernel
theorem dX12_hand_24 : decode cX12_hand 24 = .ok (.iaload, 1) := by decide +kernel
theorem dX12_hand_25 : decode cX12_hand 25 = .ok (.ifCond .eq 12, 3) := by decide +kernel
theorem dX12_hand_28 : decode cX12_hand 28 = .ok (.aload_n 0, 1) := by decide +kernel
theorem dX12_hand_29 : decode cX12_hand 29 = .ok (.getfield 7, 3) := by decide +kernel
theorem dX12_hand_32 : decode cX12_hand 32 = .ok (.iconst 3, 1) := by decide +kernel
theorem dX12_hand_33 : decode cX12_hand 33 = .ok (.iaload, 1) := by decide +kernel
theorem dX12_hand_34 : decode cX12_hand 34 = .ok (.ifCond .ne 5, 3) := by decide +kernel
theorem dX12_hand_37 : decode cX12_hand 37 = .ok (.iconst 0, 1) := by decide +kernel
theorem dX12_hand_38 : decode cX12_hand 38 = .ok (.ireturn, 1) := by decide +kernel
theorem dX12_hand_39 : decode cX12_hand 39 = .ok (.iconst 1, 1) := by decide +kernel
theorem dX12_hand_40 : decode cX12_hand 40 = .ok (.iload_n 1, 1) := by decide +kernel
theorem dX12_hand_41 : decode cX12_hand 41 = .ok (.isub, 1) := by decide +kernel
theorem dX12_hand_42 : decode cX12_hand 42 = .ok (.istore_n 3, 1) := by decide +kernel
theorem dX12_hand_43 : decode cX12_hand 43 = .ok (.aload_n 0, 1) := by decide +kernel
theorem dX12_hand_44 : decode cX12_hand 44 = .ok (.getfield 7, 3) := by decide +kernel
theorem dX12_hand_47 : decode cX12_hand 47 = .ok (.iconst 2, 1) := by decide +kernel
theorem dX12_hand_48 : decode cX12_hand 48 = .ok (.iload_n 1, 1) := by decide +kernel
theorem dX12_hand_49 : decode cX12_hand 49 = .ok (.iadd, 1) := by decide +kernel
theorem dX12_hand_50 : decode cX12_hand 50 = .ok (.iaload, 1) := by decide +kernel
theorem dX12_hand_51 : decode cX12_hand 51 = .ok (.iconst 1, 1) := by decide +kernel
theorem dX12_hand_52 : decode cX12_hand 52 = .ok (.isub, 1) := by decide +kernel
theorem dX12_hand_53 : decode cX12_hand 53 = .ok (.istore 4, 2) := by decide +kernel
theorem dX12_hand_55 : decode cX12_hand 55 = .ok (.aload_n 0, 1) := by decide +kernel
theorem dX12_hand_56 : decode cX12_hand 56 = .ok (.getfield 7, 3) := by decide +kernel
theorem dX12_hand_59 : decode cX12_hand 59 = .ok (.iconst 2, 1) := by decide +kernel
theorem dX12_hand_60 : decode cX12_hand 60 = .ok (.iload_n 3, 1) := by decide +kernel
theorem dX12_hand_61 : decode cX12_hand 61 = .ok (.iadd, 1) := by decide +kernel
theorem dX12_hand_62 : decode cX12_hand 62 = .ok (.iaload, 1) := by decide +kernel
theorem dX12_hand_63 : decode cX12_hand 63 = .ok (.iconst 1, 1) := by decide +kernel
theorem dX12_hand_64 : decode cX12_hand 64 = .ok (.isub, 1) := by decide +kernel
theorem dX12_hand_65 : decode cX12_hand 65 = .ok (.istore 5, 2) := by decide +kernel
theorem dX12_hand_67 : decode cX12_hand 67 = .ok (.iload_n 2, 1) := by decide +kernel
theorem dX12_hand_68 : decode cX12_hand 68 = .ok (.istore 6, 2) := by decide +kernel
theorem dX12_hand_70 : decode cX12_hand 70 = .ok (.iconst 1, 1) := by decide +kernel
theorem dX12_hand_71 : decode cX12_hand 71 = .ok (.istore 7, 2) := by decide +kernel
theorem dX12_hand_73 : decode cX12_hand 73 = .ok (.iconst 0, 1) := by decide +kernel
theorem dX12_hand_74 : decode cX12_hand 74 = .ok (.istore 8, 2) := by decide +kernel
theorem dX12_hand_76 : decode cX12_hand 76 = .ok (.iload 8, 2) := by decide +kernel
theorem dX12_hand_78 : decode cX12_hand 78 = .ok (.bipush 6, 2) := by decide +kernel
theorem dX12_hand_80 : decode cX12_hand 80 = .ok (.if_icmp .ge 76, 3) := by decide +kernel
theorem dX12_hand_83 : decode cX12_hand 83 = .ok (.aload_n 0, 1) := by decide +kernel
theorem dX12_hand_84 : decode cX12_hand 84 = .ok (.iload_n 1, 1) := by decide +kernel
theorem dX12_hand_85 : decode cX12_hand 85 = .ok (.iload 4, 2) := by decide +kernel
theorem dX12_hand_87 : decode cX12_hand 87 = .ok (.iload 8, 2) := by decide +kernel
theorem dX12_hand_89 : decode cX12_hand 89 = .ok (.invokevirtual 228, 3) := by decide +kernel
theorem dX12_hand_92 : decode cX12_hand 92 = .ok (.iload 6, 2) := by decide +kernel
theorem dX12_hand_94 : decode cX12_hand 94 = .ok (.if_icmp .ge 15, 3) := by decide +kernel
theorem dX12_hand_97 : decode cX12_hand 97 = .ok (.aload_n 0, 1) := by decide +kernel
theorem dX12_hand_98 : decode cX12_hand 98 = .ok (.iload_n 1, 1) := by decide +kernel
theorem dX12_hand_99 : decode cX12_hand 99 = .ok (.iload 4, 2) := by decide +kernel
theorem dX12_hand_101 : decode cX12_hand 101 = .ok (.iload 8, 2) := by decide +kernel
theorem dX12_hand_103 : decode cX12_hand 103 = .ok (.invokevirtual 228, 3) := by decide +kernel
theorem dX12_hand_106 : decode cX12_hand 106 = .ok (.goto 5, 3) := by decide +kernel
theorem dX12_hand_109 : decode cX12_hand 109 = .ok (.iload 6, 2) := by decide +kernel
theorem dX12_hand_111 : decode cX12_hand 111 = .ok (.istore 9, 2) := by decide +kernel
theorem dX12_hand_113 : decode cX12_hand 113 = .ok (.iload 7, 2) := by decide +kernel
theorem dX12_hand_115 : decode cX12_hand 115 = .ok (.ifCond .eq 25, 3) := by decide +kernel
theorem dX12_hand_118 : decode cX12_hand 118 = .ok (.aload_n 0, 1) := by decide +kernel
theorem dX12_hand_119 : decode cX12_hand 119 = .ok (.iload_n 3, 1) := by decide +kernel
theorem dX12_hand_120 : decode cX12_hand 120 = .ok (.iload 5, 2) := by decide +kernel
theorem dX12_hand_122 : decode cX12_hand 122 = .ok (.iload 8, 2) := by decide +kernel
theorem dX12_hand_124 : decode cX12_hand 124 = .ok (.invokevirtual 228, 3) := by decide +kernel
theorem dX12_hand_127 : decode cX12_hand 127 = .ok (.iload 9, 2) := by decide +kernel
theorem dX12_hand_129 : decode cX12_hand 129 = .ok (.iadd, 1) := by decide +kernel
theorem dX12_hand_130 : decode cX12_hand 130 = .ok (.ldc_w 267, 3) := by decide +kernel
theorem dX12_hand_133 : decode cX12_hand 133 = .ok (.if_icmp .gt 7, 3) := by decide +kernel
theorem dX12_hand_136 : decode cX12_hand 136 = .ok (.iconst 1, 1) := by decide +kernel
theorem dX12_hand_137 : decode cX12_hand 137 = .ok (.goto 4, 3) := by decide +kernel
theorem dX12_hand_140 : decode cX12_hand 140 = .ok (.iconst 0, 1) := by decide +kernel
theorem dX12_hand_141 : decode cX12_hand 141 = .ok (.istore 7, 2) := by decide +kernel
theorem dX12_hand_143 : decode cX12_hand 143 = .ok (.iload 6, 2) := by decide +kernel
theorem dX12_hand_145 : decode cX12_hand 145 = .ok (.iload 9, 2) := by decide +kernel
theorem dX12_hand_147 : decode cX12_hand 147 = .ok (.isub, 1) := by decide +kernel
theorem dX12_hand_148 : decode cX12_hand 148 = .ok (.istore 6, 2) := by decide +kernel
theorem dX12_hand_150 : decode cX12_hand 150 = .ok (.iinc 8 1, 3) := by decide +kernel
theorem dX12_hand_153 : decode cX12_hand 153 = .ok (.goto (-77), 3) := by decide +kernel
theorem dX12_hand_156 : decode cX12_hand 156 = .ok (.iload 7, 2) := by decide +kernel
theorem dX12_hand_158 : decode cX12_hand 158 = .ok (.ifCond .eq 8, 3) := by decide +kernel
theorem dX12_hand_161 : decode cX12_hand 161 = .ok (.iload 6, 2) := by decide +kernel
theorem dX12_hand_163 : decode cX12_hand 163 = .ok (.ifCond .le 5, 3) := by decide +kernel
theorem dX12_hand_166 : decode cX12_hand 166 = .ok (.iconst 0, 1) := by decide +kernel
theorem dX12_hand_167 : decode cX12_hand 167 = .ok (.ireturn, 1) := by decide +kernel
theorem dX12_hand_168 : decode cX12_hand 168 = .ok (.iload_n 2, 1) := by decide +kernel
theorem dX12_hand_169 : decode cX12_hand 169 = .ok (.istore 6, 2) := by decide +kernel
theorem dX12_hand_171 : decode cX12_hand 171 = .ok (.iconst 0, 1) := by decide +kernel
theorem dX12_hand_172 : decode cX12_hand 172 = .ok (.istore 8, 2) := by decide +kernel
theorem dX12_hand_174 : decode cX12_hand 174 = .ok (.iload 8, 2) := by decide +kernel
theorem dX12_hand_176 : decode cX12_hand 176 = .ok (.bipush 6, 2) := by decide +kernel
theorem dX12_hand_178 : decode cX12_hand 178 = .ok (.if_icmp .ge 88, 3) := by decide +kernel
theorem dX12_hand_181 : decode cX12_hand 181 = .ok (.aload_n 0, 1) := by decide +kernel
theorem dX12_hand_182 : decode cX12_hand 182 = .ok (.iload_n 1, 1) := by decide +kernel
theorem dX12_hand_183 : decode cX12_hand 183 = .ok (.iload 4, 2) := by decide +kernel
theorem dX12_hand_185 : decode cX12_hand 185 = .ok (.iload 8, 2) := by decide +kernel
theorem dX12_hand_187 : decode cX12_hand 187 = .ok (.invokevirtual 228, 3) := by decide +kernel
theorem dX12_hand_190 : decode cX12_hand 190 = .ok (.iload 6, 2) := by decide +kernel
theorem dX12_hand_192 : decode cX12_hand 192 = .ok (.if_icmp .ge 15, 3) := by decide +kernel
theorem dX12_hand_195 : decode cX12_hand 195 = .ok (.aload_n 0, 1) := by decide +kernel
theorem dX12_hand_196 : decode cX12_hand 196 = .ok (.iload_n 1, 1) := by decide +kernel
theorem dX12_hand_197 : decode cX12_hand 197 = .ok (.iload 4, 2) := by decide +kernel
theorem dX12_hand_199 : decode cX12_hand 199 = .ok (.iload 8, 2) := by decide +kernel
theorem dX12_hand_201 : decode cX12_hand 201 = .ok (.invokevirtual 228, 3) := by decide +kernel
theorem dX12_hand_204 : decode cX12_hand 204 = .ok (.goto 5, 3) := by decide +kernel
theorem dX12_hand_207 : decode cX12_hand 207 = .ok (.iload 6, 2) := by decide +kernel
theorem dX12_hand_209 : decode cX12_hand 209 = .ok (.istore 9, 2) := by decide +kernel
theorem dX12_hand_211 : decode cX12_hand 211 = .ok (.aload_n 0, 1) := by decide +kernel
theorem dX12_hand_212 : decode cX12_hand 212 = .ok (.iload_n 1, 1) := by decide +kernel
theorem dX12_hand_213 : decode cX12_hand 213 = .ok (.iload 4, 2) := by decide +kernel
theorem dX12_hand_215 : decode cX12_hand 215 = .ok (.iload 8, 2) := by decide +kernel
theorem dX12_hand_217 : decode cX12_hand 217 = .ok (.aload_n 0, 1) := by decide +kernel
theorem dX12_hand_218 : decode cX12_hand 218 = .ok (.iload_n 1, 1) := by decide +kernel
theorem dX12_hand_219 : decode cX12_hand 219 = .ok (.iload 4, 2) := by decide +kernel
theorem dX12_hand_221 : decode cX12_hand 221 = .ok (.iload 8, 2) := by decide +kernel
theorem dX12_hand_223 : decode cX12_hand 223 = .ok (.invokevirtual 228, 3) := by decide +kernel
theorem dX12_hand_226 : decode cX12_hand 226 = .ok (.iload 9, 2) := by decide +kernel
theorem dX12_hand_228 : decode cX12_hand 228 = .ok (.isub, 1) := by decide +kernel
theorem dX12_hand_229 : decode cX12_hand 229 = .ok (.invokevirtual 224, 3) := by decide +kernel
theorem dX12_hand_232 : decode cX12_hand 232 = .ok (.aload_n 0, 1) := by decide +kernel
theorem dX12_hand_233 : decode cX12_hand 233 = .ok (.iload_n 3, 1) := by decide +kernel
theorem dX12_hand_234 : decode cX12_hand 234 = .ok (.iload 5, 2) := by decide +kernel
theorem dX12_hand_236 : decode cX12_hand 236 = .ok (.iload 8, 2) := by decide +kernel
theorem dX12_hand_238 : decode cX12_hand 238 = .ok (.aload_n 0, 1) := by decide +kernel
theorem dX12_hand_239 : decode cX12_hand 239 = .ok (.iload_n 3, 1) := by decide +kernel
theorem dX12_hand_240 : decode cX12_hand 240 = .ok (.iload 5, 2) := by decide +kernel
theorem dX12_hand_242 : decode cX12_hand 242 = .ok (.iload 8, 2) := by decide +kernel
theorem dX12_hand_244 : decode cX12_hand 244 = .ok (.invokevirtual 228, 3) := by decide +kernel
theorem dX12_hand_247 : decode cX12_hand 247 = .ok (.iload 9, 2) := by decide +kernel
theorem dX12_hand_249 : decode cX12_hand 249 = .ok (.iadd, 1) := by decide +kernel
theorem dX12_hand_250 : decode cX12_hand 250 = .ok (.invokevirtual 224, 3) := by decide +kernel
theorem dX12_hand_253 : decode cX12_hand 253 = .ok (.iload 6, 2) := by decide +kernel
theorem dX12_hand_255 : decode cX12_hand 255 = .ok (.iload 9, 2) := by decide +kernel
theorem dX12_hand_257 : decode cX12_hand 257 = .ok (.isub, 1) := by decide +kernel
theorem dX12_hand_258 : decode cX12_hand 258 = .ok (.istore 6, 2) := by decide +kernel
theorem dX12_hand_260 : decode cX12_hand 260 = .ok (.iinc 8 1, 3) := by decide +kernel
theorem dX12_hand_263 : decode cX12_hand 263 = .ok (.goto (-89), 3) := by decide +kernel
theorem dX12_hand_266 : decode cX12_hand 266 = .ok (.iconst 1, 1) := by decide +kernel
theorem dX12_hand_267 : decode cX12_hand 267 = .ok (.ireturn, 1) := by decide +kernel
theorem dX12_light_0 : decode cX12_light 0 = .ok (.aload_n 0, 1) := by decide +kernel
theorem dX12_light_1 : decode cX12_light 1 = .ok (.iload_n 1, 1) := by decide +kernel
theorem dX12_light_2 : decode cX12_light 2 = .ok (.iload_n 2, 1) := by decide +kernel
theorem dX12_light_3 : decode cX12_light 3 = .ok (.invokevirtual 218, 3) := by decide +kernel
theorem dX12_light_6 : decode cX12_light 6 = .ok (.ifCond .eq 33, 3) := by decide +kernel
theorem dX12_light_9 : decode cX12_light 9 = .ok (.iload_n 3, 1) := by decide +kernel
theorem dX12_light_10 : decode cX12_light 10 = .ok (.i2l, 1) := by decide +kernel
theorem dX12_light_11 : decode cX12_light 11 = .ok (.lconst 0, 1) := by decide +kernel
theorem dX12_light_12 : decode cX12_light 12 = .ok (.ldc2_w 169, 3) := by decide +kernel
theorem dX12_light_15 : decode cX12_light 15 = .ok (.invokestatic 78, 3) := by decide +kernel
theorem dX12_light_18 : decode cX12_light 18 = .ok (.ifCond .eq 21, 3) := by decide +kernel
theorem dX12_light_21 : decode cX12_light 21 = .ok (.aload_n 0, 1) := by decide +kernel
theorem dX12_light_22 : decode cX12_light 22 = .ok (.getfield 16, 3) := by decide +kernel
theorem dX12_light_25 : decode cX12_light 25 = .ok (.bipush 80, 2) := by decide +kernel
theorem dX12_light_27 : decode cX12_light 27 = .ok (.iload_n 1, 1) := by decide +kernel
theorem dX12_light_28 : decode cX12_light 28 = .ok (.imul, 1) := by decide +kernel
theorem dX12_light_29 : decode cX12_light 29 = .ok (.iconst 5, 1) := by decide +kernel
theorem dX12_light_30 : decode cX12_light 30 = .ok (.iload_n 2, 1) := by decide +kernel
theorem dX12_light_31 : decode cX12_light 31 = .ok (.imul, 1) := by decide +kernel
theorem dX12_light_32 : decode cX12_light 32 = .ok (.iadd, 1) := by decide +kernel
theorem dX12_light_33 : decode cX12_light 33 = .ok (.iload_n 3, 1) := by decide +kernel
theorem dX12_light_34 : decode cX12_light 34 = .ok (.iadd, 1) := by decide +kernel
theorem dX12_light_35 : decode cX12_light 35 = .ok (.laload, 1) := by decide +kernel
theorem dX12_light_36 : decode cX12_light 36 = .ok (.goto 6, 3) := by decide +kernel
theorem dX12_light_39 : decode cX12_light 39 = .ok (.ldc2_w 265, 3) := by decide +kernel
theorem dX12_light_42 : decode cX12_light 42 = .ok (.lreturn, 1) := by decide +kernel
theorem dX12_sheet_0 : decode cX12_sheet 0 = .ok (.iload_n 1, 1) := by decide +kernel
theorem dX12_sheet_1 : decode cX12_sheet 1 = .ok (.invokestatic 82, 3) := by decide +kernel
theorem dX12_sheet_4 : decode cX12_sheet 4 = .ok (.ifCond .ne 5, 3) := by decide +kernel
theorem dX12_sheet_7 : decode cX12_sheet 7 = .ok (.iconst 0, 1) := by decide +kernel
theorem dX12_sheet_8 : decode cX12_sheet 8 = .ok (.ireturn, 1) := by decide +kernel
theorem dX12_sheet_9 : decode cX12_sheet 9 = .ok (.aload_n 0, 1) := by decide +kernel
theorem dX12_sheet_10 : decode cX12_sheet 10 = .ok (.iload_n 1, 1) := by decide +kernel
theorem dX12_sheet_11 : decode cX12_sheet 11 = .ok (.putfield 26, 3) := by decide +kernel
theorem dX12_sheet_14 : decode cX12_sheet 14 = .ok (.iconst 0, 1) := by decide +kernel
theorem dX12_sheet_15 : decode cX12_sheet 15 = .ok (.istore_n 2, 1) := by decide +kernel
theorem dX12_sheet_16 : decode cX12_sheet 16 = .ok (.iload_n 2, 1) := by decide +kernel
theorem dX12_sheet_17 : decode cX12_sheet 17 = .ok (.bipush 80, 2) := by decide +kernel
theorem dX12_sheet_19 : decode cX12_sheet 19 = .ok (.if_icmp .ge 26, 3) := by decide +kernel
theorem dX12_sheet_22 : decode cX12_sheet 22 = .ok (.aload_n 0, 1) := by decide +kernel
theorem dX12_sheet_23 : decode cX12_sheet 23 = .ok (.getfield 23, 3) := by decide +kernel
theorem dX12_sheet_26 : decode cX12_sheet 26 = .ok (.iload_n 2, 1) := by decide +kernel
theorem dX12_sheet_27 : decode cX12_sheet 27 = .ok (.aload_n 0, 1) := by decide +kernel
theorem dX12_sheet_28 : decode cX12_sheet 28 = .ok (.getfield 16, 3) := by decide +kernel
theorem dX12_sheet_31 : decode cX12_sheet 31 = .ok (.bipush 80, 2) := by decide +kernel
theorem dX12_sheet_33 : decode cX12_sheet 33 = .ok (.iload_n 1, 1) := by decide +kernel
theorem dX12_sheet_34 : decode cX12_sheet 34 = .ok (.imul, 1) := by decide +kernel
theorem dX12_sheet_35 : decode cX12_sheet 35 = .ok (.iload_n 2, 1) := by decide +kernel
theorem dX12_sheet_36 : decode cX12_sheet 36 = .ok (.iadd, 1) := by decide +kernel
theorem dX12_sheet_37 : decode cX12_sheet 37 = .ok (.laload, 1) := by decide +kernel
theorem dX12_sheet_38 : decode cX12_sheet 38 = .ok (.lastore, 1) := by decide +kernel
theorem dX12_sheet_39 : decode cX12_sheet 39 = .ok (.iinc 2 1, 3) := by decide +kernel
theorem dX12_sheet_42 : decode cX12_sheet 42 = .ok (.goto (-26), 3) := by decide +kernel
theorem dX12_sheet_45 : decode cX12_sheet 45 = .ok (.iconst 1, 1) := by decide +kernel
theorem dX12_sheet_46 : decode cX12_sheet 46 = .ok (.ireturn, 1) := by decide +kernel
theorem dX12_alter_0 : decode cX12_alter 0 = .ok (.aload_n 0, 1) := by decide +kernel
theorem dX12_alter_1 : decode cX12_alter 1 = .ok (.getfield 26, 3) := by decide +kernel
theorem dX12_alter_4 : decode cX12_alter 4 = .ok (.ifCond .lt 33, 3) := by decide +kernel
theorem dX12_alter_7 : decode cX12_alter 7 = .ok (.iload_n 1, 1) := by decide +kernel
theorem dX12_alter_8 : decode cX12_alter 8 = .ok (.i2l, 1) := by decide +kernel
theorem dX12_alter_9 : decode cX12_alter 9 = .ok (.lconst 0, 1) := by decide +kernel
theorem dX12_alter_10 : decode cX12_alter 10 = .ok (.ldc2_w 286, 3) := by decide +kernel
theorem dX12_alter_13 : decode cX12_alter 13 = .ok (.invokestatic 78, 3) := by decide +kernel
theorem dX12_alter_16 : decode cX12_alter 16 = .ok (.ifCond .eq 21, 3) := by decide +kernel
theorem dX12_alter_19 : decode cX12_alter 19 = .ok (.iload_n 2, 1) := by decide +kernel
theorem dX12_alter_20 : decode cX12_alter 20 = .ok (.i2l, 1) := by decide +kernel
theorem dX12_alter_21 : decode cX12_alter 21 = .ok (.lconst 0, 1) := by decide +kernel
theorem dX12_alter_22 : decode cX12_alter 22 = .ok (.ldc2_w 169, 3) := by decide +kernel
theorem dX12_alter_25 : decode cX12_alter 25 = .ok (.invokestatic 78, 3) := by decide +kernel
theorem dX12_alter_28 : decode cX12_alter 28 = .ok (.ifCond .eq 9, 3) := by decide +kernel
theorem dX12_alter_31 : decode cX12_alter 31 = .ok (.lload_n 3, 1) := by decide +kernel
theorem dX12_alter_32 : decode cX12_alter 32 = .ok (.lconst 0, 1) := by decide +kernel
theorem dX12_alter_33 : decode cX12_alter 33 = .ok (.lcmp, 1) := by decide +kernel
theorem dX12_alter_34 : decode cX12_alter 34 = .ok (.ifCond .ne 5, 3) := by decide +kernel
theorem dX12_alter_37 : decode cX12_alter 37 = .ok (.iconst 0, 1) := by decide +kernel
theorem dX12_alter_38 : decode cX12_alter 38 = .ok (.ireturn, 1) := by decide +kernel
theorem dX12_alter_39 : decode cX12_alter 39 = .ok (.aload_n 0, 1) := by decide +kernel
theorem dX12_alter_40 : decode cX12_alter 40 = .ok (.getfield 23, 3) := by decide +kernel
theorem dX12_alter_43 : decode cX12_alter 43 = .ok (.iconst 5, 1) := by decide +kernel
theorem dX12_alter_44 : decode cX12_alter 44 = .ok (.iload_n 1, 1) := by decide +kernel
theorem dX12_alter_45 : decode cX12_alter 45 = .ok (.imul, 1) := by decide +kernel
theorem dX12_alter_46 : decode cX12_alter 46 = .ok (.iload_n 2, 1) := by decide +kernel
theorem dX12_alter_47 : decode cX12_alter 47 = .ok (.iadd, 1) := by decide +kernel
theorem dX12_alter_48 : decode cX12_alter 48 = .ok (.dup2, 1) := by decide +kernel
theorem dX12_alter_49 : decode cX12_alter 49 = .ok (.laload, 1) := by decide +kernel
theorem dX12_alter_50 : decode cX12_alter 50 = .ok (.lload_n 3, 1) := by decide +kernel
theorem dX12_alter_51 : decode cX12_alter 51 = .ok (.lxor, 1) := by decide +kernel
theorem dX12_alter_52 : decode cX12_alter 52 = .ok (.lastore, 1) := by decide +kernel
theorem dX12_alter_53 : decode cX12_alter 53 = .ok (.iconst 1, 1) := by decide +kernel
theorem dX12_alter_54 : decode cX12_alter 54 = .ok (.ireturn, 1) := by decide +kernel
theorem dX12_check_0 : decode cX12_check 0 = .ok (.aload_n 0, 1) := by decide +kernel
theorem dX12_check_1 : decode cX12_check 1 = .ok (.getfield 26, 3) := by decide +kernel
theorem dX12_check_4 : decode cX12_check 4 = .ok (.ifCond .lt 15, 3) := by decide +kernel
theorem dX12_check_7 : decode cX12_check 7 = .ok (.iload_n 1, 1) := by decide +kernel
theorem dX12_check_8 : decode cX12_check 8 = .ok (.i2l, 1) := by decide +kernel
theorem dX12_check_9 : decode cX12_check 9 = .ok (.lconst 0, 1) := by decide +kernel
theorem dX12_check_10 : decode cX12_check 10 = .ok (.ldc2_w 288, 3) := by decide +kernel
theorem dX12_check_13 : decode cX12_check 13 = .ok (.invokestatic 78, 3) := by decide +kernel
theorem dX12_check_16 : decode cX12_check 16 = .ok (.ifCond .ne 5, 3) := by decide +kernel
theorem dX12_check_19 : decode cX12_check 19 = .ok (.iconst (-1), 1) := by decide +kernel
theorem dX12_check_20 : decode cX12_check 20 = .ok (.ireturn, 1) := by decide +kernel
theorem dX12_check_21 : decode cX12_check 21 = .ok (.iconst 0, 1) := by decide +kernel
theorem dX12_check_22 : decode cX12_check 22 = .ok (.istore_n 2, 1) := by decide +kernel
theorem dX12_check_23 : decode cX12_check 23 = .ok (.iconst 0, 1) := by decide +kernel
theorem dX12_check_24 : decode cX12_check 24 = .ok (.istore_n 3, 1) := by decide +kernel
theorem dX12_check_25 : decode cX12_check 25 = .ok (.iconst 0, 1) := by decide +kernel
theorem dX12_check_26 : decode cX12_check 26 = .ok (.istore 4, 2) := by decide +kernel
theorem dX12_check_28 : decode cX12_check 28 = .ok (.iload 4, 2) := by decide +kernel
theorem dX12_check_30 : decode cX12_check 30 = .ok (.bipush 80, 2) := by decide +kernel
theorem dX12_check_32 : decode cX12_check 32 = .ok (.if_icmp .ge 41, 3) := by decide +kernel
theorem dX12_check_35 : decode cX12_check 35 = .ok (.aload_n 0, 1) := by decide +kernel
theorem dX12_check_36 : decode cX12_check 36 = .ok (.getfield 23, 3) := by decide +kernel
theorem dX12_check_39 : decode cX12_check 39 = .ok (.iload 4, 2) := by decide +kernel
theorem dX12_check_41 : decode cX12_check 41 = .ok (.laload, 1) := by decide +kernel
theorem dX12_check_42 : decode cX12_check 42 = .ok (.aload_n 0, 1) := by decide +kernel
theorem dX12_check_43 : decode cX12_check 43 = .ok (.getfield 16, 3) := by decide +kernel
theorem dX12_check_46 : decode cX12_check 46 = .ok (.bipush 80, 2) := by decide +kernel
theorem dX12_check_48 : decode cX12_check 48 = .ok (.aload_n 0, 1) := by decide +kernel
theorem dX12_check_49 : decode cX12_check 49 = .ok (.getfield 26, 3) := by decide +kernel
theorem dX12_check_52 : decode cX12_check 52 = .ok (.imul, 1) := by decide +kernel
theorem dX12_check_53 : decode cX12_check 53 = .ok (.iload 4, 2) := by decide +kernel
theorem dX12_check_55 : decode cX12_check 55 = .ok (.iadd, 1) := by decide +kernel
theorem dX12_check_56 : decode cX12_check 56 = .ok (.laload, 1) := by decide +kernel
theorem dX12_check_57 : decode cX12_check 57 = .ok (.lcmp, 1) := by decide +kernel
theorem dX12_check_58 : decode cX12_check 58 = .ok (.ifCond .eq 9, 3) := by decide +kernel
theorem dX12_check_61 : decode cX12_check 61 = .ok (.iinc 2 1, 3) := by decide +kernel
theorem dX12_check_64 : decode cX12_check 64 = .ok (.iload 4, 2) := by decide +kernel
theorem dX12_check_66 : decode cX12_check 66 = .ok (.istore_n 3, 1) := by decide +kernel
theorem dX12_check_67 : decode cX12_check 67 = .ok (.iinc 4 1, 3) := by decide +kernel
theorem dX12_check_70 : decode cX12_check 70 = .ok (.goto (-42), 3) := by decide +kernel
theorem dX12_check_73 : decode cX12_check 73 = .ok (.iload_n 1, 1) := by decide +kernel
theorem dX12_check_74 : decode cX12_check 74 = .ok (.ifCond .ne 7, 3) := by decide +kernel
theorem dX12_check_77 : decode cX12_check 77 = .ok (.iload_n 2, 1) := by decide +kernel
theorem dX12_check_78 : decode cX12_check 78 = .ok (.goto 26, 3) := by decide +kernel
theorem dX12_check_81 : decode cX12_check 81 = .ok (.iload_n 2, 1) := by decide +kernel
theorem dX12_check_82 : decode cX12_check 82 = .ok (.iconst 1, 1) := by decide +kernel
theorem dX12_check_83 : decode cX12_check 83 = .ok (.if_icmp .eq 7, 3) := by decide +kernel
theorem dX12_check_86 : decode cX12_check 86 = .ok (.iconst (-1), 1) := by decide +kernel
theorem dX12_check_87 : decode cX12_check 87 = .ok (.goto 17, 3) := by decide +kernel
theorem dX12_check_90 : decode cX12_check 90 = .ok (.iload_n 1, 1) := by decide +kernel
theorem dX12_check_91 : decode cX12_check 91 = .ok (.iconst 1, 1) := by decide +kernel
theorem dX12_check_92 : decode cX12_check 92 = .ok (.if_icmp .ne 9, 3) := by decide +kernel
theorem dX12_check_95 : decode cX12_check 95 = .ok (.iload_n 3, 1) := by decide +kernel
theorem dX12_check_96 : decode cX12_check 96 = .ok (.iconst 5, 1) := by decide +kernel
theorem dX12_check_97 : decode cX12_check 97 = .ok (.idiv, 1) := by decide +kernel
theorem dX12_check_98 : decode cX12_check 98 = .ok (.goto 6, 3) := by decide +kernel
theorem dX12_check_101 : decode cX12_check 101 = .ok (.iload_n 3, 1) := by decide +kernel
theorem dX12_check_102 : decode cX12_check 102 = .ok (.iconst 5, 1) := by decide +kernel
theorem dX12_check_103 : decode cX12_check 103 = .ok (.irem, 1) := by decide +kernel
theorem dX12_check_104 : decode cX12_check 104 = .ok (.ireturn, 1) := by decide +kernel
theorem dX12_isSung_0 : decode cX12_isSung 0 = .ok (.aload_n 0, 1) := by decide +kernel
theorem dX12_isSung_1 : decode cX12_isSung 1 = .ok (.getfield 7, 3) := by decide +kernel
theorem dX12_isSung_4 : decode cX12_isSung 4 = .ok (.iconst 2, 1) := by decide +kernel
theorem dX12_isSung_5 : decode cX12_isSung 5 = .ok (.iload_n 1, 1) := by decide +kernel
theorem dX12_isSung_6 : decode cX12_isSung 6 = .ok (.iadd, 1) := by decide +kernel
theorem dX12_isSung_7 : decode cX12_isSung 7 = .ok (.iaload, 1) := by decide +kernel
theorem dX12_isSung_8 : decode cX12_isSung 8 = .ok (.bipush 7, 2) := by decide +kernel
theorem dX12_isSung_10 : decode cX12_isSung 10 = .ok (.if_icmp .gt 7, 3) := by decide +kernel
theorem dX12_isSung_13 : decode cX12_isSung 13 = .ok (.iconst 1, 1) := by decide +kernel
theorem dX12_isSung_14 : decode cX12_isSung 14 = .ok (.goto 4, 3) := by decide +kernel
theorem dX12_isSung_17 : decode cX12_isSung 17 = .ok (.iconst 0, 1) := by decide +kernel
theorem dX12_isSung_18 : decode cX12_isSung 18 = .ok (.ireturn, 1) := by decide +kernel
theorem dX12_kOf_0 : decode cX12_kOf 0 = .ok (.iload_n 2, 1) := by decide +kernel
theorem dX12_kOf_1 : decode cX12_kOf 1 = .ok (.aload_n 0, 1) := by decide +kernel
theorem dX12_kOf_2 : decode cX12_kOf 2 = .ok (.getfield 7, 3) := by decide +kernel
theorem dX12_kOf_5 : decode cX12_kOf 5 = .ok (.iconst 2, 1) := by decide +kernel
theorem dX12_kOf_6 : decode cX12_kOf 6 = .ok (.iload_n 1, 1) := by decide +kernel
theorem dX12_kOf_7 : decode cX12_kOf 7 = .ok (.iadd, 1) := by decide +kernel
theorem dX12_kOf_8 : decode cX12_kOf 8 = .ok (.iaload, 1) := by decide +kernel
theorem dX12_kOf_9 : decode cX12_kOf 9 = .ok (.if_icmp .ge 15, 3) := by decide +kernel
theorem dX12_kOf_12 : decode cX12_kOf 12 = .ok (.aload_n 0, 1) := by decide +kernel
theorem dX12_kOf_13 : decode cX12_kOf 13 = .ok (.getfield 56, 3) := by decide +kernel
theorem dX12_kOf_16 : decode cX12_kOf 16 = .ok (.iload_n 2, 1) := by decide +kernel
theorem dX12_kOf_17 : decode cX12_kOf 17 = .ok (.iaload, 1) := by decide +kernel
theorem dX12_kOf_18 : decode cX12_kOf 18 = .ok (.bipush 10, 2) := by decide +kernel
theorem dX12_kOf_20 : decode cX12_kOf 20 = .ok (.idiv, 1) := by decide +kernel
theorem dX12_kOf_21 : decode cX12_kOf 21 = .ok (.goto 4, 3) := by decide +kernel
theorem dX12_kOf_24 : decode cX12_kOf 24 = .ok (.iconst 0, 1) := by decide +kernel
theorem dX12_kOf_25 : decode cX12_kOf 25 = .ok (.ireturn, 1) := by decide +kernel
theorem dX12_belowOf_0 : decode cX12_belowOf 0 = .ok (.iconst 0, 1) := by decide +kernel
theorem dX12_belowOf_1 : decode cX12_belowOf 1 = .ok (.istore_n 3, 1) := by decide +kernel
theorem dX12_belowOf_2 : decode cX12_belowOf 2 = .ok (.lconst 1, 1) := by decide +kernel
theorem dX12_belowOf_3 : decode cX12_belowOf 3 = .ok (.lstore 4, 2) := by decide +kernel
theorem dX12_belowOf_5 : decode cX12_belowOf 5 = .ok (.lconst 0, 1) := by decide +kernel
theorem dX12_belowOf_6 : decode cX12_belowOf 6 = .ok (.lstore 6, 2) := by decide +kernel
theorem dX12_belowOf_8 : decode cX12_belowOf 8 = .ok (.lconst 1, 1) := by decide +kernel
theorem dX12_belowOf_9 : decode cX12_belowOf 9 = .ok (.lstore 8, 2) := by decide +kernel
theorem dX12_belowOf_11 : decode cX12_belowOf 11 = .ok (.iconst 0, 1) := by decide +kernel
theorem dX12_belowOf_12 : decode cX12_belowOf 12 = .ok (.istore 10, 2) := by decide +kernel
theorem dX12_belowOf_14 : decode cX12_belowOf 14 = .ok (.iload 10, 2) := by decide +kernel
theorem dX12_belowOf_16 : decode cX12_belowOf 16 = .ok (.aload_n 0, 1) := by decide +kernel
theorem dX12_belowOf_17 : decode cX12_belowOf 17 = .ok (.getfield 7, 3) := by decide +kernel
theorem dX12_belowOf_20 : decode cX12_belowOf 20 = .ok (.iconst 2, 1) := by decide +kernel
theorem dX12_belowOf_21 : decode cX12_belowOf 21 = .ok (.iload_n 1, 1) := by decide +kernel
theorem dX12_belowOf_22 : decode cX12_belowOf 22 = .ok (.iadd, 1) := by decide +kernel
theorem dX12_belowOf_23 : decode cX12_belowOf 23 = .ok (.iaload, 1) := by decide +kernel
theorem dX12_belowOf_24 : decode cX12_belowOf 24 = .ok (.if_icmp .ge 140, 3) := by decide +kernel
theorem dX12_belowOf_27 : decode cX12_belowOf 27 = .ok (.iload 10, 2) := by decide +kernel
theorem dX12_belowOf_29 : decode cX12_belowOf 29 = .ok (.ifCond .ne 7, 3) := by decide +kernel
theorem dX12_belowOf_32 : decode cX12_belowOf 32 = .ok (.lconst 0, 1) := by decide +kernel
theorem dX12_belowOf_33 : decode cX12_belowOf 33 = .ok (.goto 11, 3) := by decide +kernel
theorem dX12_belowOf_36 : decode cX12_belowOf 36 = .ok (.aload_n 0, 1) := by decide +kernel
theorem dX12_belowOf_37 : decode cX12_belowOf 37 = .ok (.iload_n 1, 1) := by decide +kernel
theorem dX12_belowOf_38 : decode cX12_belowOf 38 = .ok (.iload 10, 2) := by decide +kernel
theorem dX12_belowOf_40 : decode cX12_belowOf 40 = .ok (.invokevirtual 290, 3) := by decide +kernel
theorem dX12_belowOf_43 : decode cX12_belowOf 43 = .ok (.i2l, 1) := by decide +kernel
theorem dX12_belowOf_44 : decode cX12_belowOf 44 = .ok (.lstore 11, 2) := by decide +kernel
theorem dX12_belowOf_46 : decode cX12_belowOf 46 = .ok (.lload 11, 2) := by decide +kernel
theorem dX12_belowOf_48 : decode cX12_belowOf 48 = .ok (.lconst 0, 1) := by decide +kernel
theorem dX12_belowOf_49 : decode cX12_belowOf 49 = .ok (.lcmp, 1) := by decide +kernel
theorem dX12_belowOf_50 : decode cX12_belowOf 50 = .ok (.ifCond .ne 12, 3) := by decide +kernel
theorem dX12_belowOf_53 : decode cX12_belowOf 53 = .ok (.lconst 1, 1) := by decide +kernel
theorem dX12_belowOf_54 : decode cX12_belowOf 54 = .ok (.lstore 4, 2) := by decide +kernel
theorem dX12_belowOf_56 : decode cX12_belowOf 56 = .ok (.lconst 0, 1) := by decide +kernel
theorem dX12_belowOf_57 : decode cX12_belowOf 57 = .ok (.lstore 6, 2) := by decide +kernel
theorem dX12_belowOf_59 : decode cX12_belowOf 59 = .ok (.lconst 1, 1) := by decide +kernel
theorem dX12_belowOf_60 : decode cX12_belowOf 60 = .ok (.lstore 8, 2) := by decide +kernel
theorem dX12_belowOf_62 : decode cX12_belowOf 62 = .ok (.aload_n 0, 1) := by decide +kernel
theorem dX12_belowOf_63 : decode cX12_belowOf 63 = .ok (.iload_n 1, 1) := by decide +kernel
theorem dX12_belowOf_64 : decode cX12_belowOf 64 = .ok (.iload 10, 2) := by decide +kernel
theorem dX12_belowOf_66 : decode cX12_belowOf 66 = .ok (.invokevirtual 290, 3) := by decide +kernel
theorem dX12_belowOf_69 : decode cX12_belowOf 69 = .ok (.aload_n 0, 1) := by decide +kernel
theorem dX12_belowOf_70 : decode cX12_belowOf 70 = .ok (.iload_n 1, 1) := by decide +kernel
theorem dX12_belowOf_71 : decode cX12_belowOf 71 = .ok (.iload 10, 2) := by decide +kernel
theorem dX12_belowOf_73 : decode cX12_belowOf 73 = .ok (.iconst 1, 1) := by decide +kernel
theorem dX12_belowOf_74 : decode cX12_belowOf 74 = .ok (.iadd, 1) := by decide +kernel
theorem dX12_belowOf_75 : decode cX12_belowOf 75 = .ok (.invokevirtual 290, 3) := by decide +kernel
theorem dX12_belowOf_78 : decode cX12_belowOf 78 = .ok (.iadd, 1) := by decide +kernel
theorem dX12_belowOf_79 : decode cX12_belowOf 79 = .ok (.iload_n 2, 1) := by decide +kernel
theorem dX12_belowOf_80 : decode cX12_belowOf 80 = .ok (.isub, 1) := by decide +kernel
theorem dX12_belowOf_81 : decode cX12_belowOf 81 = .ok (.i2l, 1) := by decide +kernel
theorem dX12_belowOf_82 : decode cX12_belowOf 82 = .ok (.lload 4, 2) := by decide +kernel
theorem dX12_belowOf_84 : decode cX12_belowOf 84 = .ok (.lmul, 1) := by decide +kernel
theorem dX12_belowOf_85 : decode cX12_belowOf 85 = .ok (.lload 11, 2) := by decide +kernel
theorem dX12_belowOf_87 : decode cX12_belowOf 87 = .ok (.lload 11, 2) := by decide +kernel
theorem dX12_belowOf_89 : decode cX12_belowOf 89 = .ok (.lmul, 1) := by decide +kernel
theorem dX12_belowOf_90 : decode cX12_belowOf 90 = .ok (.lload 6, 2) := by decide +kernel
theorem dX12_belowOf_92 : decode cX12_belowOf 92 = .ok (.lmul, 1) := by decide +kernel
theorem dX12_belowOf_93 : decode cX12_belowOf 93 = .ok (.lsub, 1) := by decide +kernel
theorem dX12_belowOf_94 : decode cX12_belowOf 94 = .ok (.lstore 13, 2) := by decide +kernel
theorem dX12_belowOf_96 : decode cX12_belowOf 96 = .ok (.lload 4, 2) := by decide +kernel
theorem dX12_belowOf_98 : decode cX12_belowOf 98 = .ok (.lstore 6, 2) := by decide +kernel
theorem dX12_belowOf_100 : decode cX12_belowOf 100 = .ok (.lload 13, 2) := by decide +kernel
theorem dX12_belowOf_102 : decode cX12_belowOf 102 = .ok (.lstore 4, 2) := by decide +kernel
theorem dX12_belowOf_104 : decode cX12_belowOf 104 = .ok (.lload 4, 2) := by decide +kernel
theorem dX12_belowOf_106 : decode cX12_belowOf 106 = .ok (.lconst 0, 1) := by decide +kernel
theorem dX12_belowOf_107 : decode cX12_belowOf 107 = .ok (.lcmp, 1) := by decide +kernel
theorem dX12_belowOf_108 : decode cX12_belowOf 108 = .ok (.ifCond .le 7, 3) := by decide +kernel
theorem dX12_belowOf_111 : decode cX12_belowOf 111 = .ok (.lconst 1, 1) := by decide +kernel
theorem dX12_belowOf_112 : decode cX12_belowOf 112 = .ok (.goto 17, 3) := by decide +kernel
theorem dX12_belowOf_115 : decode cX12_belowOf 115 = .ok (.lload 4, 2) := by decide +kernel
theorem dX12_belowOf_117 : decode cX12_belowOf 117 = .ok (.lconst 0, 1) := by decide +kernel
theorem dX12_belowOf_118 : decode cX12_belowOf 118 = .ok (.lcmp, 1) := by decide +kernel
theorem dX12_belowOf_119 : decode cX12_belowOf 119 = .ok (.ifCond .ge 9, 3) := by decide +kernel
theorem dX12_belowOf_122 : decode cX12_belowOf 122 = .ok (.ldc2_w 265, 3) := by decide +kernel
theorem dX12_belowOf_125 : decode cX12_belowOf 125 = .ok (.goto 4, 3) := by decide +kernel
theorem dX12_belowOf_128 : decode cX12_belowOf 128 = .ok (.lconst 0, 1) := by decide +kernel
theorem dX12_belowOf_129 : decode cX12_belowOf 129 = .ok (.lstore 15, 2) := by decide +kernel
theorem dX12_belowOf_131 : decode cX12_belowOf 131 = .ok (.lload 15, 2) := by decide +kernel
theorem dX12_belowOf_133 : decode cX12_belowOf 133 = .ok (.lconst 0, 1) := by decide +kernel
theorem dX12_belowOf_134 : decode cX12_belowOf 134 = .ok (.lcmp, 1) := by decide +kernel
theorem dX12_belowOf_135 : decode cX12_belowOf 135 = .ok (.ifCond .eq 23, 3) := by decide +kernel
theorem dX12_belowOf_138 : decode cX12_belowOf 138 = .ok (.iload_n 3, 1) := by decide +kernel
theorem dX12_belowOf_139 : decode cX12_belowOf 139 = .ok (.lload 15, 2) := by decide +kernel
theorem dX12_belowOf_141 : decode cX12_belowOf 141 = .ok (.lload 8, 2) := by decide +kernel
theorem dX12_belowOf_143 : decode cX12_belowOf 143 = .ok (.lcmp, 1) := by decide +kernel
theorem dX12_belowOf_144 : decode cX12_belowOf 144 = .ok (.ifCond .eq 7, 3) := by decide +kernel
theorem dX12_belowOf_147 : decode cX12_belowOf 147 = .ok (.iconst 1, 1) := by decide +kernel
theorem dX12_belowOf_148 : decode cX12_belowOf 148 = .ok (.goto 4, 3) := by decide +kernel
theorem dX12_belowOf_151 : decode cX12_belowOf 151 = .ok (.iconst 0, 1) := by decide +kernel
theorem dX12_belowOf_152 : decode cX12_belowOf 152 = .ok (.iadd, 1) := by decide +kernel
theorem dX12_belowOf_153 : decode cX12_belowOf 153 = .ok (.istore_n 3, 1) := by decide +kernel
theorem dX12_belowOf_154 : decode cX12_belowOf 154 = .ok (.lload 15, 2) := by decide +kernel
theorem dX12_belowOf_156 : decode cX12_belowOf 156 = .ok (.lstore 8, 2) := by decide +kernel
theorem dX12_belowOf_158 : decode cX12_belowOf 158 = .ok (.iinc 10 1, 3) := by decide +kernel
theorem dX12_belowOf_161 : decode cX12_belowOf 161 = .ok (.goto (-147), 3) := by decide +kernel
theorem dX12_belowOf_164 : decode cX12_belowOf 164 = .ok (.iload_n 3, 1) := by decide +kernel
theorem dX12_belowOf_165 : decode cX12_belowOf 165 = .ok (.ireturn, 1) := by decide +kernel
theorem dX12_below_0 : decode cX12_below 0 = .ok (.iload_n 1, 1) := by decide +kernel
theorem dX12_below_1 : decode cX12_below 1 = .ok (.invokestatic 82, 3) := by decide +kernel
theorem dX12_below_4 : decode cX12_below 4 = .ok (.ifCond .eq 23, 3) := by decide +kernel
theorem dX12_below_7 : decode cX12_below 7 = .ok (.iload_n 2, 1) := by decide +kernel
theorem dX12_below_8 : decode cX12_below 8 = .ok (.i2l, 1) := by decide +kernel
theorem dX12_below_9 : decode cX12_below 9 = .ok (.lconst 0, 1) := by decide +kernel
theorem dX12_below_10 : decode cX12_below 10 = .ok (.ldc2_w 293, 3) := by decide +kernel
theorem dX12_below_13 : decode cX12_below 13 = .ok (.invokestatic 78, 3) := by decide +kernel
theorem dX12_below_16 : decode cX12_below 16 = .ok (.ifCond .eq 11, 3) := by decide +kernel
theorem dX12_below_19 : decode cX12_below 19 = .ok (.aload_n 0, 1) := by decide +kernel
theorem dX12_below_20 : decode cX12_below 20 = .ok (.iload_n 1, 1) := by decide +kernel
theorem dX12_below_21 : decode cX12_below 21 = .ok (.invokevirtual 295, 3) := by decide +kernel
theorem dX12_below_24 : decode cX12_below 24 = .ok (.ifCond .ne 5, 3) := by decide +kernel
theorem dX12_below_27 : decode cX12_below 27 = .ok (.iconst (-1), 1) := by decide +kernel
theorem dX12_below_28 : decode cX12_below 28 = .ok (.ireturn, 1) := by decide +kernel
theorem dX12_below_29 : decode cX12_below 29 = .ok (.aload_n 0, 1) := by decide +kernel
theorem dX12_below_30 : decode cX12_below 30 = .ok (.invokevirtual 256, 3) := by decide +kernel
theorem dX12_below_33 : decode cX12_below 33 = .ok (.aload_n 0, 1) := by decide +kernel
theorem dX12_below_34 : decode cX12_below 34 = .ok (.iload_n 1, 1) := by decide +kernel
theorem dX12_below_35 : decode cX12_below 35 = .ok (.aload_n 0, 1) := by decide +kernel
theorem dX12_below_36 : decode cX12_below 36 = .ok (.getfield 7, 3) := by decide +kernel
theorem dX12_below_39 : decode cX12_below 39 = .ok (.bipush 8, 2) := by decide +kernel
theorem dX12_below_41 : decode cX12_below 41 = .ok (.iload_n 1, 1) := by decide +kernel
theorem dX12_below_42 : decode cX12_below 42 = .ok (.iadd, 1) := by decide +kernel
theorem dX12_below_43 : decode cX12_below 43 = .ok (.iaload, 1) := by decide +kernel
theorem dX12_below_44 : decode cX12_below 44 = .ok (.invokevirtual 259, 3) := by decide +kernel
theorem dX12_below_47 : decode cX12_below 47 = .ok (.ifCond .eq 12, 3) := by decide +kernel
theorem dX12_below_50 : decode cX12_below 50 = .ok (.aload_n 0, 1) := by decide +kernel
theorem dX12_below_51 : decode cX12_below 51 = .ok (.iload_n 1, 1) := by decide +kernel
theorem dX12_below_52 : decode cX12_below 52 = .ok (.iload_n 2, 1) := by decide +kernel
theorem dX12_below_53 : decode cX12_below 53 = .ok (.invokevirtual 298, 3) := by decide +kernel
theorem dX12_below_56 : decode cX12_below 56 = .ok (.goto 4, 3) := by decide +kernel
theorem dX12_below_59 : decode cX12_below 59 = .ok (.iconst (-1), 1) := by decide +kernel
theorem dX12_below_60 : decode cX12_below 60 = .ok (.ireturn, 1) := by decide +kernel
theorem dX12_toneOf_0 : decode cX12_toneOf 0 = .ok (.iconst 0, 1) := by decide +kernel
theorem dX12_toneOf_1 : decode cX12_toneOf 1 = .ok (.istore_n 3, 1) := by decide +kernel
theorem dX12_toneOf_2 : decode cX12_toneOf 2 = .ok (.iload_n 3, 1) := by decide +kernel
theorem dX12_toneOf_3 : decode cX12_toneOf 3 = .ok (.sipush 400, 3) := by decide +kernel
theorem dX12_toneOf_6 : decode cX12_toneOf 6 = .ok (.if_icmp .ge 21, 3) := by decide +kernel
theorem dX12_toneOf_9 : decode cX12_toneOf 9 = .ok (.aload_n 0, 1) := by decide +kernel
theorem dX12_toneOf_10 : decode cX12_toneOf 10 = .ok (.iload_n 1, 1) := by decide +kernel
theorem dX12_toneOf_11 : decode cX12_toneOf 11 = .ok (.iload_n 3, 1) := by decide +kernel
theorem dX12_toneOf_12 : decode cX12_toneOf 12 = .ok (.iconst 1, 1) := by decide +kernel
theorem dX12_toneOf_13 : decode cX12_toneOf 13 = .ok (.iadd, 1) := by decide +kernel
theorem dX12_toneOf_14 : decode cX12_toneOf 14 = .ok (.invokevirtual 298, 3) := by decide +kernel
theorem dX12_toneOf_17 : decode cX12_toneOf 17 = .ok (.iload_n 2, 1) := by decide +kernel
theorem dX12_toneOf_18 : decode cX12_toneOf 18 = .ok (.if_icmp .gt 9, 3) := by decide +kernel
theorem dX12_toneOf_21 : decode cX12_toneOf 21 = .ok (.iinc 3 1, 3) := by decide +kernel
theorem dX12_toneOf_24 : decode cX12_toneOf 24 = .ok (.goto (-22), 3) := by decide +kernel
theorem dX12_toneOf_27 : decode cX12_toneOf 27 = .ok (.iload_n 3, 1) := by decide +kernel
theorem dX12_toneOf_28 : decode cX12_toneOf 28 = .ok (.ireturn, 1) := by decide +kernel
theorem dX12_tone_0 : decode cX12_tone 0 = .ok (.iload_n 1, 1) := by decide +kernel
theorem dX12_tone_1 : decode cX12_tone 1 = .ok (.invokestatic 82, 3) := by decide +kernel
theorem dX12_tone_4 : decode cX12_tone 4 = .ok (.ifCond .eq 31, 3) := by decide +kernel
theorem dX12_tone_7 : decode cX12_tone 7 = .ok (.iload_n 2, 1) := by decide +kernel
theorem dX12_tone_8 : decode cX12_tone 8 = .ok (.i2l, 1) := by decide +kernel
theorem dX12_tone_9 : decode cX12_tone 9 = .ok (.lconst 0, 1) := by decide +kernel
theorem dX12_tone_10 : decode cX12_tone 10 = .ok (.aload_n 0, 1) := by decide +kernel
theorem dX12_tone_11 : decode cX12_tone 11 = .ok (.getfield 7, 3) := by decide +kernel
theorem dX12_tone_14 : decode cX12_tone 14 = .ok (.iconst 2, 1) := by decide +kernel
theorem dX12_tone_15 : decode cX12_tone 15 = .ok (.iload_n 1, 1) := by decide +kernel
theorem dX12_tone_16 : decode cX12_tone 16 = .ok (.iadd, 1) := by decide +kernel
theorem dX12_tone_17 : decode cX12_tone 17 = .ok (.iaload, 1) := by decide +kernel
theorem dX12_tone_18 : decode cX12_tone 18 = .ok (.iconst 1, 1) := by decide +kernel
theorem dX12_tone_19 : decode cX12_tone 19 = .ok (.isub, 1) := by decide +kernel
theorem dX12_tone_20 : decode cX12_tone 20 = .ok (.i2l, 1) := by decide +kernel
theorem dX12_tone_21 : decode cX12_tone 21 = .ok (.invokestatic 78, 3) := by decide +kernel
theorem dX12_tone_24 : decode cX12_tone 24 = .ok (.ifCond .eq 11, 3) := by decide +kernel
theorem dX12_tone_27 : decode cX12_tone 27 = .ok (.aload_n 0, 1) := by decide +kernel
theorem dX12_tone_28 : decode cX12_tone 28 = .ok (.iload_n 1, 1) := by decide +kernel
theorem dX12_tone_29 : decode cX12_tone 29 = .ok (.invokevirtual 295, 3) := by decide +kernel
theorem dX12_tone_32 : decode cX12_tone 32 = .ok (.ifCond .ne 5, 3) := by decide +kernel
theorem dX12_tone_35 : decode cX12_tone 35 = .ok (.iconst (-1), 1) := by decide +kernel
theorem dX12_tone_36 : decode cX12_tone 36 = .ok (.ireturn, 1) := by decide +kernel
theorem dX12_tone_37 : decode cX12_tone 37 = .ok (.aload_n 0, 1) := by decide +kernel
theorem dX12_tone_38 : decode cX12_tone 38 = .ok (.invokevirtual 256, 3) := by decide +kernel
theorem dX12_tone_41 : decode cX12_tone 41 = .ok (.aload_n 0, 1) := by decide +kernel
theorem dX12_tone_42 : decode cX12_tone 42 = .ok (.iload_n 1, 1) := by decide +kernel
theorem dX12_tone_43 : decode cX12_tone 43 = .ok (.aload_n 0, 1) := by decide +kernel
theorem dX12_tone_44 : decode cX12_tone 44 = .ok (.getfield 7, 3) := by decide +kernel
theorem dX12_tone_47 : decode cX12_tone 47 = .ok (.bipush 8, 2) := by decide +kernel
theorem dX12_tone_49 : decode cX12_tone 49 = .ok (.iload_n 1, 1) := by decide +kernel
theorem dX12_tone_50 : decode cX12_tone 50 = .ok (.iadd, 1) := by decide +kernel
theorem dX12_tone_51 : decode cX12_tone 51 = .ok (.iaload, 1) := by decide +kernel
theorem dX12_tone_52 : decode cX12_tone 52 = .ok (.invokevirtual 259, 3) := by decide +kernel
theorem dX12_tone_55 : decode cX12_tone 55 = .ok (.ifCond .eq 12, 3) := by decide +kernel
theorem dX12_tone_58 : decode cX12_tone 58 = .ok (.aload_n 0, 1) := by decide +kernel
theorem dX12_tone_59 : decode cX12_tone 59 = .ok (.iload_n 1, 1) := by decide +kernel
theorem dX12_tone_60 : decode cX12_tone 60 = .ok (.iload_n 2, 1) := by decide +kernel
theorem dX12_tone_61 : decode cX12_tone 61 = .ok (.invokevirtual 301, 3) := by decide +kernel
theorem dX12_tone_64 : decode cX12_tone 64 = .ok (.goto 4, 3) := by decide +kernel
theorem dX12_tone_67 : decode cX12_tone 67 = .ok (.iconst (-1), 1) := by decide +kernel
theorem dX12_tone_68 : decode cX12_tone 68 = .ok (.ireturn, 1) := by decide +kernel
theorem dX12_seen_0 : decode cX12_seen 0 = .ok (.iload_n 2, 1) := by decide +kernel
theorem dX12_seen_1 : decode cX12_seen 1 = .ok (.iconst (-1), 1) := by decide +kernel
theorem dX12_seen_2 : decode cX12_seen 2 = .ok (.if_icmp .ne 9, 3) := by decide +kernel
theorem dX12_seen_5 : decode cX12_seen 5 = .ok (.ldc_w 304, 3) := by decide +kernel
theorem dX12_seen_8 : decode cX12_seen 8 = .ok (.goto 6, 3) := by decide +kernel
theorem dX12_seen_11 : decode cX12_seen 11 = .ok (.sipush 400, 3) := by decide +kernel
theorem dX12_seen_14 : decode cX12_seen 14 = .ok (.istore 5, 2) := by decide +kernel
theorem dX12_seen_16 : decode cX12_seen 16 = .ok (.iload_n 1, 1) := by decide +kernel
theorem dX12_seen_17 : decode cX12_seen 17 = .ok (.invokestatic 82, 3) := by decide +kernel
theorem dX12_seen_20 : decode cX12_seen 20 = .ok (.ifCond .eq 55, 3) := by decide +kernel
theorem dX12_seen_23 : decode cX12_seen 23 = .ok (.iload_n 2, 1) := by decide +kernel
theorem dX12_seen_24 : decode cX12_seen 24 = .ok (.i2l, 1) := by decide +kernel
theorem dX12_seen_25 : decode cX12_seen 25 = .ok (.ldc2_w 265, 3) := by decide +kernel
theorem dX12_seen_28 : decode cX12_seen 28 = .ok (.ldc2_w 212, 3) := by decide +kernel
theorem dX12_seen_31 : decode cX12_seen 31 = .ok (.invokestatic 78, 3) := by decide +kernel
theorem dX12_seen_34 : decode cX12_seen 34 = .ok (.ifCond .eq 41, 3) := by decide +kernel
theorem dX12_seen_37 : decode cX12_seen 37 = .ok (.iload_n 3, 1) := by decide +kernel
theorem dX12_seen_38 : decode cX12_seen 38 = .ok (.i2l, 1) := by decide +kernel
theorem dX12_seen_39 : decode cX12_seen 39 = .ok (.lconst 0, 1) := by decide +kernel
theorem dX12_seen_40 : decode cX12_seen 40 = .ok (.iload 5, 2) := by decide +kernel
theorem dX12_seen_42 : decode cX12_seen 42 = .ok (.i2l, 1) := by decide +kernel
theorem dX12_seen_43 : decode cX12_seen 43 = .ok (.invokestatic 78, 3) := by decide +kernel
theorem dX12_seen_46 : decode cX12_seen 46 = .ok (.ifCond .eq 29, 3) := by decide +kernel
theorem dX12_seen_49 : decode cX12_seen 49 = .ok (.iload 4, 2) := by decide +kernel
theorem dX12_seen_51 : decode cX12_seen 51 = .ok (.i2l, 1) := by decide +kernel
theorem dX12_seen_52 : decode cX12_seen 52 = .ok (.iload_n 3, 1) := by decide +kernel
theorem dX12_seen_53 : decode cX12_seen 53 = .ok (.i2l, 1) := by decide +kernel
theorem dX12_seen_54 : decode cX12_seen 54 = .ok (.iload 5, 2) := by decide +kernel
theorem dX12_seen_56 : decode cX12_seen 56 = .ok (.i2l, 1) := by decide +kernel
theorem dX12_seen_57 : decode cX12_seen 57 = .ok (.invokestatic 78, 3) := by decide +kernel
theorem dX12_seen_60 : decode cX12_seen 60 = .ok (.ifCond .eq 15, 3) := by decide +kernel
theorem dX12_seen_63 : decode cX12_seen 63 = .ok (.aload_n 0, 1) := by decide +kernel
theorem dX12_seen_64 : decode cX12_seen 64 = .ok (.getfield 7, 3) := by decide +kernel
theorem dX12_seen_67 : decode cX12_seen 67 = .ok (.bipush 6, 2) := by decide +kernel
theorem dX12_seen_69 : decode cX12_seen 69 = .ok (.iaload, 1) := by decide +kernel
theorem dX12_seen_70 : decode cX12_seen 70 = .ok (.bipush 20, 2) := by decide +kernel
theorem dX12_seen_72 : decode cX12_seen 72 = .ok (.if_icmp .ne 5, 3) := by decide +kernel
theorem dX12_seen_75 : decode cX12_seen 75 = .ok (.iconst (-1), 1) := by decide +kernel
theorem dX12_seen_76 : decode cX12_seen 76 = .ok (.ireturn, 1) := by decide +kernel
theorem dX12_seen_77 : decode cX12_seen 77 = .ok (.sipush 1400, 3) := by decide +kernel
theorem dX12_seen_80 : decode cX12_seen 80 = .ok (.iconst 4, 1) := by decide +kernel
theorem dX12_seen_81 : decode cX12_seen 81 = .ok (.aload_n 0, 1) := by decide +kernel
theorem dX12_seen_82 : decode cX12_seen 82 = .ok (.getfield 7, 3) := by decide +kernel
theorem dX12_seen_85 : decode cX12_seen 85 = .ok (.bipush 6, 2) := by decide +kernel
theorem dX12_seen_87 : decode cX12_seen 87 = .ok (.iaload, 1) := by decide +kernel
theorem dX12_seen_88 : decode cX12_seen 88 = .ok (.imul, 1) := by decide +kernel
theorem dX12_seen_89 : decode cX12_seen 89 = .ok (.iadd, 1) := by decide +kernel
theorem dX12_seen_90 : decode cX12_seen 90 = .ok (.istore 6, 2) := by decide +kernel
theorem dX12_seen_92 : decode cX12_seen 92 = .ok (.aload_n 0, 1) := by decide +kernel
theorem dX12_seen_93 : decode cX12_seen 93 = .ok (.getfield 7, 3) := by decide +kernel
theorem dX12_seen_96 : decode cX12_seen 96 = .ok (.iload 6, 2) := by decide +kernel
theorem dX12_seen_98 : decode cX12_seen 98 = .ok (.iload_n 1, 1) := by decide +kernel
theorem dX12_seen_99 : decode cX12_seen 99 = .ok (.iastore, 1) := by decide +kernel
theorem dX12_seen_100 : decode cX12_seen 100 = .ok (.aload_n 0, 1) := by decide +kernel
theorem dX12_seen_101 : decode cX12_seen 101 = .ok (.getfield 7, 3) := by decide +kernel
theorem dX12_seen_104 : decode cX12_seen 104 = .ok (.iload 6, 2) := by decide +kernel
theorem dX12_seen_106 : decode cX12_seen 106 = .ok (.iconst 1, 1) := by decide +kernel
theorem dX12_seen_107 : decode cX12_seen 107 = .ok (.iadd, 1) := by decide +kernel
theorem dX12_seen_108 : decode cX12_seen 108 = .ok (.iload_n 2, 1) := by decide +kernel
theorem dX12_seen_109 : decode cX12_seen 109 = .ok (.iastore, 1) := by decide +kernel
theorem dX12_seen_110 : decode cX12_seen 110 = .ok (.aload_n 0, 1) := by decide +kernel
theorem dX12_seen_111 : decode cX12_seen 111 = .ok (.getfield 7, 3) := by decide +kernel
theorem dX12_seen_114 : decode cX12_seen 114 = .ok (.iload 6, 2) := by decide +kernel
theorem dX12_seen_116 : decode cX12_seen 116 = .ok (.iconst 2, 1) := by decide +kernel
theorem dX12_seen_117 : decode cX12_seen 117 = .ok (.iadd, 1) := by decide +kernel
theorem dX12_seen_118 : decode cX12_seen 118 = .ok (.iload_n 3, 1) := by decide +kernel
theorem dX12_seen_119 : decode cX12_seen 119 = .ok (.iastore, 1) := by decide +kernel
theorem dX12_seen_120 : decode cX12_seen 120 = .ok (.aload_n 0, 1) := by decide +kernel
theorem dX12_seen_121 : decode cX12_seen 121 = .ok (.getfield 7, 3) := by decide +kernel
theorem dX12_seen_124 : decode cX12_seen 124 = .ok (.iload 6, 2) := by decide +kernel
theorem dX12_seen_126 : decode cX12_seen 126 = .ok (.iconst 3, 1) := by decide +kernel
theorem dX12_seen_127 : decode cX12_seen 127 = .ok (.iadd, 1) := by decide +kernel
theorem dX12_seen_128 : decode cX12_seen 128 = .ok (.iload 4, 2) := by decide +kernel
theorem dX12_seen_130 : decode cX12_seen 130 = .ok (.iastore, 1) := by decide +kernel
theorem dX12_seen_131 : decode cX12_seen 131 = .ok (.aload_n 0, 1) := by decide +kernel
theorem dX12_seen_132 : decode cX12_seen 132 = .ok (.getfield 7, 3) := by decide +kernel
theorem dX12_seen_135 : decode cX12_seen 135 = .ok (.bipush 6, 2) := by decide +kernel
theorem dX12_seen_137 : decode cX12_seen 137 = .ok (.dup2, 1) := by decide +kernel
theorem dX12_seen_138 : decode cX12_seen 138 = .ok (.iaload, 1) := by decide +kernel
theorem dX12_seen_139 : decode cX12_seen 139 = .ok (.iconst 1, 1) := by decide +kernel
theorem dX12_seen_140 : decode cX12_seen 140 = .ok (.iadd, 1) := by decide +kernel
theorem dX12_seen_141 : decode cX12_seen 141 = .ok (.iastore, 1) := by decide +kernel
theorem dX12_seen_142 : decode cX12_seen 142 = .ok (.aload_n 0, 1) := by decide +kernel
theorem dX12_seen_143 : decode cX12_seen 143 = .ok (.getfield 7, 3) := by decide +kernel
theorem dX12_seen_146 : decode cX12_seen 146 = .ok (.bipush 6, 2) := by decide +kernel
theorem dX12_seen_148 : decode cX12_seen 148 = .ok (.iaload, 1) := by decide +kernel
theorem dX12_seen_149 : decode cX12_seen 149 = .ok (.ireturn, 1) := by decide +kernel
theorem dX12_agrees_0 : decode cX12_agrees 0 = .ok (.aload_n 0, 1) := by decide +kernel
theorem dX12_agrees_1 : decode cX12_agrees 1 = .ok (.getfield 7, 3) := by decide +kernel
theorem dX12_agrees_4 : decode cX12_agrees 4 = .ok (.iload_n 2, 1) := by decide +kernel
theorem dX12_agrees_5 : decode cX12_agrees 5 = .ok (.iconst 1, 1) := by decide +kernel
theorem dX12_agrees_6 : decode cX12_agrees 6 = .ok (.iadd, 1) := by decide +kernel
theorem dX12_agrees_7 : decode cX12_agrees 7 = .ok (.iaload, 1) := by decide +kernel
theorem dX12_agrees_8 : decode cX12_agrees 8 = .ok (.istore_n 3, 1) := by decide +kernel
theorem dX12_agrees_9 : decode cX12_agrees 9 = .ok (.iload_n 3, 1) := by decide +kernel
theorem dX12_agrees_10 : decode cX12_agrees 10 = .ok (.iconst (-1), 1) := by decide +kernel
theorem dX12_agrees_11 : decode cX12_agrees 11 = .ok (.if_icmp .ne 63, 3) := by decide +kernel
theorem dX12_agrees_14 : decode cX12_agrees 14 = .ok (.aload_n 0, 1) := by decide +kernel
theorem dX12_agrees_15 : decode cX12_agrees 15 = .ok (.getfield 7, 3) := by decide +kernel
theorem dX12_agrees_18 : decode cX12_agrees 18 = .ok (.iconst 2, 1) := by decide +kernel
theorem dX12_agrees_19 : decode cX12_agrees 19 = .ok (.iload_n 1, 1) := by decide +kernel
theorem dX12_agrees_20 : decode cX12_agrees 20 = .ok (.iadd, 1) := by decide +kernel
theorem dX12_agrees_21 : decode cX12_agrees 21 = .ok (.iaload, 1) := by decide +kernel
theorem dX12_agrees_22 : decode cX12_agrees 22 = .ok (.iconst 1, 1) := by decide +kernel
theorem dX12_agrees_23 : decode cX12_agrees 23 = .ok (.isub, 1) := by decide +kernel
theorem dX12_agrees_24 : decode cX12_agrees 24 = .ok (.istore 4, 2) := by decide +kernel
theorem dX12_agrees_26 : decode cX12_agrees 26 = .ok (.aload_n 0, 1) := by decide +kernel
theorem dX12_agrees_27 : decode cX12_agrees 27 = .ok (.iload_n 1, 1) := by decide +kernel
theorem dX12_agrees_28 : decode cX12_agrees 28 = .ok (.iload 4, 2) := by decide +kernel
theorem dX12_agrees_30 : decode cX12_agrees 30 = .ok (.iconst 0, 1) := by decide +kernel
theorem dX12_agrees_31 : decode cX12_agrees 31 = .ok (.invokevirtual 250, 3) := by decide +kernel
theorem dX12_agrees_34 : decode cX12_agrees 34 = .ok (.aload_n 0, 1) := by decide +kernel
theorem dX12_agrees_35 : decode cX12_agrees 35 = .ok (.getfield 7, 3) := by decide +kernel
theorem dX12_agrees_38 : decode cX12_agrees 38 = .ok (.iload_n 2, 1) := by decide +kernel
theorem dX12_agrees_39 : decode cX12_agrees 39 = .ok (.iconst 3, 1) := by decide +kernel
theorem dX12_agrees_40 : decode cX12_agrees 40 = .ok (.iadd, 1) := by decide +kernel
theorem dX12_agrees_41 : decode cX12_agrees 41 = .ok (.iaload, 1) := by decide +kernel
theorem dX12_agrees_42 : decode cX12_agrees 42 = .ok (.i2l, 1) := by decide +kernel
theorem dX12_agrees_43 : decode cX12_agrees 43 = .ok (.lcmp, 1) := by decide +kernel
theorem dX12_agrees_44 : decode cX12_agrees 44 = .ok (.ifCond .gt 28, 3) := by decide +kernel
theorem dX12_agrees_47 : decode cX12_agrees 47 = .ok (.aload_n 0, 1) := by decide +kernel
theorem dX12_agrees_48 : decode cX12_agrees 48 = .ok (.iload_n 1, 1) := by decide +kernel
theorem dX12_agrees_49 : decode cX12_agrees 49 = .ok (.iload 4, 2) := by decide +kernel
theorem dX12_agrees_51 : decode cX12_agrees 51 = .ok (.iconst 1, 1) := by decide +kernel
theorem dX12_agrees_52 : decode cX12_agrees 52 = .ok (.invokevirtual 250, 3) := by decide +kernel
theorem dX12_agrees_55 : decode cX12_agrees 55 = .ok (.aload_n 0, 1) := by decide +kernel
theorem dX12_agrees_56 : decode cX12_agrees 56 = .ok (.getfield 7, 3) := by decide +kernel
theorem dX12_agrees_59 : decode cX12_agrees 59 = .ok (.iload_n 2, 1) := by decide +kernel
theorem dX12_agrees_60 : decode cX12_agrees 60 = .ok (.iconst 2, 1) := by decide +kernel
theorem dX12_agrees_61 : decode cX12_agrees 61 = .ok (.iadd, 1) := by decide +kernel
theorem dX12_agrees_62 : decode cX12_agrees 62 = .ok (.iaload, 1) := by decide +kernel
theorem dX12_agrees_63 : decode cX12_agrees 63 = .ok (.i2l, 1) := by decide +kernel
theorem dX12_agrees_64 : decode cX12_agrees 64 = .ok (.lcmp, 1) := by decide +kernel
theorem dX12_agrees_65 : decode cX12_agrees 65 = .ok (.ifCond .lt 7, 3) := by decide +kernel
theorem dX12_agrees_68 : decode cX12_agrees 68 = .ok (.iconst 1, 1) := by decide +kernel
theorem dX12_agrees_69 : decode cX12_agrees 69 = .ok (.goto 4, 3) := by decide +kernel
theorem dX12_agrees_72 : decode cX12_agrees 72 = .ok (.iconst 0, 1) := by decide +kernel
theorem dX12_agrees_73 : decode cX12_agrees 73 = .ok (.ireturn, 1) := by decide +kernel
theorem dX12_agrees_74 : decode cX12_agrees 74 = .ok (.aload_n 0, 1) := by decide +kernel
theorem dX12_agrees_75 : decode cX12_agrees 75 = .ok (.iload_n 1, 1) := by decide +kernel
theorem dX12_agrees_76 : decode cX12_agrees 76 = .ok (.invokevirtual 295, 3) := by decide +kernel
theorem dX12_agrees_79 : decode cX12_agrees 79 = .ok (.ifCond .eq 50, 3) := by decide +kernel
theorem dX12_agrees_82 : decode cX12_agrees 82 = .ok (.iload_n 3, 1) := by decide +kernel
theorem dX12_agrees_83 : decode cX12_agrees 83 = .ok (.aload_n 0, 1) := by decide +kernel
theorem dX12_agrees_84 : decode cX12_agrees 84 = .ok (.getfield 7, 3) := by decide +kernel
theorem dX12_agrees_87 : decode cX12_agrees 87 = .ok (.iconst 2, 1) := by decide +kernel
theorem dX12_agrees_88 : decode cX12_agrees 88 = .ok (.iload_n 1, 1) := by decide +kernel
theorem dX12_agrees_89 : decode cX12_agrees 89 = .ok (.iadd, 1) := by decide +kernel
theorem dX12_agrees_90 : decode cX12_agrees 90 = .ok (.iaload, 1) := by decide +kernel
theorem dX12_agrees_91 : decode cX12_agrees 91 = .ok (.if_icmp .ge 38, 3) := by decide +kernel
theorem dX12_agrees_94 : decode cX12_agrees 94 = .ok (.aload_n 0, 1) := by decide +kernel
theorem dX12_agrees_95 : decode cX12_agrees 95 = .ok (.iload_n 1, 1) := by decide +kernel
theorem dX12_agrees_96 : decode cX12_agrees 96 = .ok (.iload_n 3, 1) := by decide +kernel
theorem dX12_agrees_97 : decode cX12_agrees 97 = .ok (.invokevirtual 301, 3) := by decide +kernel
theorem dX12_agrees_100 : decode cX12_agrees 100 = .ok (.i2l, 1) := by decide +kernel
theorem dX12_agrees_101 : decode cX12_agrees 101 = .ok (.aload_n 0, 1) := by decide +kernel
theorem dX12_agrees_102 : decode cX12_agrees 102 = .ok (.getfield 7, 3) := by decide +kernel
theorem dX12_agrees_105 : decode cX12_agrees 105 = .ok (.iload_n 2, 1) := by decide +kernel
theorem dX12_agrees_106 : decode cX12_agrees 106 = .ok (.iconst 2, 1) := by decide +kernel
theorem dX12_agrees_107 : decode cX12_agrees 107 = .ok (.iadd, 1) := by decide +kernel
theorem dX12_agrees_108 : decode cX12_agrees 108 = .ok (.iaload, 1) := by decide +kernel
theorem dX12_agrees_109 : decode cX12_agrees 109 = .ok (.i2l, 1) := by decide +kernel
theorem dX12_agrees_110 : decode cX12_agrees 110 = .ok (.aload_n 0, 1) := by decide +kernel
theorem dX12_agrees_111 : decode cX12_agrees 111 = .ok (.getfield 7, 3) := by decide +kernel
theorem dX12_agrees_114 : decode cX12_agrees 114 = .ok (.iload_n 2, 1) := by decide +kernel
theorem dX12_agrees_115 : decode cX12_agrees 115 = .ok (.iconst 3, 1) := by decide +kernel
theorem dX12_agrees_116 : decode cX12_agrees 116 = .ok (.iadd, 1) := by decide +kernel
theorem dX12_agrees_117 : decode cX12_agrees 117 = .ok (.iaload, 1) := by decide +kernel
theorem dX12_agrees_118 : decode cX12_agrees 118 = .ok (.i2l, 1) := by decide +kernel
theorem dX12_agrees_119 : decode cX12_agrees 119 = .ok (.invokestatic 78, 3) := by decide +kernel
theorem dX12_agrees_122 : decode cX12_agrees 122 = .ok (.ifCond .eq 7, 3) := by decide +kernel
theorem dX12_agrees_125 : decode cX12_agrees 125 = .ok (.iconst 1, 1) := by decide +kernel
theorem dX12_agrees_126 : decode cX12_agrees 126 = .ok (.goto 4, 3) := by decide +kernel
theorem dX12_agrees_129 : decode cX12_agrees 129 = .ok (.iconst 0, 1) := by decide +kernel
theorem dX12_agrees_130 : decode cX12_agrees 130 = .ok (.ireturn, 1) := by decide +kernel
theorem dX12_fit_0 : decode cX12_fit 0 = .ok (.aload_n 0, 1) := by decide +kernel
theorem dX12_fit_1 : decode cX12_fit 1 = .ok (.iload_n 1, 1) := by decide +kernel
theorem dX12_fit_2 : decode cX12_fit 2 = .ok (.iload_n 2, 1) := by decide +kernel
theorem dX12_fit_3 : decode cX12_fit 3 = .ok (.invokevirtual 259, 3) := by decide +kernel
theorem dX12_fit_6 : decode cX12_fit 6 = .ok (.istore_n 3, 1) := by decide +kernel
theorem dX12_fit_7 : decode cX12_fit 7 = .ok (.iconst 0, 1) := by decide +kernel
theorem dX12_fit_8 : decode cX12_fit 8 = .ok (.istore 4, 2) := by decide +kernel
theorem dX12_fit_10 : decode cX12_fit 10 = .ok (.iload 4, 2) := by decide +kernel
theorem dX12_fit_12 : decode cX12_fit 12 = .ok (.bipush 20, 2) := by decide +kernel
theorem dX12_fit_14 : decode cX12_fit 14 = .ok (.if_icmp .ge 62, 3) := by decide +kernel
theorem dX12_fit_17 : decode cX12_fit 17 = .ok (.iload_n 3, 1) := by decide +kernel
theorem dX12_fit_18 : decode cX12_fit 18 = .ok (.ifCond .eq 58, 3) := by decide +kernel
theorem dX12_fit_21 : decode cX12_fit 21 = .ok (.iload 4, 2) := by decide +kernel
theorem dX12_fit_23 : decode cX12_fit 23 = .ok (.aload_n 0, 1) := by decide +kernel
theorem dX12_fit_24 : decode cX12_fit 24 = .ok (.getfield 7, 3) := by decide +kernel
theorem dX12_fit_27 : decode cX12_fit 27 = .ok (.bipush 6, 2) := by decide +kernel
theorem dX12_fit_29 : decode cX12_fit 29 = .ok (.iaload, 1) := by decide +kernel
theorem dX12_fit_30 : decode cX12_fit 30 = .ok (.if_icmp .ge 46, 3) := by decide +kernel
theorem dX12_fit_33 : decode cX12_fit 33 = .ok (.sipush 1400, 3) := by decide +kernel
theorem dX12_fit_36 : decode cX12_fit 36 = .ok (.iconst 4, 1) := by decide +kernel
theorem dX12_fit_37 : decode cX12_fit 37 = .ok (.iload 4, 2) := by decide +kernel
theorem dX12_fit_39 : decode cX12_fit 39 = .ok (.imul, 1) := by decide +kernel
theorem dX12_fit_40 : decode cX12_fit 40 = .ok (.iadd, 1) := by decide +kernel
theorem dX12_fit_41 : decode cX12_fit 41 = .ok (.istore 5, 2) := by decide +kernel
theorem dX12_fit_43 : decode cX12_fit 43 = .ok (.aload_n 0, 1) := by decide +kernel
theorem dX12_fit_44 : decode cX12_fit 44 = .ok (.getfield 7, 3) := by decide +kernel
theorem dX12_fit_47 : decode cX12_fit 47 = .ok (.iload 5, 2) := by decide +kernel
theorem dX12_fit_49 : decode cX12_fit 49 = .ok (.iaload, 1) := by decide +kernel
theorem dX12_fit_50 : decode cX12_fit 50 = .ok (.iload_n 1, 1) := by decide +kernel
theorem dX12_fit_51 : decode cX12_fit 51 = .ok (.if_icmp .ne 13, 3) := by decide +kernel
theorem dX12_fit_54 : decode cX12_fit 54 = .ok (.aload_n 0, 1) := by decide +kernel
theorem dX12_fit_55 : decode cX12_fit 55 = .ok (.iload_n 1, 1) := by decide +kernel
theorem dX12_fit_56 : decode cX12_fit 56 = .ok (.iload 5, 2) := by decide +kernel
theorem dX12_fit_58 : decode cX12_fit 58 = .ok (.invokevirtual 305, 3) := by decide +kernel
theorem dX12_fit_61 : decode cX12_fit 61 = .ok (.ifCond .eq 7, 3) := by decide +kernel
theorem dX12_fit_64 : decode cX12_fit 64 = .ok (.iconst 1, 1) := by decide +kernel
theorem dX12_fit_65 : decode cX12_fit 65 = .ok (.goto 4, 3) := by decide +kernel
theorem dX12_fit_68 : decode cX12_fit 68 = .ok (.iconst 0, 1) := by decide +kernel
theorem dX12_fit_69 : decode cX12_fit 69 = .ok (.istore_n 3, 1) := by decide +kernel
theorem dX12_fit_70 : decode cX12_fit 70 = .ok (.iinc 4 1, 3) := by decide +kernel
theorem dX12_fit_73 : decode cX12_fit 73 = .ok (.goto (-63), 3) := by decide +kernel
theorem dX12_fit_76 : decode cX12_fit 76 = .ok (.iload_n 3, 1) := by decide +kernel
theorem dX12_fit_77 : decode cX12_fit 77 = .ok (.ireturn, 1) := by decide +kernel
theorem dX12_fits_0 : decode cX12_fits 0 = .ok (.iload_n 1, 1) := by decide +kernel
theorem dX12_fits_1 : decode cX12_fits 1 = .ok (.invokestatic 82, 3) := by decide +kernel
theorem dX12_fits_4 : decode cX12_fits 4 = .ok (.ifCond .eq 8, 3) := by decide +kernel
theorem dX12_fits_7 : decode cX12_fits 7 = .ok (.iload_n 2, 1) := by decide +kernel
theorem dX12_fits_8 : decode cX12_fits 8 = .ok (.iconst (-1), 1) := by decide +kernel
theorem dX12_fits_9 : decode cX12_fits 9 = .ok (.if_icmp .ge 5, 3) := by decide +kernel
theorem dX12_fits_12 : decode cX12_fits 12 = .ok (.iconst (-1), 1) := by decide +kernel
theorem dX12_fits_13 : decode cX12_fits 13 = .ok (.ireturn, 1) := by decide +kernel
theorem dX12_fits_14 : decode cX12_fits 14 = .ok (.aload_n 0, 1) := by decide +kernel
theorem dX12_fits_15 : decode cX12_fits 15 = .ok (.invokevirtual 256, 3) := by decide +kernel
theorem dX12_fits_18 : decode cX12_fits 18 = .ok (.iconst 0, 1) := by decide +kernel
theorem dX12_fits_19 : decode cX12_fits 19 = .ok (.istore_n 3, 1) := by decide +kernel
theorem dX12_fits_20 : decode cX12_fits 20 = .ok (.iconst 1, 1) := by decide +kernel
theorem dX12_fits_21 : decode cX12_fits 21 = .ok (.istore 4, 2) := by decide +kernel
theorem dX12_fits_23 : decode cX12_fits 23 = .ok (.iload 4, 2) := by decide +kernel
theorem dX12_fits_25 : decode cX12_fits 25 = .ok (.sipush 200, 3) := by decide +kernel
theorem dX12_fits_28 : decode cX12_fits 28 = .ok (.if_icmp .gt 30, 3) := by decide +kernel
theorem dX12_fits_31 : decode cX12_fits 31 = .ok (.aload_n 0, 1) := by decide +kernel
theorem dX12_fits_32 : decode cX12_fits 32 = .ok (.iload_n 1, 1) := by decide +kernel
theorem dX12_fits_33 : decode cX12_fits 33 = .ok (.iload 4, 2) := by decide +kernel
theorem dX12_fits_35 : decode cX12_fits 35 = .ok (.invokevirtual 308, 3) := by decide +kernel
theorem dX12_fits_38 : decode cX12_fits 38 = .ok (.ifCond .eq 14, 3) := by decide +kernel
theorem dX12_fits_41 : decode cX12_fits 41 = .ok (.iload_n 3, 1) := by decide +kernel
theorem dX12_fits_42 : decode cX12_fits 42 = .ok (.iload_n 2, 1) := by decide +kernel
theorem dX12_fits_43 : decode cX12_fits 43 = .ok (.if_icmp .ne 6, 3) := by decide +kernel
theorem dX12_fits_46 : decode cX12_fits 46 = .ok (.iload 4, 2) := by decide +kernel
theorem dX12_fits_48 : decode cX12_fits 48 = .ok (.ireturn, 1) := by decide +kernel
theorem dX12_fits_49 : decode cX12_fits 49 = .ok (.iinc 3 1, 3) := by decide +kernel
theorem dX12_fits_52 : decode cX12_fits 52 = .ok (.iinc 4 1, 3) := by decide +kernel
theorem dX12_fits_55 : decode cX12_fits 55 = .ok (.goto (-32), 3) := by decide +kernel
theorem dX12_fits_58 : decode cX12_fits 58 = .ok (.iload_n 2, 1) := by decide +kernel
theorem dX12_fits_59 : decode cX12_fits 59 = .ok (.iconst (-1), 1) := by decide +kernel
theorem dX12_fits_60 : decode cX12_fits 60 = .ok (.if_icmp .ne 7, 3) := by decide +kernel
theorem dX12_fits_63 : decode cX12_fits 63 = .ok (.iload_n 3, 1) := by decide +kernel
theorem dX12_fits_64 : decode cX12_fits 64 = .ok (.goto 4, 3) := by decide +kernel
theorem dX12_fits_67 : decode cX12_fits 67 = .ok (.iconst (-1), 1) := by decide +kernel
theorem dX12_fits_68 : decode cX12_fits 68 = .ok (.ireturn, 1) := by decide +kernel
theorem dX12_image_0 : decode cX12_image 0 = .ok (.aload_n 0, 1) := by decide +kernel
theorem dX12_image_1 : decode cX12_image 1 = .ok (.iconst 1, 1) := by decide +kernel
theorem dX12_image_2 : decode cX12_image 2 = .ok (.invokevirtual 74, 3) := by decide +kernel
theorem dX12_image_5 : decode cX12_image 5 = .ok (.aload_n 0, 1) := by decide +kernel
theorem dX12_image_6 : decode cX12_image 6 = .ok (.getfield 7, 3) := by decide +kernel
theorem dX12_image_9 : decode cX12_image 9 = .ok (.iconst 0, 1) := by decide +kernel
theorem dX12_image_10 : decode cX12_image 10 = .ok (.iaload, 1) := by decide +kernel
theorem dX12_image_11 : decode cX12_image 11 = .ok (.ireturn, 1) := by decide +kernel
theorem dX12_back_0 : decode cX12_back 0 = .ok (.aload_n 0, 1) := by decide +kernel
theorem dX12_back_1 : decode cX12_back 1 = .ok (.iconst 0, 1) := by decide +kernel
theorem dX12_back_2 : decode cX12_back 2 = .ok (.invokevirtual 74, 3) := by decide +kernel
theorem dX12_back_5 : decode cX12_back 5 = .ok (.aload_n 0, 1) := by decide +kernel
theorem dX12_back_6 : decode cX12_back 6 = .ok (.getfield 7, 3) := by decide +kernel
theorem dX12_back_9 : decode cX12_back 9 = .ok (.iconst 0, 1) := by decide +kernel
theorem dX12_back_10 : decode cX12_back 10 = .ok (.iaload, 1) := by decide +kernel
theorem dX12_back_11 : decode cX12_back 11 = .ok (.ireturn, 1) := by decide +kernel
theorem dX12_about_0 : decode cX12_about 0 = .ok (.iload_n 1, 1) := by decide +kernel
theorem dX12_about_1 : decode cX12_about 1 = .ok (.tableswitch 198 0 21 #[103, 110, 117, 124, 131, 138, 145, 153, 158, 198, 166, 174, 198, 198, 198, 198, 198, 198, 198, 198, 182, 190], 103) := by decide +kernel
theorem dX12_about_104 : decode cX12_about 104 = .ok (.aload_n 0, 1) := by decide +kernel
theorem dX12_about_105 : decode cX12_about 105 = .ok (.getfield 7, 3) := by decide +kernel
theorem dX12_about_108 : decode cX12_about 108 = .ok (.iconst 0, 1) := by decide +kernel
theorem dX12_about_109 : decode cX12_about 109 = .ok (.iaload, 1) := by decide +kernel
theorem dX12_about_110 : decode cX12_about 110 = .ok (.ireturn, 1) := by decide +kernel
theorem dX12_about_111 : decode cX12_about 111 = .ok (.aload_n 0, 1) := by decide +kernel
theorem dX12_about_112 : decode cX12_about 112 = .ok (.getfield 7, 3) := by decide +kernel
theorem dX12_about_115 : decode cX12_about 115 = .ok (.iconst 1, 1) := by decide +kernel
theorem dX12_about_116 : decode cX12_about 116 = .ok (.iaload, 1) := by decide +kernel
theorem dX12_about_117 : decode cX12_about 117 = .ok (.ireturn, 1) := by decide +kernel
theorem dX12_about_118 : decode cX12_about 118 = .ok (.aload_n 0, 1) := by decide +kernel
theorem dX12_about_119 : decode cX12_about 119 = .ok (.getfield 7, 3) := by decide +kernel
theorem dX12_about_122 : decode cX12_about 122 = .ok (.iconst 2, 1) := by decide +kernel
theorem dX12_about_123 : decode cX12_about 123 = .ok (.iaload, 1) := by decide +kernel
theorem dX12_about_124 : decode cX12_about 124 = .ok (.ireturn, 1) := by decide +kernel
theorem dX12_about_125 : decode cX12_about 125 = .ok (.aload_n 0, 1) := by decide +kernel
theorem dX12_about_126 : decode cX12_about 126 = .ok (.getfield 7, 3) := by decide +kernel
theorem dX12_about_129 : decode cX12_about 129 = .ok (.iconst 3, 1) := by decide +kernel
theorem dX12_about_130 : decode cX12_about 130 = .ok (.iaload, 1) := by decide +kernel
theorem dX12_about_131 : decode cX12_about 131 = .ok (.ireturn, 1) := by decide +kernel
theorem dX12_about_132 : decode cX12_about 132 = .ok (.aload_n 0, 1) := by decide +kernel
theorem dX12_about_133 : decode cX12_about 133 = .ok (.getfield 7, 3) := by decide +kernel
theorem dX12_about_136 : decode cX12_about 136 = .ok (.iconst 4, 1) := by decide +kernel
theorem dX12_about_137 : decode cX12_about 137 = .ok (.iaload, 1) := by decide +kernel
theorem dX12_about_138 : decode cX12_about 138 = .ok (.ireturn, 1) := by decide +kernel
theorem dX12_about_139 : decode cX12_about 139 = .ok (.aload_n 0, 1) := by decide +kernel
theorem dX12_about_140 : decode cX12_about 140 = .ok (.getfield 7, 3) := by decide +kernel
theorem dX12_about_143 : decode cX12_about 143 = .ok (.iconst 5, 1) := by decide +kernel
theorem dX12_about_144 : decode cX12_about 144 = .ok (.iaload, 1) := by decide +kernel
theorem dX12_about_145 : decode cX12_about 145 = .ok (.ireturn, 1) := by decide +kernel
theorem dX12_about_146 : decode cX12_about 146 = .ok (.aload_n 0, 1) := by decide +kernel
theorem dX12_about_147 : decode cX12_about 147 = .ok (.getfield 7, 3) := by decide +kernel
theorem dX12_about_150 : decode cX12_about 150 = .ok (.bipush 6, 2) := by decide +kernel
theorem dX12_about_152 : decode cX12_about 152 = .ok (.iaload, 1) := by decide +kernel
theorem dX12_about_153 : decode cX12_about 153 = .ok (.ireturn, 1) := by decide +kernel
theorem dX12_about_154 : decode cX12_about 154 = .ok (.aload_n 0, 1) := by decide +kernel
theorem dX12_about_155 : decode cX12_about 155 = .ok (.getfield 86, 3) := by decide +kernel
theorem dX12_about_158 : decode cX12_about 158 = .ok (.ireturn, 1) := by decide +kernel
theorem dX12_about_159 : decode cX12_about 159 = .ok (.aload_n 0, 1) := by decide +kernel
theorem dX12_about_160 : decode cX12_about 160 = .ok (.getfield 7, 3) := by decide +kernel
theorem dX12_about_163 : decode cX12_about 163 = .ok (.bipush 7, 2) := by decide +kernel
theorem dX12_about_165 : decode cX12_about 165 = .ok (.iaload, 1) := by decide +kernel
theorem dX12_about_166 : decode cX12_about 166 = .ok (.ireturn, 1) := by decide +kernel
theorem dX12_about_167 : decode cX12_about 167 = .ok (.aload_n 0, 1) := by decide +kernel
theorem dX12_about_168 : decode cX12_about 168 = .ok (.getfield 7, 3) := by decide +kernel
theorem dX12_about_171 : decode cX12_about 171 = .ok (.bipush 8, 2) := by decide +kernel
theorem dX12_about_173 : decode cX12_about 173 = .ok (.iaload, 1) := by decide +kernel
theorem dX12_about_174 : decode cX12_about 174 = .ok (.ireturn, 1) := by decide +kernel
theorem dX12_about_175 : decode cX12_about 175 = .ok (.aload_n 0, 1) := by decide +kernel
theorem dX12_about_176 : decode cX12_about 176 = .ok (.getfield 7, 3) := by decide +kernel
theorem dX12_about_179 : decode cX12_about 179 = .ok (.bipush 9, 2) := by decide +kernel
theorem dX12_about_181 : decode cX12_about 181 = .ok (.iaload, 1) := by decide +kernel
theorem dX12_about_182 : decode cX12_about 182 = .ok (.ireturn, 1) := by decide +kernel
theorem dX12_about_183 : decode cX12_about 183 = .ok (.aload_n 0, 1) := by decide +kernel
theorem dX12_about_184 : decode cX12_about 184 = .ok (.getfield 7, 3) := by decide +kernel
theorem dX12_about_187 : decode cX12_about 187 = .ok (.bipush 10, 2) := by decide +kernel
theorem dX12_about_189 : decode cX12_about 189 = .ok (.iaload, 1) := by decide +kernel
theorem dX12_about_190 : decode cX12_about 190 = .ok (.ireturn, 1) := by decide +kernel
theorem dX12_about_191 : decode cX12_about 191 = .ok (.aload_n 0, 1) := by decide +kernel
theorem dX12_about_192 : decode cX12_about 192 = .ok (.getfield 7, 3) := by decide +kernel
theorem dX12_about_195 : decode cX12_about 195 = .ok (.bipush 11, 2) := by decide +kernel
theorem dX12_about_197 : decode cX12_about 197 = .ok (.iaload, 1) := by decide +kernel
theorem dX12_about_198 : decode cX12_about 198 = .ok (.ireturn, 1) := by decide +kernel
theorem dX12_about_199 : decode cX12_about 199 = .ok (.iconst (-1), 1) := by decide +kernel
theorem dX12_about_200 : decode cX12_about 200 = .ok (.ireturn, 1) := by decide +kernel
