theorem dX6_keep_6 : decode cX6_keep 6 = .ok (.getfield 19, 3) := by decide +kernel
theorem dX6_keep_9 : decode cX6_keep 9 = .ok (.arraylength, 1) := by decide +kernel
theorem dX6_keep_10 : decode cX6_keep 10 = .ok (.if_icmp .ge 10, 3) := by decide +kernel
theorem dX6_keep_13 : decode cX6_keep 13 = .ok (.aload_n 0, 1) := by decide +kernel
theorem dX6_keep_14 : decode cX6_keep 14 = .ok (.getfield 19, 3) := by decide +kernel
theorem dX6_keep_17 : decode cX6_keep 17 = .ok (.iload_n 1, 1) := by decide +kernel
theorem dX6_keep_18 : decode cX6_keep 18 = .ok (.iload_n 2, 1) := by decide +kernel
theorem dX6_keep_19 : decode cX6_keep 19 = .ok (.iastore, 1) := by decide +kernel
theorem dX6_keep_20 : decode cX6_keep 20 = .ok (.return_, 1) := by decide +kernel
theorem dX6_bestNear_0 : decode cX6_bestNear 0 = .ok (.iconst (-1), 1) := by decide +kernel
theorem dX6_bestNear_1 : decode cX6_bestNear 1 = .ok (.istore_n 2, 1) := by decide +kernel
theorem dX6_bestNear_2 : decode cX6_bestNear 2 = .ok (.iconst 0, 1) := by decide +kernel
theorem dX6_bestNear_3 : decode cX6_bestNear 3 = .ok (.istore_n 3, 1) := by decide +kernel
theorem dX6_bestNear_4 : decode cX6_bestNear 4 = .ok (.iload_n 3, 1) := by decide +kernel
theorem dX6_bestNear_5 : decode cX6_bestNear 5 = .ok (.aload_n 0, 1) := by decide +kernel
theorem dX6_bestNear_6 : decode cX6_bestNear 6 = .ok (.getfield 9, 3) := by decide +kernel
theorem dX6_bestNear_9 : decode cX6_bestNear 9 = .ok (.getfield 46, 3) := by decide +kernel
theorem dX6_bestNear_12 : decode cX6_bestNear 12 = .ok (.if_icmp .ge 87, 3) := by decide +kernel
theorem dX6_bestNear_15 : decode cX6_bestNear 15 = .ok (.iconst 0, 1) := by decide +kernel
theorem dX6_bestNear_16 : decode cX6_bestNear 16 = .ok (.istore 4, 2) := by decide +kernel
theorem dX6_bestNear_18 : decode cX6_bestNear 18 = .ok (.iload 4, 2) := by decide +kernel
theorem dX6_bestNear_20 : decode cX6_bestNear 20 = .ok (.aload_n 0, 1) := by decide +kernel
theorem dX6_bestNear_21 : decode cX6_bestNear 21 = .ok (.getfield 9, 3) := by decide +kernel
theorem dX6_bestNear_24 : decode cX6_bestNear 24 = .ok (.getfield 46, 3) := by decide +kernel
theorem dX6_bestNear_27 : decode cX6_bestNear 27 = .ok (.if_icmp .ge 66, 3) := by decide +kernel
theorem dX6_bestNear_30 : decode cX6_bestNear 30 = .ok (.iload_n 3, 1) := by decide +kernel
theorem dX6_bestNear_31 : decode cX6_bestNear 31 = .ok (.iload 4, 2) := by decide +kernel
theorem dX6_bestNear_33 : decode cX6_bestNear 33 = .ok (.if_icmp .ne 6, 3) := by decide +kernel
theorem dX6_bestNear_36 : decode cX6_bestNear 36 = .ok (.goto 51, 3) := by decide +kernel
theorem dX6_bestNear_39 : decode cX6_bestNear 39 = .ok (.iload_n 1, 1) := by decide +kernel
theorem dX6_bestNear_40 : decode cX6_bestNear 40 = .ok (.iload_n 3, 1) := by decide +kernel
theorem dX6_bestNear_41 : decode cX6_bestNear 41 = .ok (.iload 4, 2) := by decide +kernel
theorem dX6_bestNear_43 : decode cX6_bestNear 43 = .ok (.invokestatic 69, 3) := by decide +kernel
theorem dX6_bestNear_46 : decode cX6_bestNear 46 = .ok (.ixor, 1) := by decide +kernel
theorem dX6_bestNear_47 : decode cX6_bestNear 47 = .ok (.istore 5, 2) := by decide +kernel
theorem dX6_bestNear_49 : decode cX6_bestNear 49 = .ok (.iload_n 1, 1) := by decide +kernel
theorem dX6_bestNear_50 : decode cX6_bestNear 50 = .ok (.iload 4, 2) := by decide +kernel
theorem dX6_bestNear_52 : decode cX6_bestNear 52 = .ok (.iload_n 3, 1) := by decide +kernel
theorem dX6_bestNear_53 : decode cX6_bestNear 53 = .ok (.invokestatic 72, 3) := by decide +kernel
theorem dX6_bestNear_56 : decode cX6_bestNear 56 = .ok (.ifCond .eq 14, 3) := by decide +kernel
theorem dX6_bestNear_59 : decode cX6_bestNear 59 = .ok (.iload 5, 2) := by decide +kernel
theorem dX6_bestNear_61 : decode cX6_bestNear 61 = .ok (.iload 4, 2) := by decide +kernel
theorem dX6_bestNear_63 : decode cX6_bestNear 63 = .ok (.iload_n 3, 1) := by decide +kernel
theorem dX6_bestNear_64 : decode cX6_bestNear 64 = .ok (.invokestatic 69, 3) := by decide +kernel
theorem dX6_bestNear_67 : decode cX6_bestNear 67 = .ok (.ixor, 1) := by decide +kernel
theorem dX6_bestNear_68 : decode cX6_bestNear 68 = .ok (.istore 5, 2) := by decide +kernel
theorem dX6_bestNear_70 : decode cX6_bestNear 70 = .ok (.aload_n 0, 1) := by decide +kernel
theorem dX6_bestNear_71 : decode cX6_bestNear 71 = .ok (.iload 5, 2) := by decide +kernel
theorem dX6_bestNear_73 : decode cX6_bestNear 73 = .ok (.invokevirtual 76, 3) := by decide +kernel
theorem dX6_bestNear_76 : decode cX6_bestNear 76 = .ok (.ifCond .eq 11, 3) := by decide +kernel
theorem dX6_bestNear_79 : decode cX6_bestNear 79 = .ok (.aload_n 0, 1) := by decide +kernel
theorem dX6_bestNear_80 : decode cX6_bestNear 80 = .ok (.iload 5, 2) := by decide +kernel
theorem dX6_bestNear_82 : decode cX6_bestNear 82 = .ok (.iload_n 2, 1) := by decide +kernel
theorem dX6_bestNear_83 : decode cX6_bestNear 83 = .ok (.invokevirtual 59, 3) := by decide +kernel
theorem dX6_bestNear_86 : decode cX6_bestNear 86 = .ok (.istore_n 2, 1) := by decide +kernel
theorem dX6_bestNear_87 : decode cX6_bestNear 87 = .ok (.iinc 4 1, 3) := by decide +kernel
theorem dX6_bestNear_90 : decode cX6_bestNear 90 = .ok (.goto (-72), 3) := by decide +kernel
theorem dX6_bestNear_93 : decode cX6_bestNear 93 = .ok (.iinc 3 1, 3) := by decide +kernel
theorem dX6_bestNear_96 : decode cX6_bestNear 96 = .ok (.goto (-92), 3) := by decide +kernel
theorem dX6_bestNear_99 : decode cX6_bestNear 99 = .ok (.iload_n 2, 1) := by decide +kernel
theorem dX6_bestNear_100 : decode cX6_bestNear 100 = .ok (.ireturn, 1) := by decide +kernel
theorem dX6_isOpen_0 : decode cX6_isOpen 0 = .ok (.iload_n 1, 1) := by decide +kernel
theorem dX6_isOpen_1 : decode cX6_isOpen 1 = .ok (.aload_n 0, 1) := by decide +kernel
theorem dX6_isOpen_2 : decode cX6_isOpen 2 = .ok (.getfield 9, 3) := by decide +kernel
theorem dX6_isOpen_5 : decode cX6_isOpen 5 = .ok (.getfield 29, 3) := by decide +kernel
theorem dX6_isOpen_8 : decode cX6_isOpen 8 = .ok (.invokestatic 80, 3) := by decide +kernel
theorem dX6_isOpen_11 : decode cX6_isOpen 11 = .ok (.ifCond .eq 21, 3) := by decide +kernel
theorem dX6_isOpen_14 : decode cX6_isOpen 14 = .ok (.iload_n 1, 1) := by decide +kernel
theorem dX6_isOpen_15 : decode cX6_isOpen 15 = .ok (.aload_n 0, 1) := by decide +kernel
theorem dX6_isOpen_16 : decode cX6_isOpen 16 = .ok (.getfield 9, 3) := by decide +kernel
theorem dX6_isOpen_19 : decode cX6_isOpen 19 = .ok (.getfield 46, 3) := by decide +kernel
theorem dX6_isOpen_22 : decode cX6_isOpen 22 = .ok (.invokestatic 83, 3) := by decide +kernel
theorem dX6_isOpen_25 : decode cX6_isOpen 25 = .ok (.ifCond .eq 7, 3) := by decide +kernel
theorem dX6_isOpen_28 : decode cX6_isOpen 28 = .ok (.iconst 1, 1) := by decide +kernel
theorem dX6_isOpen_29 : decode cX6_isOpen 29 = .ok (.goto 4, 3) := by decide +kernel
theorem dX6_isOpen_32 : decode cX6_isOpen 32 = .ok (.iconst 0, 1) := by decide +kernel
theorem dX6_isOpen_33 : decode cX6_isOpen 33 = .ok (.ireturn, 1) := by decide +kernel
theorem dX6_better_0 : decode cX6_better 0 = .ok (.iload_n 2, 1) := by decide +kernel
theorem dX6_better_1 : decode cX6_better 1 = .ok (.ifCond .ge 5, 3) := by decide +kernel
theorem dX6_better_4 : decode cX6_better 4 = .ok (.iload_n 1, 1) := by decide +kernel
theorem dX6_better_5 : decode cX6_better 5 = .ok (.ireturn, 1) := by decide +kernel
theorem dX6_better_6 : decode cX6_better 6 = .ok (.aload_n 0, 1) := by decide +kernel
theorem dX6_better_7 : decode cX6_better 7 = .ok (.getfield 15, 3) := by decide +kernel
theorem dX6_better_10 : decode cX6_better 10 = .ok (.iload_n 1, 1) := by decide +kernel
theorem dX6_better_11 : decode cX6_better 11 = .ok (.iload_n 2, 1) := by decide +kernel
theorem dX6_better_12 : decode cX6_better 12 = .ok (.invokevirtual 41, 3) := by decide +kernel
theorem dX6_better_15 : decode cX6_better 15 = .ok (.istore_n 3, 1) := by decide +kernel
theorem dX6_better_16 : decode cX6_better 16 = .ok (.iload_n 3, 1) := by decide +kernel
theorem dX6_better_17 : decode cX6_better 17 = .ok (.ifCond .gt 12, 3) := by decide +kernel
theorem dX6_better_20 : decode cX6_better 20 = .ok (.iload_n 3, 1) := by decide +kernel
theorem dX6_better_21 : decode cX6_better 21 = .ok (.ifCond .ne 12, 3) := by decide +kernel
theorem dX6_better_24 : decode cX6_better 24 = .ok (.iload_n 1, 1) := by decide +kernel
theorem dX6_better_25 : decode cX6_better 25 = .ok (.iload_n 2, 1) := by decide +kernel
theorem dX6_better_26 : decode cX6_better 26 = .ok (.if_icmp .ge 7, 3) := by decide +kernel
theorem dX6_better_29 : decode cX6_better 29 = .ok (.iload_n 1, 1) := by decide +kernel
theorem dX6_better_30 : decode cX6_better 30 = .ok (.goto 4, 3) := by decide +kernel
theorem dX6_better_33 : decode cX6_better 33 = .ok (.iload_n 2, 1) := by decide +kernel
theorem dX6_better_34 : decode cX6_better 34 = .ok (.ireturn, 1) := by decide +kernel
theorem dX7_init_0 : decode cX7_init 0 = .ok (.aload_n 0, 1) := by decide +kernel
theorem dX7_init_1 : decode cX7_init 1 = .ok (.invokespecial 5, 3) := by decide +kernel
theorem dX7_init_4 : decode cX7_init 4 = .ok (.aload_n 0, 1) := by decide +kernel
theorem dX7_init_5 : decode cX7_init 5 = .ok (.aload_n 1, 1) := by decide +kernel
theorem dX7_init_6 : decode cX7_init 6 = .ok (.putfield 11, 3) := by decide +kernel
theorem dX7_init_9 : decode cX7_init 9 = .ok (.aload_n 0, 1) := by decide +kernel
theorem dX7_init_10 : decode cX7_init 10 = .ok (.aload_n 2, 1) := by decide +kernel
theorem dX7_init_11 : decode cX7_init 11 = .ok (.putfield 15, 3) := by decide +kernel
theorem dX7_init_14 : decode cX7_init 14 = .ok (.aload_n 0, 1) := by decide +kernel
theorem dX7_init_15 : decode cX7_init 15 = .ok (.new 19, 3) := by decide +kernel
theorem dX7_init_18 : decode cX7_init 18 = .ok (.dup, 1) := by decide +kernel
theorem dX7_init_19 : decode cX7_init 19 = .ok (.invokespecial 21, 3) := by decide +kernel
theorem dX7_init_22 : decode cX7_init 22 = .ok (.putfield 22, 3) := by decide +kernel
theorem dX7_init_25 : decode cX7_init 25 = .ok (.aload_n 0, 1) := by decide +kernel
theorem dX7_init_26 : decode cX7_init 26 = .ok (.bipush 64, 2) := by decide +kernel
theorem dX7_init_28 : decode cX7_init 28 = .ok (.anewarray 25, 3) := by decide +kernel
theorem dX7_init_31 : decode cX7_init 31 = .ok (.putfield 27, 3) := by decide +kernel
theorem dX7_init_34 : decode cX7_init 34 = .ok (.iconst 0, 1) := by decide +kernel
theorem dX7_init_35 : decode cX7_init 35 = .ok (.istore_n 3, 1) := by decide +kernel
theorem dX7_init_36 : decode cX7_init 36 = .ok (.iload_n 3, 1) := by decide +kernel
theorem dX7_init_37 : decode cX7_init 37 = .ok (.aload_n 0, 1) := by decide +kernel
theorem dX7_init_38 : decode cX7_init 38 = .ok (.getfield 27, 3) := by decide +kernel
theorem dX7_init_41 : decode cX7_init 41 = .ok (.arraylength, 1) := by decide +kernel
theorem dX7_init_42 : decode cX7_init 42 = .ok (.if_icmp .ge 38, 3) := by decide +kernel
theorem dX7_init_45 : decode cX7_init 45 = .ok (.iload_n 3, 1) := by decide +kernel
theorem dX7_init_46 : decode cX7_init 46 = .ok (.bipush 16, 2) := by decide +kernel
theorem dX7_init_48 : decode cX7_init 48 = .ok (.irem, 1) := by decide +kernel
theorem dX7_init_49 : decode cX7_init 49 = .ok (.iload_n 3, 1) := by decide +kernel
theorem dX7_init_50 : decode cX7_init 50 = .ok (.bipush 16, 2) := by decide +kernel
theorem dX7_init_52 : decode cX7_init 52 = .ok (.idiv, 1) := by decide +kernel
theorem dX7_init_53 : decode cX7_init 53 = .ok (.invokestatic 31, 3) := by decide +kernel
theorem dX7_init_56 : decode cX7_init 56 = .ok (.ifCond .ne 18, 3) := by decide +kernel
theorem dX7_init_59 : decode cX7_init 59 = .ok (.aload_n 0, 1) := by decide +kernel
theorem dX7_init_60 : decode cX7_init 60 = .ok (.getfield 27, 3) := by decide +kernel
theorem dX7_init_63 : decode cX7_init 63 = .ok (.iload_n 3, 1) := by decide +kernel
theorem dX7_init_64 : decode cX7_init 64 = .ok (.new 25, 3) := by decide +kernel
theorem dX7_init_67 : decode cX7_init 67 = .ok (.dup, 1) := by decide +kernel
theorem dX7_init_68 : decode cX7_init 68 = .ok (.bipush 42, 2) := by decide +kernel
theorem dX7_init_70 : decode cX7_init 70 = .ok (.invokespecial 37, 3) := by decide +kernel
theorem dX7_init_73 : decode cX7_init 73 = .ok (.aastore, 1) := by decide +kernel
theorem dX7_init_74 : decode cX7_init 74 = .ok (.iinc 3 1, 3) := by decide +kernel
theorem dX7_init_77 : decode cX7_init 77 = .ok (.goto (-41), 3) := by decide +kernel
theorem dX7_init_80 : decode cX7_init 80 = .ok (.aload_n 0, 1) := by decide +kernel
theorem dX7_init_81 : decode cX7_init 81 = .ok (.bipush 16, 2) := by decide +kernel
theorem dX7_init_83 : decode cX7_init 83 = .ok (.anewarray 25, 3) := by decide +kernel
theorem dX7_init_86 : decode cX7_init 86 = .ok (.putfield 40, 3) := by decide +kernel
theorem dX7_init_89 : decode cX7_init 89 = .ok (.iconst 0, 1) := by decide +kernel
theorem dX7_init_90 : decode cX7_init 90 = .ok (.istore_n 3, 1) := by decide +kernel
theorem dX7_init_91 : decode cX7_init 91 = .ok (.iload_n 3, 1) := by decide +kernel
theorem dX7_init_92 : decode cX7_init 92 = .ok (.aload_n 0, 1) := by decide +kernel
theorem dX7_init_93 : decode cX7_init 93 = .ok (.getfield 40, 3) := by decide +kernel
theorem dX7_init_96 : decode cX7_init 96 = .ok (.arraylength, 1) := by decide +kernel
theorem dX7_init_97 : decode cX7_init 97 = .ok (.if_icmp .ge 25, 3) := by decide +kernel
theorem dX7_init_100 : decode cX7_init 100 = .ok (.aload_n 0, 1) := by decide +kernel
theorem dX7_init_101 : decode cX7_init 101 = .ok (.getfield 40, 3) := by decide +kernel
theorem dX7_init_104 : decode cX7_init 104 = .ok (.iload_n 3, 1) := by decide +kernel
theorem dX7_init_105 : decode cX7_init 105 = .ok (.new 25, 3) := by decide +kernel
theorem dX7_init_108 : decode cX7_init 108 = .ok (.dup, 1) := by decide +kernel
theorem dX7_init_109 : decode cX7_init 109 = .ok (.sipush 168, 3) := by decide +kernel
theorem dX7_init_112 : decode cX7_init 112 = .ok (.invokespecial 37, 3) := by decide +kernel
theorem dX7_init_115 : decode cX7_init 115 = .ok (.aastore, 1) := by decide +kernel
theorem dX7_init_116 : decode cX7_init 116 = .ok (.iinc 3 1, 3) := by decide +kernel
theorem dX7_init_119 : decode cX7_init 119 = .ok (.goto (-28), 3) := by decide +kernel
theorem dX7_init_122 : decode cX7_init 122 = .ok (.aload_n 0, 1) := by decide +kernel
theorem dX7_init_123 : decode cX7_init 123 = .ok (.new 25, 3) := by decide +kernel
theorem dX7_init_126 : decode cX7_init 126 = .ok (.dup, 1) := by decide +kernel
theorem dX7_init_127 : decode cX7_init 127 = .ok (.iconst 1, 1) := by decide +kernel
theorem dX7_init_128 : decode cX7_init 128 = .ok (.invokespecial 37, 3) := by decide +kernel
theorem dX7_init_131 : decode cX7_init 131 = .ok (.putfield 43, 3) := by decide +kernel
theorem dX7_init_134 : decode cX7_init 134 = .ok (.aload_n 0, 1) := by decide +kernel
theorem dX7_init_135 : decode cX7_init 135 = .ok (.new 25, 3) := by decide +kernel
theorem dX7_init_138 : decode cX7_init 138 = .ok (.dup, 1) := by decide +kernel
theorem dX7_init_139 : decode cX7_init 139 = .ok (.sipush 168, 3) := by decide +kernel
theorem dX7_init_142 : decode cX7_init 142 = .ok (.invokespecial 37, 3) := by decide +kernel
theorem dX7_init_145 : decode cX7_init 145 = .ok (.putfield 47, 3) := by decide +kernel
theorem dX7_init_148 : decode cX7_init 148 = .ok (.aload_n 0, 1) := by decide +kernel
theorem dX7_init_149 : decode cX7_init 149 = .ok (.new 25, 3) := by decide +kernel
theorem dX7_init_152 : decode cX7_init 152 = .ok (.dup, 1) := by decide +kernel
theorem dX7_init_153 : decode cX7_init 153 = .ok (.sipush 168, 3) := by decide +kernel
theorem dX7_init_156 : decode cX7_init 156 = .ok (.invokespecial 37, 3) := by decide +kernel
theorem dX7_init_159 : decode cX7_init 159 = .ok (.putfield 50, 3) := by decide +kernel
theorem dX7_init_162 : decode cX7_init 162 = .ok (.aload_n 0, 1) := by decide +kernel
theorem dX7_init_163 : decode cX7_init 163 = .ok (.new 25, 3) := by decide +kernel
theorem dX7_init_166 : decode cX7_init 166 = .ok (.dup, 1) := by decide +kernel
theorem dX7_init_167 : decode cX7_init 167 = .ok (.sipush 168, 3) := by decide +kernel
theorem dX7_init_170 : decode cX7_init 170 = .ok (.invokespecial 37, 3) := by decide +kernel
theorem dX7_init_173 : decode cX7_init 173 = .ok (.putfield 53, 3) := by decide +kernel
theorem dX7_init_176 : decode cX7_init 176 = .ok (.aload_n 0, 1) := by decide +kernel
theorem dX7_init_177 : decode cX7_init 177 = .ok (.new 56, 3) := by decide +kernel
theorem dX7_init_180 : decode cX7_init 180 = .ok (.dup, 1) := by decide +kernel
theorem dX7_init_181 : decode cX7_init 181 = .ok (.new 25, 3) := by decide +kernel
theorem dX7_init_184 : decode cX7_init 184 = .ok (.dup, 1) := by decide +kernel
theorem dX7_init_185 : decode cX7_init 185 = .ok (.sipush 168, 3) := by decide +kernel
theorem dX7_init_188 : decode cX7_init 188 = .ok (.invokespecial 37, 3) := by decide +kernel
theorem dX7_init_191 : decode cX7_init 191 = .ok (.new 25, 3) := by decide +kernel
theorem dX7_init_194 : decode cX7_init 194 = .ok (.dup, 1) := by decide +kernel
theorem dX7_init_195 : decode cX7_init 195 = .ok (.sipush 168, 3) := by decide +kernel
theorem dX7_init_198 : decode cX7_init 198 = .ok (.invokespecial 37, 3) := by decide +kernel
theorem dX7_init_201 : decode cX7_init 201 = .ok (.invokespecial 58, 3) := by decide +kernel
theorem dX7_init_204 : decode cX7_init 204 = .ok (.putfield 61, 3) := by decide +kernel
theorem dX7_init_207 : decode cX7_init 207 = .ok (.aload_n 0, 1) := by decide +kernel
theorem dX7_init_208 : decode cX7_init 208 = .ok (.iconst 0, 1) := by decide +kernel
theorem dX7_init_209 : decode cX7_init 209 = .ok (.putfield 65, 3) := by decide +kernel
theorem dX7_init_212 : decode cX7_init 212 = .ok (.aload_n 0, 1) := by decide +kernel
theorem dX7_init_213 : decode cX7_init 213 = .ok (.iconst 0, 1) := by decide +kernel
theorem dX7_init_214 : decode cX7_init 214 = .ok (.putfield 69, 3) := by decide +kernel
theorem dX7_init_217 : decode cX7_init 217 = .ok (.return_, 1) := by decide +kernel
theorem dX7_forget_0 : decode cX7_forget 0 = .ok (.aload_n 0, 1) := by decide +kernel
theorem dX7_forget_1 : decode cX7_forget 1 = .ok (.getfield 61, 3) := by decide +kernel
theorem dX7_forget_4 : decode cX7_forget 4 = .ok (.iconst 0, 1) := by decide +kernel
theorem dX7_forget_5 : decode cX7_forget 5 = .ok (.putfield 72, 3) := by decide +kernel
theorem dX7_forget_8 : decode cX7_forget 8 = .ok (.return_, 1) := by decide +kernel
theorem dX7_of_0 : decode cX7_of 0 = .ok (.aload_n 0, 1) := by decide +kernel
theorem dX7_of_1 : decode cX7_of 1 = .ok (.getfield 61, 3) := by decide +kernel
theorem dX7_of_4 : decode cX7_of 4 = .ok (.getfield 72, 3) := by decide +kernel
theorem dX7_of_7 : decode cX7_of 7 = .ok (.ifCond .eq 24, 3) := by decide +kernel
theorem dX7_of_10 : decode cX7_of 10 = .ok (.aload_n 0, 1) := by decide +kernel
theorem dX7_of_11 : decode cX7_of 11 = .ok (.getfield 65, 3) := by decide +kernel
theorem dX7_of_14 : decode cX7_of 14 = .ok (.iload_n 1, 1) := by decide +kernel
theorem dX7_of_15 : decode cX7_of 15 = .ok (.if_icmp .ne 16, 3) := by decide +kernel
theorem dX7_of_18 : decode cX7_of 18 = .ok (.aload_n 0, 1) := by decide +kernel
theorem dX7_of_19 : decode cX7_of 19 = .ok (.getfield 69, 3) := by decide +kernel
theorem dX7_of_22 : decode cX7_of 22 = .ok (.iload_n 2, 1) := by decide +kernel
theorem dX7_of_23 : decode cX7_of 23 = .ok (.if_icmp .ne 8, 3) := by decide +kernel
theorem dX7_of_26 : decode cX7_of 26 = .ok (.aload_n 0, 1) := by decide +kernel
theorem dX7_of_27 : decode cX7_of 27 = .ok (.getfield 61, 3) := by decide +kernel
theorem dX7_of_30 : decode cX7_of 30 = .ok (.areturn, 1) := by decide +kernel
theorem dX7_of_31 : decode cX7_of 31 = .ok (.iconst 1, 1) := by decide +kernel
theorem dX7_of_32 : decode cX7_of 32 = .ok (.aload_n 0, 1) := by decide +kernel
theorem dX7_of_33 : decode cX7_of 33 = .ok (.getfield 11, 3) := by decide +kernel
theorem dX7_of_36 : decode cX7_of 36 = .ok (.getfield 76, 3) := by decide +kernel
theorem dX7_of_39 : decode cX7_of 39 = .ok (.ishl, 1) := by decide +kernel
theorem dX7_of_40 : decode cX7_of 40 = .ok (.iconst 1, 1) := by decide +kernel
theorem dX7_of_41 : decode cX7_of 41 = .ok (.isub, 1) := by decide +kernel
theorem dX7_of_42 : decode cX7_of 42 = .ok (.istore_n 3, 1) := by decide +kernel
theorem dX7_of_43 : decode cX7_of 43 = .ok (.iconst 0, 1) := by decide +kernel
theorem dX7_of_44 : decode cX7_of 44 = .ok (.istore 4, 2) := by decide +kernel
theorem dX7_of_46 : decode cX7_of 46 = .ok (.iload 4, 2) := by decide +kernel
theorem dX7_of_48 : decode cX7_of 48 = .ok (.aload_n 0, 1) := by decide +kernel
theorem dX7_of_49 : decode cX7_of 49 = .ok (.getfield 11, 3) := by decide +kernel
theorem dX7_of_52 : decode cX7_of 52 = .ok (.getfield 76, 3) := by decide +kernel
theorem dX7_of_55 : decode cX7_of 55 = .ok (.if_icmp .ge 15, 3) := by decide +kernel
theorem dX7_of_58 : decode cX7_of 58 = .ok (.aload_n 0, 1) := by decide +kernel
theorem dX7_of_59 : decode cX7_of 59 = .ok (.iload 4, 2) := by decide +kernel
theorem dX7_of_61 : decode cX7_of 61 = .ok (.invokevirtual 81, 3) := by decide +kernel
theorem dX7_of_64 : decode cX7_of 64 = .ok (.iinc 4 1, 3) := by decide +kernel
theorem dX7_of_67 : decode cX7_of 67 = .ok (.goto (-21), 3) := by decide +kernel
theorem dX7_of_70 : decode cX7_of 70 = .ok (.aload_n 0, 1) := by decide +kernel
theorem dX7_of_71 : decode cX7_of 71 = .ok (.iconst 0, 1) := by decide +kernel
theorem dX7_of_72 : decode cX7_of 72 = .ok (.invokevirtual 84, 3) := by decide +kernel
theorem dX7_of_75 : decode cX7_of 75 = .ok (.aload_n 0, 1) := by decide +kernel
theorem dX7_of_76 : decode cX7_of 76 = .ok (.getfield 61, 3) := by decide +kernel
theorem dX7_of_79 : decode cX7_of 79 = .ok (.getfield 87, 3) := by decide +kernel
theorem dX7_of_82 : decode cX7_of 82 = .ok (.aload_n 0, 1) := by decide +kernel
theorem dX7_of_83 : decode cX7_of 83 = .ok (.iload_n 3, 1) := by decide +kernel
theorem dX7_of_84 : decode cX7_of 84 = .ok (.invokevirtual 90, 3) := by decide +kernel
theorem dX7_of_87 : decode cX7_of 87 = .ok (.invokevirtual 94, 3) := by decide +kernel
theorem dX7_of_90 : decode cX7_of 90 = .ok (.aload_n 0, 1) := by decide +kernel
theorem dX7_of_91 : decode cX7_of 91 = .ok (.iload_n 1, 1) := by decide +kernel
theorem dX7_of_92 : decode cX7_of 92 = .ok (.iload_n 2, 1) := by decide +kernel
theorem dX7_of_93 : decode cX7_of 93 = .ok (.invokevirtual 98, 3) := by decide +kernel
theorem dX7_of_96 : decode cX7_of 96 = .ok (.aload_n 0, 1) := by decide +kernel
theorem dX7_of_97 : decode cX7_of 97 = .ok (.iconst 1, 1) := by decide +kernel
theorem dX7_of_98 : decode cX7_of 98 = .ok (.iload_n 2, 1) := by decide +kernel
theorem dX7_of_99 : decode cX7_of 99 = .ok (.ishl, 1) := by decide +kernel
theorem dX7_of_100 : decode cX7_of 100 = .ok (.invokevirtual 84, 3) := by decide +kernel
theorem dX7_of_103 : decode cX7_of 103 = .ok (.aload_n 0, 1) := by decide +kernel
theorem dX7_of_104 : decode cX7_of 104 = .ok (.getfield 61, 3) := by decide +kernel
theorem dX7_of_107 : decode cX7_of 107 = .ok (.getfield 102, 3) := by decide +kernel
theorem dX7_of_110 : decode cX7_of 110 = .ok (.aload_n 0, 1) := by decide +kernel
theorem dX7_of_111 : decode cX7_of 111 = .ok (.iload_n 3, 1) := by decide +kernel
theorem dX7_of_112 : decode cX7_of 112 = .ok (.invokevirtual 90, 3) := by decide +kernel
theorem dX7_of_115 : decode cX7_of 115 = .ok (.invokevirtual 94, 3) := by decide +kernel
theorem dX7_of_118 : decode cX7_of 118 = .ok (.aload_n 0, 1) := by decide +kernel
theorem dX7_of_119 : decode cX7_of 119 = .ok (.invokevirtual 105, 3) := by decide +kernel
theorem dX7_of_122 : decode cX7_of 122 = .ok (.aload_n 0, 1) := by decide +kernel
theorem dX7_of_123 : decode cX7_of 123 = .ok (.iload_n 1, 1) := by decide +kernel
theorem dX7_of_124 : decode cX7_of 124 = .ok (.putfield 65, 3) := by decide +kernel
theorem dX7_of_127 : decode cX7_of 127 = .ok (.aload_n 0, 1) := by decide +kernel
theorem dX7_of_128 : decode cX7_of 128 = .ok (.iload_n 2, 1) := by decide +kernel
theorem dX7_of_129 : decode cX7_of 129 = .ok (.putfield 69, 3) := by decide +kernel
theorem dX7_of_132 : decode cX7_of 132 = .ok (.aload_n 0, 1) := by decide +kernel
theorem dX7_of_133 : decode cX7_of 133 = .ok (.getfield 61, 3) := by decide +kernel
theorem dX7_of_136 : decode cX7_of 136 = .ok (.iconst 1, 1) := by decide +kernel
theorem dX7_of_137 : decode cX7_of 137 = .ok (.putfield 72, 3) := by decide +kernel
theorem dX7_of_140 : decode cX7_of 140 = .ok (.aload_n 0, 1) := by decide +kernel
theorem dX7_of_141 : decode cX7_of 141 = .ok (.getfield 61, 3) := by decide +kernel
theorem dX7_of_144 : decode cX7_of 144 = .ok (.areturn, 1) := by decide +kernel
theorem dX7_weigh_0 : decode cX7_weigh 0 = .ok (.iconst 0, 1) := by decide +kernel
theorem dX7_weigh_1 : decode cX7_weigh 1 = .ok (.istore_n 2, 1) := by decide +kernel
theorem dX7_weigh_2 : decode cX7_weigh 2 = .ok (.iload_n 2, 1) := by decide +kernel
theorem dX7_weigh_3 : decode cX7_weigh 3 = .ok (.iconst 1, 1) := by decide +kernel
theorem dX7_weigh_4 : decode cX7_weigh 4 = .ok (.aload_n 0, 1) := by decide +kernel
theorem dX7_weigh_5 : decode cX7_weigh 5 = .ok (.getfield 11, 3) := by decide +kernel
theorem dX7_weigh_8 : decode cX7_weigh 8 = .ok (.getfield 76, 3) := by decide +kernel
theorem dX7_weigh_11 : decode cX7_weigh 11 = .ok (.ishl, 1) := by decide +kernel
theorem dX7_weigh_12 : decode cX7_weigh 12 = .ok (.if_icmp .ge 70, 3) := by decide +kernel
theorem dX7_weigh_15 : decode cX7_weigh 15 = .ok (.aload_n 0, 1) := by decide +kernel
theorem dX7_weigh_16 : decode cX7_weigh 16 = .ok (.iload_n 1, 1) := by decide +kernel
theorem dX7_weigh_17 : decode cX7_weigh 17 = .ok (.iload_n 2, 1) := by decide +kernel
theorem dX7_weigh_18 : decode cX7_weigh 18 = .ok (.invokevirtual 108, 3) := by decide +kernel
theorem dX7_weigh_21 : decode cX7_weigh 21 = .ok (.ifCond .ne 6, 3) := by decide +kernel
theorem dX7_weigh_24 : decode cX7_weigh 24 = .ok (.goto 52, 3) := by decide +kernel
theorem dX7_weigh_27 : decode cX7_weigh 27 = .ok (.aload_n 0, 1) := by decide +kernel
theorem dX7_weigh_28 : decode cX7_weigh 28 = .ok (.getfield 15, 3) := by decide +kernel
theorem dX7_weigh_31 : decode cX7_weigh 31 = .ok (.invokevirtual 111, 3) := by decide +kernel
theorem dX7_weigh_34 : decode cX7_weigh 34 = .ok (.aload_n 0, 1) := by decide +kernel
theorem dX7_weigh_35 : decode cX7_weigh 35 = .ok (.getfield 11, 3) := by decide +kernel
theorem dX7_weigh_38 : decode cX7_weigh 38 = .ok (.iload_n 1, 1) := by decide +kernel
theorem dX7_weigh_39 : decode cX7_weigh 39 = .ok (.iload_n 2, 1) := by decide +kernel
theorem dX7_weigh_40 : decode cX7_weigh 40 = .ok (.aload_n 0, 1) := by decide +kernel
theorem dX7_weigh_41 : decode cX7_weigh 41 = .ok (.getfield 15, 3) := by decide +kernel
theorem dX7_weigh_44 : decode cX7_weigh 44 = .ok (.invokevirtual 114, 3) := by decide +kernel
theorem dX7_weigh_47 : decode cX7_weigh 47 = .ok (.iload_n 2, 1) := by decide +kernel
theorem dX7_weigh_48 : decode cX7_weigh 48 = .ok (.ifCond .ne 17, 3) := by decide +kernel
theorem dX7_weigh_51 : decode cX7_weigh 51 = .ok (.aload_n 0, 1) := by decide +kernel
theorem dX7_weigh_52 : decode cX7_weigh 52 = .ok (.getfield 22, 3) := by decide +kernel
theorem dX7_weigh_55 : decode cX7_weigh 55 = .ok (.aload_n 0, 1) := by decide +kernel
theorem dX7_weigh_56 : decode cX7_weigh 56 = .ok (.getfield 15, 3) := by decide +kernel
theorem dX7_weigh_59 : decode cX7_weigh 59 = .ok (.invokevirtual 118, 3) := by decide +kernel
theorem dX7_weigh_62 : decode cX7_weigh 62 = .ok (.goto 14, 3) := by decide +kernel
theorem dX7_weigh_65 : decode cX7_weigh 65 = .ok (.aload_n 0, 1) := by decide +kernel
theorem dX7_weigh_66 : decode cX7_weigh 66 = .ok (.getfield 22, 3) := by decide +kernel
theorem dX7_weigh_69 : decode cX7_weigh 69 = .ok (.aload_n 0, 1) := by decide +kernel
theorem dX7_weigh_70 : decode cX7_weigh 70 = .ok (.getfield 15, 3) := by decide +kernel
theorem dX7_weigh_73 : decode cX7_weigh 73 = .ok (.invokevirtual 121, 3) := by decide +kernel
theorem dX7_weigh_76 : decode cX7_weigh 76 = .ok (.iinc 2 1, 3) := by decide +kernel
theorem dX7_weigh_79 : decode cX7_weigh 79 = .ok (.goto (-77), 3) := by decide +kernel
theorem dX7_weigh_82 : decode cX7_weigh 82 = .ok (.iconst 0, 1) := by decide +kernel
theorem dX7_weigh_83 : decode cX7_weigh 83 = .ok (.istore_n 2, 1) := by decide +kernel
theorem dX7_weigh_84 : decode cX7_weigh 84 = .ok (.iload_n 2, 1) := by decide +kernel
theorem dX7_weigh_85 : decode cX7_weigh 85 = .ok (.iconst 1, 1) := by decide +kernel
theorem dX7_weigh_86 : decode cX7_weigh 86 = .ok (.aload_n 0, 1) := by decide +kernel
theorem dX7_weigh_87 : decode cX7_weigh 87 = .ok (.getfield 11, 3) := by decide +kernel
theorem dX7_weigh_90 : decode cX7_weigh 90 = .ok (.getfield 76, 3) := by decide +kernel
theorem dX7_weigh_93 : decode cX7_weigh 93 = .ok (.ishl, 1) := by decide +kernel
theorem dX7_weigh_94 : decode cX7_weigh 94 = .ok (.if_icmp .ge 76, 3) := by decide +kernel
theorem dX7_weigh_97 : decode cX7_weigh 97 = .ok (.aload_n 0, 1) := by decide +kernel
theorem dX7_weigh_98 : decode cX7_weigh 98 = .ok (.iload_n 1, 1) := by decide +kernel
theorem dX7_weigh_99 : decode cX7_weigh 99 = .ok (.iload_n 2, 1) := by decide +kernel
theorem dX7_weigh_100 : decode cX7_weigh 100 = .ok (.invokevirtual 124, 3) := by decide +kernel
theorem dX7_weigh_103 : decode cX7_weigh 103 = .ok (.iconst 0, 1) := by decide +kernel
theorem dX7_weigh_104 : decode cX7_weigh 104 = .ok (.invokevirtual 128, 3) := by decide +kernel
theorem dX7_weigh_107 : decode cX7_weigh 107 = .ok (.aload_n 0, 1) := by decide +kernel
theorem dX7_weigh_108 : decode cX7_weigh 108 = .ok (.iload_n 1, 1) := by decide +kernel
theorem dX7_weigh_109 : decode cX7_weigh 109 = .ok (.iload_n 2, 1) := by decide +kernel
theorem dX7_weigh_110 : decode cX7_weigh 110 = .ok (.invokevirtual 108, 3) := by decide +kernel
theorem dX7_weigh_113 : decode cX7_weigh 113 = .ok (.ifCond .ne 6, 3) := by decide +kernel
theorem dX7_weigh_116 : decode cX7_weigh 116 = .ok (.goto 48, 3) := by decide +kernel
theorem dX7_weigh_119 : decode cX7_weigh 119 = .ok (.aload_n 0, 1) := by decide +kernel
theorem dX7_weigh_120 : decode cX7_weigh 120 = .ok (.getfield 15, 3) := by decide +kernel
theorem dX7_weigh_123 : decode cX7_weigh 123 = .ok (.invokevirtual 111, 3) := by decide +kernel
theorem dX7_weigh_126 : decode cX7_weigh 126 = .ok (.aload_n 0, 1) := by decide +kernel
theorem dX7_weigh_127 : decode cX7_weigh 127 = .ok (.getfield 11, 3) := by decide +kernel
theorem dX7_weigh_130 : decode cX7_weigh 130 = .ok (.iload_n 1, 1) := by decide +kernel
theorem dX7_weigh_131 : decode cX7_weigh 131 = .ok (.iload_n 2, 1) := by decide +kernel
theorem dX7_weigh_132 : decode cX7_weigh 132 = .ok (.aload_n 0, 1) := by decide +kernel
theorem dX7_weigh_133 : decode cX7_weigh 133 = .ok (.getfield 15, 3) := by decide +kernel
theorem dX7_weigh_136 : decode cX7_weigh 136 = .ok (.invokevirtual 114, 3) := by decide +kernel
theorem dX7_weigh_139 : decode cX7_weigh 139 = .ok (.aload_n 0, 1) := by decide +kernel
theorem dX7_weigh_140 : decode cX7_weigh 140 = .ok (.getfield 15, 3) := by decide +kernel
theorem dX7_weigh_143 : decode cX7_weigh 143 = .ok (.aload_n 0, 1) := by decide +kernel
theorem dX7_weigh_144 : decode cX7_weigh 144 = .ok (.getfield 22, 3) := by decide +kernel
theorem dX7_weigh_147 : decode cX7_weigh 147 = .ok (.invokevirtual 131, 3) := by decide +kernel
theorem dX7_weigh_150 : decode cX7_weigh 150 = .ok (.aload_n 0, 1) := by decide +kernel
theorem dX7_weigh_151 : decode cX7_weigh 151 = .ok (.getfield 15, 3) := by decide +kernel
theorem dX7_weigh_154 : decode cX7_weigh 154 = .ok (.iconst 1, 1) := by decide +kernel
theorem dX7_weigh_155 : decode cX7_weigh 155 = .ok (.aload_n 0, 1) := by decide +kernel
theorem dX7_weigh_156 : decode cX7_weigh 156 = .ok (.iload_n 1, 1) := by decide +kernel
theorem dX7_weigh_157 : decode cX7_weigh 157 = .ok (.iload_n 2, 1) := by decide +kernel
theorem dX7_weigh_158 : decode cX7_weigh 158 = .ok (.invokevirtual 124, 3) := by decide +kernel
theorem dX7_weigh_161 : decode cX7_weigh 161 = .ok (.invokevirtual 134, 3) := by decide +kernel
theorem dX7_weigh_164 : decode cX7_weigh 164 = .ok (.iinc 2 1, 3) := by decide +kernel
theorem dX7_weigh_167 : decode cX7_weigh 167 = .ok (.goto (-83), 3) := by decide +kernel
theorem dX7_weigh_170 : decode cX7_weigh 170 = .ok (.iconst 0, 1) := by decide +kernel
theorem dX7_weigh_171 : decode cX7_weigh 171 = .ok (.istore_n 2, 1) := by decide +kernel
theorem dX7_weigh_172 : decode cX7_weigh 172 = .ok (.iload_n 2, 1) := by decide +kernel
theorem dX7_weigh_173 : decode cX7_weigh 173 = .ok (.aload_n 0, 1) := by decide +kernel
theorem dX7_weigh_174 : decode cX7_weigh 174 = .ok (.getfield 11, 3) := by decide +kernel
theorem dX7_weigh_177 : decode cX7_weigh 177 = .ok (.getfield 76, 3) := by decide +kernel
theorem dX7_weigh_180 : decode cX7_weigh 180 = .ok (.if_icmp .ge 20, 3) := by decide +kernel
theorem dX7_weigh_183 : decode cX7_weigh 183 = .ok (.iload_n 2, 1) := by decide +kernel
theorem dX7_weigh_184 : decode cX7_weigh 184 = .ok (.iload_n 1, 1) := by decide +kernel
theorem dX7_weigh_185 : decode cX7_weigh 185 = .ok (.if_icmp .eq 9, 3) := by decide +kernel
theorem dX7_weigh_188 : decode cX7_weigh 188 = .ok (.aload_n 0, 1) := by decide +kernel
theorem dX7_weigh_189 : decode cX7_weigh 189 = .ok (.iload_n 1, 1) := by decide +kernel
theorem dX7_weigh_190 : decode cX7_weigh 190 = .ok (.iload_n 2, 1) := by decide +kernel
theorem dX7_weigh_191 : decode cX7_weigh 191 = .ok (.invokevirtual 138, 3) := by decide +kernel
theorem dX7_weigh_194 : decode cX7_weigh 194 = .ok (.iinc 2 1, 3) := by decide +kernel
theorem dX7_weigh_197 : decode cX7_weigh 197 = .ok (.goto (-25), 3) := by decide +kernel
theorem dX7_weigh_200 : decode cX7_weigh 200 = .ok (.return_, 1) := by decide +kernel
theorem dX7_addSmaller_0 : decode cX7_addSmaller 0 = .ok (.iconst 0, 1) := by decide +kernel
theorem dX7_addSmaller_1 : decode cX7_addSmaller 1 = .ok (.istore_n 3, 1) := by decide +kernel
theorem dX7_addSmaller_2 : decode cX7_addSmaller 2 = .ok (.iload_n 3, 1) := by decide +kernel
theorem dX7_addSmaller_3 : decode cX7_addSmaller 3 = .ok (.iconst 1, 1) := by decide +kernel
theorem dX7_addSmaller_4 : decode cX7_addSmaller 4 = .ok (.aload_n 0, 1) := by decide +kernel
theorem dX7_addSmaller_5 : decode cX7_addSmaller 5 = .ok (.getfield 11, 3) := by decide +kernel
theorem dX7_addSmaller_8 : decode cX7_addSmaller 8 = .ok (.getfield 76, 3) := by decide +kernel
theorem dX7_addSmaller_11 : decode cX7_addSmaller 11 = .ok (.ishl, 1) := by decide +kernel
theorem dX7_addSmaller_12 : decode cX7_addSmaller 12 = .ok (.if_icmp .ge 58, 3) := by decide +kernel
theorem dX7_addSmaller_15 : decode cX7_addSmaller 15 = .ok (.iload_n 3, 1) := by decide +kernel
theorem dX7_addSmaller_16 : decode cX7_addSmaller 16 = .ok (.iload_n 2, 1) := by decide +kernel
theorem dX7_addSmaller_17 : decode cX7_addSmaller 17 = .ok (.invokestatic 31, 3) := by decide +kernel
theorem dX7_addSmaller_20 : decode cX7_addSmaller 20 = .ok (.ifCond .eq 15, 3) := by decide +kernel
theorem dX7_addSmaller_23 : decode cX7_addSmaller 23 = .ok (.iload_n 3, 1) := by decide +kernel
theorem dX7_addSmaller_24 : decode cX7_addSmaller 24 = .ok (.iload_n 1, 1) := by decide +kernel
theorem dX7_addSmaller_25 : decode cX7_addSmaller 25 = .ok (.invokestatic 31, 3) := by decide +kernel
theorem dX7_addSmaller_28 : decode cX7_addSmaller 28 = .ok (.ifCond .ne 7, 3) := by decide +kernel
theorem dX7_addSmaller_31 : decode cX7_addSmaller 31 = .ok (.iconst 1, 1) := by decide +kernel
theorem dX7_addSmaller_32 : decode cX7_addSmaller 32 = .ok (.goto 4, 3) := by decide +kernel
theorem dX7_addSmaller_35 : decode cX7_addSmaller 35 = .ok (.iconst 0, 1) := by decide +kernel
theorem dX7_addSmaller_36 : decode cX7_addSmaller 36 = .ok (.istore 4, 2) := by decide +kernel
theorem dX7_addSmaller_38 : decode cX7_addSmaller 38 = .ok (.iload 4, 2) := by decide +kernel
theorem dX7_addSmaller_40 : decode cX7_addSmaller 40 = .ok (.ifCond .eq 24, 3) := by decide +kernel
theorem dX7_addSmaller_43 : decode cX7_addSmaller 43 = .ok (.aload_n 0, 1) := by decide +kernel
theorem dX7_addSmaller_44 : decode cX7_addSmaller 44 = .ok (.iload_n 1, 1) := by decide +kernel
theorem dX7_addSmaller_45 : decode cX7_addSmaller 45 = .ok (.iload_n 3, 1) := by decide +kernel
theorem dX7_addSmaller_46 : decode cX7_addSmaller 46 = .ok (.invokevirtual 124, 3) := by decide +kernel
theorem dX7_addSmaller_49 : decode cX7_addSmaller 49 = .ok (.aload_n 0, 1) := by decide +kernel
theorem dX7_addSmaller_50 : decode cX7_addSmaller 50 = .ok (.iload_n 1, 1) := by decide +kernel
theorem dX7_addSmaller_51 : decode cX7_addSmaller 51 = .ok (.iload_n 3, 1) := by decide +kernel
theorem dX7_addSmaller_52 : decode cX7_addSmaller 52 = .ok (.iconst 1, 1) := by decide +kernel
theorem dX7_addSmaller_53 : decode cX7_addSmaller 53 = .ok (.iload_n 2, 1) := by decide +kernel
theorem dX7_addSmaller_54 : decode cX7_addSmaller 54 = .ok (.ishl, 1) := by decide +kernel
theorem dX7_addSmaller_55 : decode cX7_addSmaller 55 = .ok (.iconst (-1), 1) := by decide +kernel
theorem dX7_addSmaller_56 : decode cX7_addSmaller 56 = .ok (.ixor, 1) := by decide +kernel
theorem dX7_addSmaller_57 : decode cX7_addSmaller 57 = .ok (.iand, 1) := by decide +kernel
theorem dX7_addSmaller_58 : decode cX7_addSmaller 58 = .ok (.invokevirtual 124, 3) := by decide +kernel
theorem dX7_addSmaller_61 : decode cX7_addSmaller 61 = .ok (.invokevirtual 141, 3) := by decide +kernel
theorem dX7_addSmaller_64 : decode cX7_addSmaller 64 = .ok (.iinc 3 1, 3) := by decide +kernel
theorem dX7_addSmaller_67 : decode cX7_addSmaller 67 = .ok (.goto (-65), 3) := by decide +kernel
theorem dX7_addSmaller_70 : decode cX7_addSmaller 70 = .ok (.return_, 1) := by decide +kernel
theorem dX7_isOpen_0 : decode cX7_isOpen 0 = .ok (.iload_n 2, 1) := by decide +kernel
theorem dX7_isOpen_1 : decode cX7_isOpen 1 = .ok (.iload_n 1, 1) := by decide +kernel
theorem dX7_isOpen_2 : decode cX7_isOpen 2 = .ok (.invokestatic 31, 3) := by decide +kernel
theorem dX7_isOpen_5 : decode cX7_isOpen 5 = .ok (.ifCond .ne 21, 3) := by decide +kernel
theorem dX7_isOpen_8 : decode cX7_isOpen 8 = .ok (.iload_n 2, 1) := by decide +kernel
theorem dX7_isOpen_9 : decode cX7_isOpen 9 = .ok (.invokestatic 144, 3) := by decide +kernel
theorem dX7_isOpen_12 : decode cX7_isOpen 12 = .ok (.aload_n 0, 1) := by decide +kernel
theorem dX7_isOpen_13 : decode cX7_isOpen 13 = .ok (.getfield 11, 3) := by decide +kernel
theorem dX7_isOpen_16 : decode cX7_isOpen 16 = .ok (.getfield 150, 3) := by decide +kernel
theorem dX7_isOpen_19 : decode cX7_isOpen 19 = .ok (.if_icmp .gt 7, 3) := by decide +kernel
theorem dX7_isOpen_22 : decode cX7_isOpen 22 = .ok (.iconst 1, 1) := by decide +kernel
theorem dX7_isOpen_23 : decode cX7_isOpen 23 = .ok (.goto 4, 3) := by decide +kernel
theorem dX7_isOpen_26 : decode cX7_isOpen 26 = .ok (.iconst 0, 1) := by decide +kernel
theorem dX7_isOpen_27 : decode cX7_isOpen 27 = .ok (.ireturn, 1) := by decide +kernel
theorem dX7_keepArc_0 : decode cX7_keepArc 0 = .ok (.iconst 0, 1) := by decide +kernel
theorem dX7_keepArc_1 : decode cX7_keepArc 1 = .ok (.istore_n 3, 1) := by decide +kernel
theorem dX7_keepArc_2 : decode cX7_keepArc 2 = .ok (.iload_n 3, 1) := by decide +kernel
theorem dX7_keepArc_3 : decode cX7_keepArc 3 = .ok (.iconst 1, 1) := by decide +kernel
theorem dX7_keepArc_4 : decode cX7_keepArc 4 = .ok (.aload_n 0, 1) := by decide +kernel
theorem dX7_keepArc_5 : decode cX7_keepArc 5 = .ok (.getfield 11, 3) := by decide +kernel
theorem dX7_keepArc_8 : decode cX7_keepArc 8 = .ok (.getfield 76, 3) := by decide +kernel
theorem dX7_keepArc_11 : decode cX7_keepArc 11 = .ok (.ishl, 1) := by decide +kernel
theorem dX7_keepArc_12 : decode cX7_keepArc 12 = .ok (.if_icmp .ge 59, 3) := by decide +kernel
theorem dX7_keepArc_15 : decode cX7_keepArc 15 = .ok (.iload_n 3, 1) := by decide +kernel
theorem dX7_keepArc_16 : decode cX7_keepArc 16 = .ok (.iload_n 1, 1) := by decide +kernel
theorem dX7_keepArc_17 : decode cX7_keepArc 17 = .ok (.invokestatic 31, 3) := by decide +kernel
theorem dX7_keepArc_20 : decode cX7_keepArc 20 = .ok (.ifCond .eq 45, 3) := by decide +kernel
theorem dX7_keepArc_23 : decode cX7_keepArc 23 = .ok (.iload_n 3, 1) := by decide +kernel
theorem dX7_keepArc_24 : decode cX7_keepArc 24 = .ok (.iload_n 2, 1) := by decide +kernel
theorem dX7_keepArc_25 : decode cX7_keepArc 25 = .ok (.invokestatic 31, 3) := by decide +kernel
theorem dX7_keepArc_28 : decode cX7_keepArc 28 = .ok (.ifCond .eq 6, 3) := by decide +kernel
theorem dX7_keepArc_31 : decode cX7_keepArc 31 = .ok (.goto 34, 3) := by decide +kernel
theorem dX7_keepArc_34 : decode cX7_keepArc 34 = .ok (.aload_n 0, 1) := by decide +kernel
theorem dX7_keepArc_35 : decode cX7_keepArc 35 = .ok (.iload_n 2, 1) := by decide +kernel
theorem dX7_keepArc_36 : decode cX7_keepArc 36 = .ok (.iload_n 3, 1) := by decide +kernel
theorem dX7_keepArc_37 : decode cX7_keepArc 37 = .ok (.iconst 1, 1) := by decide +kernel
theorem dX7_keepArc_38 : decode cX7_keepArc 38 = .ok (.iload_n 1, 1) := by decide +kernel
theorem dX7_keepArc_39 : decode cX7_keepArc 39 = .ok (.ishl, 1) := by decide +kernel
theorem dX7_keepArc_40 : decode cX7_keepArc 40 = .ok (.iconst (-1), 1) := by decide +kernel
theorem dX7_keepArc_41 : decode cX7_keepArc 41 = .ok (.ixor, 1) := by decide +kernel
theorem dX7_keepArc_42 : decode cX7_keepArc 42 = .ok (.iand, 1) := by decide +kernel
theorem dX7_keepArc_43 : decode cX7_keepArc 43 = .ok (.invokevirtual 124, 3) := by decide +kernel
theorem dX7_keepArc_46 : decode cX7_keepArc 46 = .ok (.astore 4, 2) := by decide +kernel
theorem dX7_keepArc_48 : decode cX7_keepArc 48 = .ok (.aload_n 0, 1) := by decide +kernel
theorem dX7_keepArc_49 : decode cX7_keepArc 49 = .ok (.iload_n 2, 1) := by decide +kernel
theorem dX7_keepArc_50 : decode cX7_keepArc 50 = .ok (.iload_n 3, 1) := by decide +kernel
theorem dX7_keepArc_51 : decode cX7_keepArc 51 = .ok (.invokevirtual 124, 3) := by decide +kernel
theorem dX7_keepArc_54 : decode cX7_keepArc 54 = .ok (.aload 4, 2) := by decide +kernel
theorem dX7_keepArc_56 : decode cX7_keepArc 56 = .ok (.invokevirtual 153, 3) := by decide +kernel
theorem dX7_keepArc_59 : decode cX7_keepArc 59 = .ok (.aload 4, 2) := by decide +kernel
theorem dX7_keepArc_61 : decode cX7_keepArc 61 = .ok (.iconst 0, 1) := by decide +kernel
theorem dX7_keepArc_62 : decode cX7_keepArc 62 = .ok (.invokevirtual 128, 3) := by decide +kernel
theorem dX7_keepArc_65 : decode cX7_keepArc 65 = .ok (.iinc 3 1, 3) := by decide +kernel
theorem dX7_keepArc_68 : decode cX7_keepArc 68 = .ok (.goto (-66), 3) := by decide +kernel
theorem dX7_keepArc_71 : decode cX7_keepArc 71 = .ok (.return_, 1) := by decide +kernel
theorem dX7_sumGraphs_0 : decode cX7_sumGraphs 0 = .ok (.iconst 0, 1) := by decide +kernel
theorem dX7_sumGraphs_1 : decode cX7_sumGraphs 1 = .ok (.istore_n 2, 1) := by decide +kernel
theorem dX7_sumGraphs_2 : decode cX7_sumGraphs 2 = .ok (.iload_n 2, 1) := by decide +kernel
theorem dX7_sumGraphs_3 : decode cX7_sumGraphs 3 = .ok (.iconst 1, 1) := by decide +kernel
theorem dX7_sumGraphs_4 : decode cX7_sumGraphs 4 = .ok (.aload_n 0, 1) := by decide +kernel
theorem dX7_sumGraphs_5 : decode cX7_sumGraphs 5 = .ok (.getfield 11, 3) := by decide +kernel
theorem dX7_sumGraphs_8 : decode cX7_sumGraphs 8 = .ok (.getfield 76, 3) := by decide +kernel
theorem dX7_sumGraphs_11 : decode cX7_sumGraphs 11 = .ok (.ishl, 1) := by decide +kernel
theorem dX7_sumGraphs_12 : decode cX7_sumGraphs 12 = .ok (.if_icmp .ge 21, 3) := by decide +kernel
theorem dX7_sumGraphs_15 : decode cX7_sumGraphs 15 = .ok (.iload_n 2, 1) := by decide +kernel
theorem dX7_sumGraphs_16 : decode cX7_sumGraphs 16 = .ok (.iload_n 1, 1) := by decide +kernel
theorem dX7_sumGraphs_17 : decode cX7_sumGraphs 17 = .ok (.iand, 1) := by decide +kernel
theorem dX7_sumGraphs_18 : decode cX7_sumGraphs 18 = .ok (.iload_n 1, 1) := by decide +kernel
theorem dX7_sumGraphs_19 : decode cX7_sumGraphs 19 = .ok (.if_icmp .ne 8, 3) := by decide +kernel
theorem dX7_sumGraphs_22 : decode cX7_sumGraphs 22 = .ok (.aload_n 0, 1) := by decide +kernel
theorem dX7_sumGraphs_23 : decode cX7_sumGraphs 23 = .ok (.iload_n 2, 1) := by decide +kernel
theorem dX7_sumGraphs_24 : decode cX7_sumGraphs 24 = .ok (.invokevirtual 156, 3) := by decide +kernel
theorem dX7_sumGraphs_27 : decode cX7_sumGraphs 27 = .ok (.iinc 2 1, 3) := by decide +kernel
theorem dX7_sumGraphs_30 : decode cX7_sumGraphs 30 = .ok (.goto (-28), 3) := by decide +kernel
theorem dX7_sumGraphs_33 : decode cX7_sumGraphs 33 = .ok (.return_, 1) := by decide +kernel
theorem dX7_sumGraphsOf_0 : decode cX7_sumGraphsOf 0 = .ok (.aload_n 0, 1) := by decide +kernel
theorem dX7_sumGraphsOf_1 : decode cX7_sumGraphsOf 1 = .ok (.iload_n 1, 1) := by decide +kernel
theorem dX7_sumGraphsOf_2 : decode cX7_sumGraphsOf 2 = .ok (.invokevirtual 90, 3) := by decide +kernel
theorem dX7_sumGraphsOf_5 : decode cX7_sumGraphsOf 5 = .ok (.astore_n 2, 1) := by decide +kernel
theorem dX7_sumGraphsOf_6 : decode cX7_sumGraphsOf 6 = .ok (.aload_n 2, 1) := by decide +kernel
theorem dX7_sumGraphsOf_7 : decode cX7_sumGraphsOf 7 = .ok (.iload_n 1, 1) := by decide +kernel
theorem dX7_sumGraphsOf_8 : decode cX7_sumGraphsOf 8 = .ok (.ifCond .ne 7, 3) := by decide +kernel
theorem dX7_sumGraphsOf_11 : decode cX7_sumGraphsOf 11 = .ok (.iconst 1, 1) := by decide +kernel
theorem dX7_sumGraphsOf_12 : decode cX7_sumGraphsOf 12 = .ok (.goto 4, 3) := by decide +kernel
theorem dX7_sumGraphsOf_15 : decode cX7_sumGraphsOf 15 = .ok (.iconst 0, 1) := by decide +kernel
theorem dX7_sumGraphsOf_16 : decode cX7_sumGraphsOf 16 = .ok (.invokevirtual 128, 3) := by decide +kernel
theorem dX7_sumGraphsOf_19 : decode cX7_sumGraphsOf 19 = .ok (.iconst 1, 1) := by decide +kernel
theorem dX7_sumGraphsOf_20 : decode cX7_sumGraphsOf 20 = .ok (.istore_n 3, 1) := by decide +kernel
theorem dX7_sumGraphsOf_21 : decode cX7_sumGraphsOf 21 = .ok (.iload_n 3, 1) := by decide +kernel
theorem dX7_sumGraphsOf_22 : decode cX7_sumGraphsOf 22 = .ok (.ifCond .lt 83, 3) := by decide +kernel
theorem dX7_sumGraphsOf_25 : decode cX7_sumGraphsOf 25 = .ok (.iconst 1, 1) := by decide +kernel
theorem dX7_sumGraphsOf_26 : decode cX7_sumGraphsOf 26 = .ok (.istore 4, 2) := by decide +kernel
theorem dX7_sumGraphsOf_28 : decode cX7_sumGraphsOf 28 = .ok (.iload 4, 2) := by decide +kernel
theorem dX7_sumGraphsOf_30 : decode cX7_sumGraphsOf 30 = .ok (.iload_n 1, 1) := by decide +kernel
theorem dX7_sumGraphsOf_31 : decode cX7_sumGraphsOf 31 = .ok (.if_icmp .gt 68, 3) := by decide +kernel
theorem dX7_sumGraphsOf_34 : decode cX7_sumGraphsOf 34 = .ok (.iload 4, 2) := by decide +kernel
theorem dX7_sumGraphsOf_36 : decode cX7_sumGraphsOf 36 = .ok (.iload_n 1, 1) := by decide +kernel
theorem dX7_sumGraphsOf_37 : decode cX7_sumGraphsOf 37 = .ok (.iconst (-1), 1) := by decide +kernel
theorem dX7_sumGraphsOf_38 : decode cX7_sumGraphsOf 38 = .ok (.ixor, 1) := by decide +kernel
theorem dX7_sumGraphsOf_39 : decode cX7_sumGraphsOf 39 = .ok (.iand, 1) := by decide +kernel
theorem dX7_sumGraphsOf_40 : decode cX7_sumGraphsOf 40 = .ok (.ifCond .ne 53, 3) := by decide +kernel
theorem dX7_sumGraphsOf_43 : decode cX7_sumGraphsOf 43 = .ok (.iload 4, 2) := by decide +kernel
theorem dX7_sumGraphsOf_45 : decode cX7_sumGraphsOf 45 = .ok (.invokestatic 144, 3) := by decide +kernel
theorem dX7_sumGraphsOf_48 : decode cX7_sumGraphsOf 48 = .ok (.iconst 1, 1) := by decide +kernel
theorem dX7_sumGraphsOf_49 : decode cX7_sumGraphsOf 49 = .ok (.iand, 1) := by decide +kernel
theorem dX7_sumGraphsOf_50 : decode cX7_sumGraphsOf 50 = .ok (.iload_n 3, 1) := by decide +kernel
theorem dX7_sumGraphsOf_51 : decode cX7_sumGraphsOf 51 = .ok (.if_icmp .eq 6, 3) := by decide +kernel
theorem dX7_sumGraphsOf_54 : decode cX7_sumGraphsOf 54 = .ok (.goto 39, 3) := by decide +kernel
theorem dX7_sumGraphsOf_57 : decode cX7_sumGraphsOf 57 = .ok (.aload_n 0, 1) := by decide +kernel
theorem dX7_sumGraphsOf_58 : decode cX7_sumGraphsOf 58 = .ok (.iload_n 1, 1) := by decide +kernel
theorem dX7_sumGraphsOf_59 : decode cX7_sumGraphsOf 59 = .ok (.iload 4, 2) := by decide +kernel
theorem dX7_sumGraphsOf_61 : decode cX7_sumGraphsOf 61 = .ok (.iconst (-1), 1) := by decide +kernel
theorem dX7_sumGraphsOf_62 : decode cX7_sumGraphsOf 62 = .ok (.ixor, 1) := by decide +kernel
theorem dX7_sumGraphsOf_63 : decode cX7_sumGraphsOf 63 = .ok (.iand, 1) := by decide +kernel
theorem dX7_sumGraphsOf_64 : decode cX7_sumGraphsOf 64 = .ok (.iload 4, 2) := by decide +kernel
theorem dX7_sumGraphsOf_66 : decode cX7_sumGraphsOf 66 = .ok (.invokevirtual 159, 3) := by decide +kernel
theorem dX7_sumGraphsOf_69 : decode cX7_sumGraphsOf 69 = .ok (.iload_n 3, 1) := by decide +kernel
theorem dX7_sumGraphsOf_70 : decode cX7_sumGraphsOf 70 = .ok (.iconst 1, 1) := by decide +kernel
theorem dX7_sumGraphsOf_71 : decode cX7_sumGraphsOf 71 = .ok (.if_icmp .ne 14, 3) := by decide +kernel
theorem dX7_sumGraphsOf_74 : decode cX7_sumGraphsOf 74 = .ok (.aload_n 2, 1) := by decide +kernel
theorem dX7_sumGraphsOf_75 : decode cX7_sumGraphsOf 75 = .ok (.aload_n 0, 1) := by decide +kernel
theorem dX7_sumGraphsOf_76 : decode cX7_sumGraphsOf 76 = .ok (.getfield 47, 3) := by decide +kernel
theorem dX7_sumGraphsOf_79 : decode cX7_sumGraphsOf 79 = .ok (.invokevirtual 141, 3) := by decide +kernel
theorem dX7_sumGraphsOf_82 : decode cX7_sumGraphsOf 82 = .ok (.goto 11, 3) := by decide +kernel
theorem dX7_sumGraphsOf_85 : decode cX7_sumGraphsOf 85 = .ok (.aload_n 2, 1) := by decide +kernel
theorem dX7_sumGraphsOf_86 : decode cX7_sumGraphsOf 86 = .ok (.aload_n 0, 1) := by decide +kernel
theorem dX7_sumGraphsOf_87 : decode cX7_sumGraphsOf 87 = .ok (.getfield 47, 3) := by decide +kernel
theorem dX7_sumGraphsOf_90 : decode cX7_sumGraphsOf 90 = .ok (.invokevirtual 153, 3) := by decide +kernel
theorem dX7_sumGraphsOf_93 : decode cX7_sumGraphsOf 93 = .ok (.iinc 4 1, 3) := by decide +kernel
theorem dX7_sumGraphsOf_96 : decode cX7_sumGraphsOf 96 = .ok (.goto (-68), 3) := by decide +kernel
theorem dX7_sumGraphsOf_99 : decode cX7_sumGraphsOf 99 = .ok (.iinc 3 (-1), 3) := by decide +kernel
theorem dX7_sumGraphsOf_102 : decode cX7_sumGraphsOf 102 = .ok (.goto (-81), 3) := by decide +kernel
theorem dX7_sumGraphsOf_105 : decode cX7_sumGraphsOf 105 = .ok (.return_, 1) := by decide +kernel
theorem dX7_multiplyOut_0 : decode cX7_multiplyOut 0 = .ok (.aload_n 0, 1) := by decide +kernel
theorem dX7_multiplyOut_1 : decode cX7_multiplyOut 1 = .ok (.getfield 47, 3) := by decide +kernel
theorem dX7_multiplyOut_4 : decode cX7_multiplyOut 4 = .ok (.aload_n 0, 1) := by decide +kernel
theorem dX7_multiplyOut_5 : decode cX7_multiplyOut 5 = .ok (.iload_n 1, 1) := by decide +kernel
theorem dX7_multiplyOut_6 : decode cX7_multiplyOut 6 = .ok (.invokevirtual 90, 3) := by decide +kernel
theorem dX7_multiplyOut_9 : decode cX7_multiplyOut 9 = .ok (.invokevirtual 94, 3) := by decide +kernel
theorem dX7_multiplyOut_12 : decode cX7_multiplyOut 12 = .ok (.iconst 0, 1) := by decide +kernel
theorem dX7_multiplyOut_13 : decode cX7_multiplyOut 13 = .ok (.istore_n 3, 1) := by decide +kernel
theorem dX7_multiplyOut_14 : decode cX7_multiplyOut 14 = .ok (.iload_n 3, 1) := by decide +kernel
theorem dX7_multiplyOut_15 : decode cX7_multiplyOut 15 = .ok (.aload_n 0, 1) := by decide +kernel
theorem dX7_multiplyOut_16 : decode cX7_multiplyOut 16 = .ok (.getfield 11, 3) := by decide +kernel
theorem dX7_multiplyOut_19 : decode cX7_multiplyOut 19 = .ok (.getfield 76, 3) := by decide +kernel
theorem dX7_multiplyOut_22 : decode cX7_multiplyOut 22 = .ok (.if_icmp .ge 30, 3) := by decide +kernel
theorem dX7_multiplyOut_25 : decode cX7_multiplyOut 25 = .ok (.iload_n 2, 1) := by decide +kernel
theorem dX7_multiplyOut_26 : decode cX7_multiplyOut 26 = .ok (.iload_n 3, 1) := by decide +kernel
theorem dX7_multiplyOut_27 : decode cX7_multiplyOut 27 = .ok (.invokestatic 31, 3) := by decide +kernel
theorem dX7_multiplyOut_30 : decode cX7_multiplyOut 30 = .ok (.ifCond .eq 16, 3) := by decide +kernel
theorem dX7_multiplyOut_33 : decode cX7_multiplyOut 33 = .ok (.aload_n 0, 1) := by decide +kernel
theorem dX7_multiplyOut_34 : decode cX7_multiplyOut 34 = .ok (.getfield 47, 3) := by decide +kernel
theorem dX7_multiplyOut_37 : decode cX7_multiplyOut 37 = .ok (.aload_n 0, 1) := by decide +kernel
theorem dX7_multiplyOut_38 : decode cX7_multiplyOut 38 = .ok (.iload_n 3, 1) := by decide +kernel
theorem dX7_multiplyOut_39 : decode cX7_multiplyOut 39 = .ok (.iload_n 1, 1) := by decide +kernel
theorem dX7_multiplyOut_40 : decode cX7_multiplyOut 40 = .ok (.invokevirtual 124, 3) := by decide +kernel
theorem dX7_multiplyOut_43 : decode cX7_multiplyOut 43 = .ok (.invokevirtual 162, 3) := by decide +kernel
theorem dX7_multiplyOut_46 : decode cX7_multiplyOut 46 = .ok (.iinc 3 1, 3) := by decide +kernel
theorem dX7_multiplyOut_49 : decode cX7_multiplyOut 49 = .ok (.goto (-35), 3) := by decide +kernel
theorem dX7_multiplyOut_52 : decode cX7_multiplyOut 52 = .ok (.return_, 1) := by decide +kernel
theorem dX7_lower_0 : decode cX7_lower 0 = .ok (.aload_n 0, 1) := by decide +kernel
theorem dX7_lower_1 : decode cX7_lower 1 = .ok (.getfield 47, 3) := by decide +kernel
theorem dX7_lower_4 : decode cX7_lower 4 = .ok (.aload_n 0, 1) := by decide +kernel
theorem dX7_lower_5 : decode cX7_lower 5 = .ok (.getfield 61, 3) := by decide +kernel
theorem dX7_lower_8 : decode cX7_lower 8 = .ok (.getfield 87, 3) := by decide +kernel
theorem dX7_lower_11 : decode cX7_lower 11 = .ok (.invokevirtual 94, 3) := by decide +kernel
theorem dX7_lower_14 : decode cX7_lower 14 = .ok (.aload_n 0, 1) := by decide +kernel
theorem dX7_lower_15 : decode cX7_lower 15 = .ok (.getfield 50, 3) := by decide +kernel
theorem dX7_lower_18 : decode cX7_lower 18 = .ok (.aload_n 0, 1) := by decide +kernel
theorem dX7_lower_19 : decode cX7_lower 19 = .ok (.getfield 61, 3) := by decide +kernel
theorem dX7_lower_22 : decode cX7_lower 22 = .ok (.getfield 102, 3) := by decide +kernel
theorem dX7_lower_25 : decode cX7_lower 25 = .ok (.invokevirtual 94, 3) := by decide +kernel
theorem dX7_lower_28 : decode cX7_lower 28 = .ok (.aload_n 0, 1) := by decide +kernel
theorem dX7_lower_29 : decode cX7_lower 29 = .ok (.getfield 53, 3) := by decide +kernel
theorem dX7_lower_32 : decode cX7_lower 32 = .ok (.aload_n 0, 1) := by decide +kernel
theorem dX7_lower_33 : decode cX7_lower 33 = .ok (.getfield 47, 3) := by decide +kernel
theorem dX7_lower_36 : decode cX7_lower 36 = .ok (.aload_n 0, 1) := by decide +kernel
theorem dX7_lower_37 : decode cX7_lower 37 = .ok (.getfield 50, 3) := by decide +kernel
theorem dX7_lower_40 : decode cX7_lower 40 = .ok (.invokestatic 165, 3) := by decide +kernel
theorem dX7_lower_43 : decode cX7_lower 43 = .ok (.invokevirtual 94, 3) := by decide +kernel
theorem dX7_lower_46 : decode cX7_lower 46 = .ok (.aload_n 0, 1) := by decide +kernel
theorem dX7_lower_47 : decode cX7_lower 47 = .ok (.aload_n 0, 1) := by decide +kernel
theorem dX7_lower_48 : decode cX7_lower 48 = .ok (.getfield 61, 3) := by decide +kernel
theorem dX7_lower_51 : decode cX7_lower 51 = .ok (.getfield 102, 3) := by decide +kernel
theorem dX7_lower_54 : decode cX7_lower 54 = .ok (.invokevirtual 169, 3) := by decide +kernel
theorem dX7_lower_57 : decode cX7_lower 57 = .ok (.aload_n 0, 1) := by decide +kernel
theorem dX7_lower_58 : decode cX7_lower 58 = .ok (.aload_n 0, 1) := by decide +kernel
theorem dX7_lower_59 : decode cX7_lower 59 = .ok (.getfield 61, 3) := by decide +kernel
theorem dX7_lower_62 : decode cX7_lower 62 = .ok (.getfield 87, 3) := by decide +kernel
theorem dX7_lower_65 : decode cX7_lower 65 = .ok (.invokevirtual 169, 3) := by decide +kernel
theorem dX7_lower_68 : decode cX7_lower 68 = .ok (.return_, 1) := by decide +kernel
theorem dX7_divide_0 : decode cX7_divide 0 = .ok (.aload_n 0, 1) := by decide +kernel
theorem dX7_divide_1 : decode cX7_divide 1 = .ok (.getfield 47, 3) := by decide +kernel
theorem dX7_divide_4 : decode cX7_divide 4 = .ok (.iconst 0, 1) := by decide +kernel
theorem dX7_divide_5 : decode cX7_divide 5 = .ok (.invokevirtual 128, 3) := by decide +kernel
theorem dX7_divide_8 : decode cX7_divide 8 = .ok (.aload_n 1, 1) := by decide +kernel
theorem dX7_divide_9 : decode cX7_divide 9 = .ok (.aload_n 0, 1) := by decide +kernel
theorem dX7_divide_10 : decode cX7_divide 10 = .ok (.getfield 53, 3) := by decide +kernel
theorem dX7_divide_13 : decode cX7_divide 13 = .ok (.aload_n 0, 1) := by decide +kernel
theorem dX7_divide_14 : decode cX7_divide 14 = .ok (.getfield 47, 3) := by decide +kernel
theorem dX7_divide_17 : decode cX7_divide 17 = .ok (.invokevirtual 171, 3) := by decide +kernel
theorem dX7_divide_20 : decode cX7_divide 20 = .ok (.aload_n 1, 1) := by decide +kernel
theorem dX7_divide_21 : decode cX7_divide 21 = .ok (.aload_n 0, 1) := by decide +kernel
theorem dX7_divide_22 : decode cX7_divide 22 = .ok (.getfield 47, 3) := by decide +kernel
theorem dX7_divide_25 : decode cX7_divide 25 = .ok (.invokevirtual 94, 3) := by decide +kernel
theorem dX7_divide_28 : decode cX7_divide 28 = .ok (.return_, 1) := by decide +kernel
theorem dX7_weight_0 : decode cX7_weight 0 = .ok (.iload_n 1, 1) := by decide +kernel
theorem dX7_weight_1 : decode cX7_weight 1 = .ok (.bipush 16, 2) := by decide +kernel
theorem dX7_weight_3 : decode cX7_weight 3 = .ok (.imul, 1) := by decide +kernel
theorem dX7_weight_4 : decode cX7_weight 4 = .ok (.iload_n 2, 1) := by decide +kernel
theorem dX7_weight_5 : decode cX7_weight 5 = .ok (.iadd, 1) := by decide +kernel
theorem dX7_weight_6 : decode cX7_weight 6 = .ok (.istore_n 3, 1) := by decide +kernel
theorem dX7_weight_7 : decode cX7_weight 7 = .ok (.iload_n 3, 1) := by decide +kernel
theorem dX7_weight_8 : decode cX7_weight 8 = .ok (.ifCond .lt 30, 3) := by decide +kernel
theorem dX7_weight_11 : decode cX7_weight 11 = .ok (.iload_n 3, 1) := by decide +kernel
theorem dX7_weight_12 : decode cX7_weight 12 = .ok (.aload_n 0, 1) := by decide +kernel
theorem dX7_weight_13 : decode cX7_weight 13 = .ok (.getfield 27, 3) := by decide +kernel
theorem dX7_weight_16 : decode cX7_weight 16 = .ok (.arraylength, 1) := by decide +kernel
theorem dX7_weight_17 : decode cX7_weight 17 = .ok (.if_icmp .ge 21, 3) := by decide +kernel
theorem dX7_weight_20 : decode cX7_weight 20 = .ok (.aload_n 0, 1) := by decide +kernel
theorem dX7_weight_21 : decode cX7_weight 21 = .ok (.getfield 27, 3) := by decide +kernel
theorem dX7_weight_24 : decode cX7_weight 24 = .ok (.iload_n 3, 1) := by decide +kernel
theorem dX7_weight_25 : decode cX7_weight 25 = .ok (.aaload, 1) := by decide +kernel
theorem dX7_weight_26 : decode cX7_weight 26 = .ok (.ifnull 12, 3) := by decide +kernel
theorem dX7_weight_29 : decode cX7_weight 29 = .ok (.aload_n 0, 1) := by decide +kernel
theorem dX7_weight_30 : decode cX7_weight 30 = .ok (.getfield 27, 3) := by decide +kernel
theorem dX7_weight_33 : decode cX7_weight 33 = .ok (.iload_n 3, 1) := by decide +kernel
theorem dX7_weight_34 : decode cX7_weight 34 = .ok (.aaload, 1) := by decide +kernel
theorem dX7_weight_35 : decode cX7_weight 35 = .ok (.goto 7, 3) := by decide +kernel
theorem dX7_weight_38 : decode cX7_weight 38 = .ok (.aload_n 0, 1) := by decide +kernel
theorem dX7_weight_39 : decode cX7_weight 39 = .ok (.getfield 43, 3) := by decide +kernel
theorem dX7_weight_42 : decode cX7_weight 42 = .ok (.areturn, 1) := by decide +kernel
theorem dX7_sum_0 : decode cX7_sum 0 = .ok (.iload_n 1, 1) := by decide +kernel
theorem dX7_sum_1 : decode cX7_sum 1 = .ok (.ifCond .lt 30, 3) := by decide +kernel
theorem dX7_sum_4 : decode cX7_sum 4 = .ok (.iload_n 1, 1) := by decide +kernel
theorem dX7_sum_5 : decode cX7_sum 5 = .ok (.aload_n 0, 1) := by decide +kernel
theorem dX7_sum_6 : decode cX7_sum 6 = .ok (.getfield 40, 3) := by decide +kernel
theorem dX7_sum_9 : decode cX7_sum 9 = .ok (.arraylength, 1) := by decide +kernel
theorem dX7_sum_10 : decode cX7_sum 10 = .ok (.if_icmp .ge 21, 3) := by decide +kernel
theorem dX7_sum_13 : decode cX7_sum 13 = .ok (.aload_n 0, 1) := by decide +kernel
theorem dX7_sum_14 : decode cX7_sum 14 = .ok (.getfield 40, 3) := by decide +kernel
theorem dX7_sum_17 : decode cX7_sum 17 = .ok (.iload_n 1, 1) := by decide +kernel
theorem dX7_sum_18 : decode cX7_sum 18 = .ok (.aaload, 1) := by decide +kernel
theorem dX7_sum_19 : decode cX7_sum 19 = .ok (.ifnull 12, 3) := by decide +kernel
theorem dX7_sum_22 : decode cX7_sum 22 = .ok (.aload_n 0, 1) := by decide +kernel
theorem dX7_sum_23 : decode cX7_sum 23 = .ok (.getfield 40, 3) := by decide +kernel
theorem dX7_sum_26 : decode cX7_sum 26 = .ok (.iload_n 1, 1) := by decide +kernel
theorem dX7_sum_27 : decode cX7_sum 27 = .ok (.aaload, 1) := by decide +kernel
theorem dX7_sum_28 : decode cX7_sum 28 = .ok (.goto 7, 3) := by decide +kernel
theorem dX7_sum_31 : decode cX7_sum 31 = .ok (.aload_n 0, 1) := by decide +kernel
theorem dX7_sum_32 : decode cX7_sum 32 = .ok (.getfield 43, 3) := by decide +kernel
theorem dX7_sum_35 : decode cX7_sum 35 = .ok (.areturn, 1) := by decide +kernel
theorem dX8_init_0 : decode cX8_init 0 = .ok (.aload_n 0, 1) := by decide +kernel
theorem dX8_init_1 : decode cX8_init 1 = .ok (.invokespecial 3, 3) := by decide +kernel
theorem dX8_init_4 : decode cX8_init 4 = .ok (.aload_n 0, 1) := by decide +kernel
theorem dX8_init_5 : decode cX8_init 5 = .ok (.iconst 5, 1) := by decide +kernel
theorem dX8_init_6 : decode cX8_init 6 = .ok (.newarray .int, 2) := by decide +kernel
theorem dX8_init_8 : decode cX8_init 8 = .ok (.putfield 9, 3) := by decide +kernel
theorem dX8_init_11 : decode cX8_init 11 = .ok (.aload_n 0, 1) := by decide +kernel
theorem dX8_init_12 : decode cX8_init 12 = .ok (.bipush 16, 2) := by decide +kernel
theorem dX8_init_14 : decode cX8_init 14 = .ok (.newarray .int, 2) := by decide +kernel
theorem dX8_init_16 : decode cX8_init 16 = .ok (.putfield 15, 3) := by decide +kernel
theorem dX8_init_19 : decode cX8_init 19 = .ok (.aload_n 0, 1) := by decide +kernel
theorem dX8_init_20 : decode cX8_init 20 = .ok (.invokevirtual 18, 3) := by decide +kernel
theorem dX8_init_23 : decode cX8_init 23 = .ok (.return_, 1) := by decide +kernel
theorem dX8_startAnew_0 : decode cX8_startAnew 0 = .ok (.aload_n 0, 1) := by decide +kernel
theorem dX8_startAnew_1 : decode cX8_startAnew 1 = .ok (.iconst 0, 1) := by decide +kernel
theorem dX8_startAnew_2 : decode cX8_startAnew 2 = .ok (.putfield 21, 3) := by decide +kernel
theorem dX8_startAnew_5 : decode cX8_startAnew 5 = .ok (.aload_n 0, 1) := by decide +kernel
theorem dX8_startAnew_6 : decode cX8_startAnew 6 = .ok (.iconst 0, 1) := by decide +kernel
theorem dX8_startAnew_7 : decode cX8_startAnew 7 = .ok (.putfield 25, 3) := by decide +kernel
theorem dX8_startAnew_10 : decode cX8_startAnew 10 = .ok (.aload_n 0, 1) := by decide +kernel
theorem dX8_startAnew_11 : decode cX8_startAnew 11 = .ok (.iconst 1, 1) := by decide +kernel
theorem dX8_startAnew_12 : decode cX8_startAnew 12 = .ok (.putfield 28, 3) := by decide +kernel
theorem dX8_startAnew_15 : decode cX8_startAnew 15 = .ok (.aload_n 0, 1) := by decide +kernel
theorem dX8_startAnew_16 : decode cX8_startAnew 16 = .ok (.iconst 4, 1) := by decide +kernel
theorem dX8_startAnew_17 : decode cX8_startAnew 17 = .ok (.putfield 31, 3) := by decide +kernel
theorem dX8_startAnew_20 : decode cX8_startAnew 20 = .ok (.return_, 1) := by decide +kernel
theorem dX8_addName_0 : decode cX8_addName 0 = .ok (.aload_n 0, 1) := by decide +kernel
theorem dX8_addName_1 : decode cX8_addName 1 = .ok (.getfield 21, 3) := by decide +kernel
theorem dX8_addName_4 : decode cX8_addName 4 = .ok (.ifCond .lt 15, 3) := by decide +kernel
theorem dX8_addName_7 : decode cX8_addName 7 = .ok (.aload_n 0, 1) := by decide +kernel
theorem dX8_addName_8 : decode cX8_addName 8 = .ok (.getfield 21, 3) := by decide +kernel
theorem dX8_addName_11 : decode cX8_addName 11 = .ok (.aload_n 0, 1) := by decide +kernel
theorem dX8_addName_12 : decode cX8_addName 12 = .ok (.getfield 9, 3) := by decide +kernel
theorem dX8_addName_15 : decode cX8_addName 15 = .ok (.arraylength, 1) := by decide +kernel
theorem dX8_addName_16 : decode cX8_addName 16 = .ok (.if_icmp .lt 6, 3) := by decide +kernel
theorem dX8_addName_19 : decode cX8_addName 19 = .ok (.bipush (-3), 2) := by decide +kernel
theorem dX8_addName_21 : decode cX8_addName 21 = .ok (.ireturn, 1) := by decide +kernel
theorem dX8_addName_22 : decode cX8_addName 22 = .ok (.aload_n 0, 1) := by decide +kernel
theorem dX8_addName_23 : decode cX8_addName 23 = .ok (.getfield 9, 3) := by decide +kernel
theorem dX8_addName_26 : decode cX8_addName 26 = .ok (.aload_n 0, 1) := by decide +kernel
theorem dX8_addName_27 : decode cX8_addName 27 = .ok (.getfield 21, 3) := by decide +kernel
theorem dX8_addName_30 : decode cX8_addName 30 = .ok (.iload_n 1, 1) := by decide +kernel
theorem dX8_addName_31 : decode cX8_addName 31 = .ok (.iastore, 1) := by decide +kernel
theorem dX8_addName_32 : decode cX8_addName 32 = .ok (.aload_n 0, 1) := by decide +kernel
theorem dX8_addName_33 : decode cX8_addName 33 = .ok (.dup, 1) := by decide +kernel
theorem dX8_addName_34 : decode cX8_addName 34 = .ok (.getfield 21, 3) := by decide +kernel
theorem dX8_addName_37 : decode cX8_addName 37 = .ok (.iconst 1, 1) := by decide +kernel
theorem dX8_addName_38 : decode cX8_addName 38 = .ok (.iadd, 1) := by decide +kernel
theorem dX8_addName_39 : decode cX8_addName 39 = .ok (.putfield 21, 3) := by decide +kernel
theorem dX8_addName_42 : decode cX8_addName 42 = .ok (.aload_n 0, 1) := by decide +kernel
theorem dX8_addName_43 : decode cX8_addName 43 = .ok (.getfield 21, 3) := by decide +kernel
theorem dX8_addName_46 : decode cX8_addName 46 = .ok (.iconst 1, 1) := by decide +kernel
theorem dX8_addName_47 : decode cX8_addName 47 = .ok (.isub, 1) := by decide +kernel
theorem dX8_addName_48 : decode cX8_addName 48 = .ok (.ireturn, 1) := by decide +kernel
theorem dX8_addRow_0 : decode cX8_addRow 0 = .ok (.aload_n 0, 1) := by decide +kernel
theorem dX8_addRow_1 : decode cX8_addRow 1 = .ok (.getfield 25, 3) := by decide +kernel
theorem dX8_addRow_4 : decode cX8_addRow 4 = .ok (.ifCond .lt 15, 3) := by decide +kernel
theorem dX8_addRow_7 : decode cX8_addRow 7 = .ok (.aload_n 0, 1) := by decide +kernel
theorem dX8_addRow_8 : decode cX8_addRow 8 = .ok (.getfield 25, 3) := by decide +kernel
theorem dX8_addRow_11 : decode cX8_addRow 11 = .ok (.aload_n 0, 1) := by decide +kernel
theorem dX8_addRow_12 : decode cX8_addRow 12 = .ok (.getfield 15, 3) := by decide +kernel
theorem dX8_addRow_15 : decode cX8_addRow 15 = .ok (.arraylength, 1) := by decide +kernel
theorem dX8_addRow_16 : decode cX8_addRow 16 = .ok (.if_icmp .lt 6, 3) := by decide +kernel
theorem dX8_addRow_19 : decode cX8_addRow 19 = .ok (.bipush (-3), 2) := by decide +kernel
theorem dX8_addRow_21 : decode cX8_addRow 21 = .ok (.ireturn, 1) := by decide +kernel
theorem dX8_addRow_22 : decode cX8_addRow 22 = .ok (.aload_n 0, 1) := by decide +kernel
theorem dX8_addRow_23 : decode cX8_addRow 23 = .ok (.getfield 15, 3) := by decide +kernel
theorem dX8_addRow_26 : decode cX8_addRow 26 = .ok (.aload_n 0, 1) := by decide +kernel
theorem dX8_addRow_27 : decode cX8_addRow 27 = .ok (.getfield 25, 3) := by decide +kernel
theorem dX8_addRow_30 : decode cX8_addRow 30 = .ok (.iload_n 1, 1) := by decide +kernel
theorem dX8_addRow_31 : decode cX8_addRow 31 = .ok (.iastore, 1) := by decide +kernel
theorem dX8_addRow_32 : decode cX8_addRow 32 = .ok (.aload_n 0, 1) := by decide +kernel
theorem dX8_addRow_33 : decode cX8_addRow 33 = .ok (.dup, 1) := by decide +kernel
theorem dX8_addRow_34 : decode cX8_addRow 34 = .ok (.getfield 25, 3) := by decide +kernel
theorem dX8_addRow_37 : decode cX8_addRow 37 = .ok (.iconst 1, 1) := by decide +kernel
theorem dX8_addRow_38 : decode cX8_addRow 38 = .ok (.iadd, 1) := by decide +kernel
theorem dX8_addRow_39 : decode cX8_addRow 39 = .ok (.putfield 25, 3) := by decide +kernel
theorem dX8_addRow_42 : decode cX8_addRow 42 = .ok (.aload_n 0, 1) := by decide +kernel
theorem dX8_addRow_43 : decode cX8_addRow 43 = .ok (.getfield 25, 3) := by decide +kernel
theorem dX8_addRow_46 : decode cX8_addRow 46 = .ok (.iconst 1, 1) := by decide +kernel
theorem dX8_addRow_47 : decode cX8_addRow 47 = .ok (.isub, 1) := by decide +kernel
theorem dX8_addRow_48 : decode cX8_addRow 48 = .ok (.ireturn, 1) := by decide +kernel
theorem dX8_removeRow_0 : decode cX8_removeRow 0 = .ok (.iload_n 1, 1) := by decide +kernel
theorem dX8_removeRow_1 : decode cX8_removeRow 1 = .ok (.istore_n 2, 1) := by decide +kernel
theorem dX8_removeRow_2 : decode cX8_removeRow 2 = .ok (.iload_n 2, 1) := by decide +kernel
theorem dX8_removeRow_3 : decode cX8_removeRow 3 = .ok (.ifCond .lt 44, 3) := by decide +kernel
theorem dX8_removeRow_6 : decode cX8_removeRow 6 = .ok (.iload_n 2, 1) := by decide +kernel
theorem dX8_removeRow_7 : decode cX8_removeRow 7 = .ok (.iconst 1, 1) := by decide +kernel
theorem dX8_removeRow_8 : decode cX8_removeRow 8 = .ok (.iadd, 1) := by decide +kernel
theorem dX8_removeRow_9 : decode cX8_removeRow 9 = .ok (.aload_n 0, 1) := by decide +kernel
theorem dX8_removeRow_10 : decode cX8_removeRow 10 = .ok (.getfield 25, 3) := by decide +kernel
theorem dX8_removeRow_13 : decode cX8_removeRow 13 = .ok (.if_icmp .ge 34, 3) := by decide +kernel
theorem dX8_removeRow_16 : decode cX8_removeRow 16 = .ok (.iload_n 2, 1) := by decide +kernel
theorem dX8_removeRow_17 : decode cX8_removeRow 17 = .ok (.iconst 1, 1) := by decide +kernel
theorem dX8_removeRow_18 : decode cX8_removeRow 18 = .ok (.iadd, 1) := by decide +kernel
theorem dX8_removeRow_19 : decode cX8_removeRow 19 = .ok (.aload_n 0, 1) := by decide +kernel
theorem dX8_removeRow_20 : decode cX8_removeRow 20 = .ok (.getfield 15, 3) := by decide +kernel
theorem dX8_removeRow_23 : decode cX8_removeRow 23 = .ok (.arraylength, 1) := by decide +kernel
theorem dX8_removeRow_24 : decode cX8_removeRow 24 = .ok (.if_icmp .ge 23, 3) := by decide +kernel
theorem dX8_removeRow_27 : decode cX8_removeRow 27 = .ok (.aload_n 0, 1) := by decide +kernel
theorem dX8_removeRow_28 : decode cX8_removeRow 28 = .ok (.getfield 15, 3) := by decide +kernel
theorem dX8_removeRow_31 : decode cX8_removeRow 31 = .ok (.iload_n 2, 1) := by decide +kernel
theorem dX8_removeRow_32 : decode cX8_removeRow 32 = .ok (.aload_n 0, 1) := by decide +kernel
theorem dX8_removeRow_33 : decode cX8_removeRow 33 = .ok (.getfield 15, 3) := by decide +kernel
theorem dX8_removeRow_36 : decode cX8_removeRow 36 = .ok (.iload_n 2, 1) := by decide +kernel
theorem dX8_removeRow_37 : decode cX8_removeRow 37 = .ok (.iconst 1, 1) := by decide +kernel
theorem dX8_removeRow_38 : decode cX8_removeRow 38 = .ok (.iadd, 1) := by decide +kernel
theorem dX8_removeRow_39 : decode cX8_removeRow 39 = .ok (.iaload, 1) := by decide +kernel
theorem dX8_removeRow_40 : decode cX8_removeRow 40 = .ok (.iastore, 1) := by decide +kernel
theorem dX8_removeRow_41 : decode cX8_removeRow 41 = .ok (.iinc 2 1, 3) := by decide +kernel
theorem dX8_removeRow_44 : decode cX8_removeRow 44 = .ok (.goto (-42), 3) := by decide +kernel
theorem dX8_removeRow_47 : decode cX8_removeRow 47 = .ok (.aload_n 0, 1) := by decide +kernel
theorem dX8_removeRow_48 : decode cX8_removeRow 48 = .ok (.dup, 1) := by decide +kernel
theorem dX8_removeRow_49 : decode cX8_removeRow 49 = .ok (.getfield 25, 3) := by decide +kernel
theorem dX8_removeRow_52 : decode cX8_removeRow 52 = .ok (.iconst 1, 1) := by decide +kernel
theorem dX8_removeRow_53 : decode cX8_removeRow 53 = .ok (.isub, 1) := by decide +kernel
theorem dX8_removeRow_54 : decode cX8_removeRow 54 = .ok (.putfield 25, 3) := by decide +kernel
theorem dX8_removeRow_57 : decode cX8_removeRow 57 = .ok (.aload_n 0, 1) := by decide +kernel
theorem dX8_removeRow_58 : decode cX8_removeRow 58 = .ok (.getfield 25, 3) := by decide +kernel
theorem dX8_removeRow_61 : decode cX8_removeRow 61 = .ok (.ireturn, 1) := by decide +kernel
theorem dX8_valuesOf_0 : decode cX8_valuesOf 0 = .ok (.iload_n 1, 1) := by decide +kernel
theorem dX8_valuesOf_1 : decode cX8_valuesOf 1 = .ok (.ifCond .lt 29, 3) := by decide +kernel
theorem dX8_valuesOf_4 : decode cX8_valuesOf 4 = .ok (.iload_n 1, 1) := by decide +kernel
theorem dX8_valuesOf_5 : decode cX8_valuesOf 5 = .ok (.aload_n 0, 1) := by decide +kernel
theorem dX8_valuesOf_6 : decode cX8_valuesOf 6 = .ok (.getfield 21, 3) := by decide +kernel
theorem dX8_valuesOf_9 : decode cX8_valuesOf 9 = .ok (.if_icmp .ge 21, 3) := by decide +kernel
theorem dX8_valuesOf_12 : decode cX8_valuesOf 12 = .ok (.iload_n 1, 1) := by decide +kernel
theorem dX8_valuesOf_13 : decode cX8_valuesOf 13 = .ok (.aload_n 0, 1) := by decide +kernel
theorem dX8_valuesOf_14 : decode cX8_valuesOf 14 = .ok (.getfield 9, 3) := by decide +kernel
theorem dX8_valuesOf_17 : decode cX8_valuesOf 17 = .ok (.arraylength, 1) := by decide +kernel
theorem dX8_valuesOf_18 : decode cX8_valuesOf 18 = .ok (.if_icmp .ge 12, 3) := by decide +kernel
theorem dX8_valuesOf_21 : decode cX8_valuesOf 21 = .ok (.aload_n 0, 1) := by decide +kernel
theorem dX8_valuesOf_22 : decode cX8_valuesOf 22 = .ok (.getfield 9, 3) := by decide +kernel
theorem dX8_valuesOf_25 : decode cX8_valuesOf 25 = .ok (.iload_n 1, 1) := by decide +kernel
theorem dX8_valuesOf_26 : decode cX8_valuesOf 26 = .ok (.iaload, 1) := by decide +kernel
theorem dX8_valuesOf_27 : decode cX8_valuesOf 27 = .ok (.goto 4, 3) := by decide +kernel
theorem dX8_valuesOf_30 : decode cX8_valuesOf 30 = .ok (.iconst 1, 1) := by decide +kernel
theorem dX8_valuesOf_31 : decode cX8_valuesOf 31 = .ok (.ireturn, 1) := by decide +kernel
theorem dX8_valueIn_0 : decode cX8_valueIn 0 = .ok (.aload_n 0, 1) := by decide +kernel
theorem dX8_valueIn_1 : decode cX8_valueIn 1 = .ok (.iload_n 1, 1) := by decide +kernel
theorem dX8_valueIn_2 : decode cX8_valueIn 2 = .ok (.invokevirtual 34, 3) := by decide +kernel
theorem dX8_valueIn_5 : decode cX8_valueIn 5 = .ok (.iconst 2, 1) := by decide +kernel
theorem dX8_valueIn_6 : decode cX8_valueIn 6 = .ok (.iload_n 2, 1) := by decide +kernel
theorem dX8_valueIn_7 : decode cX8_valueIn 7 = .ok (.imul, 1) := by decide +kernel
theorem dX8_valueIn_8 : decode cX8_valueIn 8 = .ok (.ishr, 1) := by decide +kernel
theorem dX8_valueIn_9 : decode cX8_valueIn 9 = .ok (.iconst 3, 1) := by decide +kernel
theorem dX8_valueIn_10 : decode cX8_valueIn 10 = .ok (.iand, 1) := by decide +kernel
theorem dX8_valueIn_11 : decode cX8_valueIn 11 = .ok (.ireturn, 1) := by decide +kernel
theorem dX8_pourFit_0 : decode cX8_pourFit 0 = .ok (.aload_n 0, 1) := by decide +kernel
theorem dX8_pourFit_1 : decode cX8_pourFit 1 = .ok (.iload_n 1, 1) := by decide +kernel
theorem dX8_pourFit_2 : decode cX8_pourFit 2 = .ok (.invokevirtual 38, 3) := by decide +kernel
theorem dX8_pourFit_5 : decode cX8_pourFit 5 = .ok (.istore 4, 2) := by decide +kernel
theorem dX8_pourFit_7 : decode cX8_pourFit 7 = .ok (.iconst 3, 1) := by decide +kernel
theorem dX8_pourFit_8 : decode cX8_pourFit 8 = .ok (.iconst 2, 1) := by decide +kernel
theorem dX8_pourFit_9 : decode cX8_pourFit 9 = .ok (.iload_n 1, 1) := by decide +kernel
theorem dX8_pourFit_10 : decode cX8_pourFit 10 = .ok (.imul, 1) := by decide +kernel
theorem dX8_pourFit_11 : decode cX8_pourFit 11 = .ok (.ishl, 1) := by decide +kernel
theorem dX8_pourFit_12 : decode cX8_pourFit 12 = .ok (.istore 5, 2) := by decide +kernel
theorem dX8_pourFit_14 : decode cX8_pourFit 14 = .ok (.iconst 0, 1) := by decide +kernel
theorem dX8_pourFit_15 : decode cX8_pourFit 15 = .ok (.istore 6, 2) := by decide +kernel
theorem dX8_pourFit_17 : decode cX8_pourFit 17 = .ok (.iload 4, 2) := by decide +kernel
theorem dX8_pourFit_19 : decode cX8_pourFit 19 = .ok (.istore 7, 2) := by decide +kernel
theorem dX8_pourFit_21 : decode cX8_pourFit 21 = .ok (.iconst 0, 1) := by decide +kernel
theorem dX8_pourFit_22 : decode cX8_pourFit 22 = .ok (.istore 8, 2) := by decide +kernel
theorem dX8_pourFit_24 : decode cX8_pourFit 24 = .ok (.iload 8, 2) := by decide +kernel
theorem dX8_pourFit_26 : decode cX8_pourFit 26 = .ok (.aload_n 0, 1) := by decide +kernel
theorem dX8_pourFit_27 : decode cX8_pourFit 27 = .ok (.getfield 21, 3) := by decide +kernel
theorem dX8_pourFit_30 : decode cX8_pourFit 30 = .ok (.if_icmp .ge 40, 3) := by decide +kernel
theorem dX8_pourFit_33 : decode cX8_pourFit 33 = .ok (.iload_n 2, 1) := by decide +kernel
theorem dX8_pourFit_34 : decode cX8_pourFit 34 = .ok (.iload 8, 2) := by decide +kernel
theorem dX8_pourFit_36 : decode cX8_pourFit 36 = .ok (.invokestatic 41, 3) := by decide +kernel
theorem dX8_pourFit_39 : decode cX8_pourFit 39 = .ok (.ifCond .eq 25, 3) := by decide +kernel
theorem dX8_pourFit_42 : decode cX8_pourFit 42 = .ok (.iload 6, 2) := by decide +kernel
theorem dX8_pourFit_44 : decode cX8_pourFit 44 = .ok (.iconst 3, 1) := by decide +kernel
theorem dX8_pourFit_45 : decode cX8_pourFit 45 = .ok (.iconst 2, 1) := by decide +kernel
theorem dX8_pourFit_46 : decode cX8_pourFit 46 = .ok (.iload 8, 2) := by decide +kernel
theorem dX8_pourFit_48 : decode cX8_pourFit 48 = .ok (.imul, 1) := by decide +kernel
theorem dX8_pourFit_49 : decode cX8_pourFit 49 = .ok (.ishl, 1) := by decide +kernel
theorem dX8_pourFit_50 : decode cX8_pourFit 50 = .ok (.ior, 1) := by decide +kernel
theorem dX8_pourFit_51 : decode cX8_pourFit 51 = .ok (.istore 6, 2) := by decide +kernel
theorem dX8_pourFit_53 : decode cX8_pourFit 53 = .ok (.iload 7, 2) := by decide +kernel
theorem dX8_pourFit_55 : decode cX8_pourFit 55 = .ok (.aload_n 0, 1) := by decide +kernel
theorem dX8_pourFit_56 : decode cX8_pourFit 56 = .ok (.iload 8, 2) := by decide +kernel
theorem dX8_pourFit_58 : decode cX8_pourFit 58 = .ok (.invokevirtual 38, 3) := by decide +kernel
theorem dX8_pourFit_61 : decode cX8_pourFit 61 = .ok (.imul, 1) := by decide +kernel
theorem dX8_pourFit_62 : decode cX8_pourFit 62 = .ok (.istore 7, 2) := by decide +kernel
theorem dX8_pourFit_64 : decode cX8_pourFit 64 = .ok (.iinc 8 1, 3) := by decide +kernel
theorem dX8_pourFit_67 : decode cX8_pourFit 67 = .ok (.goto (-43), 3) := by decide +kernel
theorem dX8_pourFit_70 : decode cX8_pourFit 70 = .ok (.iconst 0, 1) := by decide +kernel
theorem dX8_pourFit_71 : decode cX8_pourFit 71 = .ok (.istore 8, 2) := by decide +kernel
theorem dX8_pourFit_73 : decode cX8_pourFit 73 = .ok (.iload 8, 2) := by decide +kernel
theorem dX8_pourFit_75 : decode cX8_pourFit 75 = .ok (.aload_n 0, 1) := by decide +kernel
theorem dX8_pourFit_76 : decode cX8_pourFit 76 = .ok (.getfield 25, 3) := by decide +kernel
theorem dX8_pourFit_79 : decode cX8_pourFit 79 = .ok (.if_icmp .ge 104, 3) := by decide +kernel
theorem dX8_pourFit_82 : decode cX8_pourFit 82 = .ok (.iconst 0, 1) := by decide +kernel
theorem dX8_pourFit_83 : decode cX8_pourFit 83 = .ok (.istore 9, 2) := by decide +kernel
theorem dX8_pourFit_85 : decode cX8_pourFit 85 = .ok (.iconst 0, 1) := by decide +kernel
theorem dX8_pourFit_86 : decode cX8_pourFit 86 = .ok (.istore 10, 2) := by decide +kernel
theorem dX8_pourFit_88 : decode cX8_pourFit 88 = .ok (.iconst 0, 1) := by decide +kernel
theorem dX8_pourFit_89 : decode cX8_pourFit 89 = .ok (.istore 11, 2) := by decide +kernel
theorem dX8_pourFit_91 : decode cX8_pourFit 91 = .ok (.iload 11, 2) := by decide +kernel
theorem dX8_pourFit_93 : decode cX8_pourFit 93 = .ok (.iload 8, 2) := by decide +kernel
theorem dX8_pourFit_95 : decode cX8_pourFit 95 = .ok (.if_icmp .ge 49, 3) := by decide +kernel
theorem dX8_pourFit_98 : decode cX8_pourFit 98 = .ok (.aload_n 0, 1) := by decide +kernel
theorem dX8_pourFit_99 : decode cX8_pourFit 99 = .ok (.iload 8, 2) := by decide +kernel
theorem dX8_pourFit_101 : decode cX8_pourFit 101 = .ok (.invokevirtual 34, 3) := by decide +kernel
theorem dX8_pourFit_104 : decode cX8_pourFit 104 = .ok (.aload_n 0, 1) := by decide +kernel
theorem dX8_pourFit_105 : decode cX8_pourFit 105 = .ok (.iload 11, 2) := by decide +kernel
theorem dX8_pourFit_107 : decode cX8_pourFit 107 = .ok (.invokevirtual 34, 3) := by decide +kernel
theorem dX8_pourFit_110 : decode cX8_pourFit 110 = .ok (.ixor, 1) := by decide +kernel
theorem dX8_pourFit_111 : decode cX8_pourFit 111 = .ok (.istore 12, 2) := by decide +kernel
theorem dX8_pourFit_113 : decode cX8_pourFit 113 = .ok (.iload 12, 2) := by decide +kernel
theorem dX8_pourFit_115 : decode cX8_pourFit 115 = .ok (.iload 6, 2) := by decide +kernel
theorem dX8_pourFit_117 : decode cX8_pourFit 117 = .ok (.iand, 1) := by decide +kernel
theorem dX8_pourFit_118 : decode cX8_pourFit 118 = .ok (.ifCond .eq 6, 3) := by decide +kernel
theorem dX8_pourFit_121 : decode cX8_pourFit 121 = .ok (.goto 17, 3) := by decide +kernel
theorem dX8_pourFit_124 : decode cX8_pourFit 124 = .ok (.iinc 9 1, 3) := by decide +kernel
theorem dX8_pourFit_127 : decode cX8_pourFit 127 = .ok (.iload 12, 2) := by decide +kernel
theorem dX8_pourFit_129 : decode cX8_pourFit 129 = .ok (.iload 5, 2) := by decide +kernel
theorem dX8_pourFit_131 : decode cX8_pourFit 131 = .ok (.iand, 1) := by decide +kernel
theorem dX8_pourFit_132 : decode cX8_pourFit 132 = .ok (.ifCond .ne 6, 3) := by decide +kernel
theorem dX8_pourFit_135 : decode cX8_pourFit 135 = .ok (.iinc 10 1, 3) := by decide +kernel
theorem dX8_pourFit_138 : decode cX8_pourFit 138 = .ok (.iinc 11 1, 3) := by decide +kernel
theorem dX8_pourFit_141 : decode cX8_pourFit 141 = .ok (.goto (-50), 3) := by decide +kernel
theorem dX8_pourFit_144 : decode cX8_pourFit 144 = .ok (.aload_n 3, 1) := by decide +kernel
theorem dX8_pourFit_145 : decode cX8_pourFit 145 = .ok (.aload_n 0, 1) := by decide +kernel
theorem dX8_pourFit_146 : decode cX8_pourFit 146 = .ok (.getfield 28, 3) := by decide +kernel
theorem dX8_pourFit_149 : decode cX8_pourFit 149 = .ok (.iload 10, 2) := by decide +kernel
theorem dX8_pourFit_151 : decode cX8_pourFit 151 = .ok (.iload 7, 2) := by decide +kernel
theorem dX8_pourFit_153 : decode cX8_pourFit 153 = .ok (.imul, 1) := by decide +kernel
theorem dX8_pourFit_154 : decode cX8_pourFit 154 = .ok (.iadd, 1) := by decide +kernel
theorem dX8_pourFit_155 : decode cX8_pourFit 155 = .ok (.iconst 1, 1) := by decide +kernel
theorem dX8_pourFit_156 : decode cX8_pourFit 156 = .ok (.invokevirtual 47, 3) := by decide +kernel
theorem dX8_pourFit_159 : decode cX8_pourFit 159 = .ok (.aload_n 3, 1) := by decide +kernel
theorem dX8_pourFit_160 : decode cX8_pourFit 160 = .ok (.iload 4, 2) := by decide +kernel
theorem dX8_pourFit_162 : decode cX8_pourFit 162 = .ok (.aload_n 0, 1) := by decide +kernel
theorem dX8_pourFit_163 : decode cX8_pourFit 163 = .ok (.getfield 28, 3) := by decide +kernel
theorem dX8_pourFit_166 : decode cX8_pourFit 166 = .ok (.imul, 1) := by decide +kernel
theorem dX8_pourFit_167 : decode cX8_pourFit 167 = .ok (.iload 9, 2) := by decide +kernel
theorem dX8_pourFit_169 : decode cX8_pourFit 169 = .ok (.iload 7, 2) := by decide +kernel
theorem dX8_pourFit_171 : decode cX8_pourFit 171 = .ok (.imul, 1) := by decide +kernel
theorem dX8_pourFit_172 : decode cX8_pourFit 172 = .ok (.iadd, 1) := by decide +kernel
theorem dX8_pourFit_173 : decode cX8_pourFit 173 = .ok (.iconst (-1), 1) := by decide +kernel
theorem dX8_pourFit_174 : decode cX8_pourFit 174 = .ok (.invokevirtual 47, 3) := by decide +kernel
theorem dX8_pourFit_177 : decode cX8_pourFit 177 = .ok (.iinc 8 1, 3) := by decide +kernel
theorem dX8_pourFit_180 : decode cX8_pourFit 180 = .ok (.goto (-107), 3) := by decide +kernel
theorem dX8_pourFit_183 : decode cX8_pourFit 183 = .ok (.return_, 1) := by decide +kernel
theorem dX8_codeOf_0 : decode cX8_codeOf 0 = .ok (.iload_n 1, 1) := by decide +kernel
theorem dX8_codeOf_1 : decode cX8_codeOf 1 = .ok (.ifCond .lt 29, 3) := by decide +kernel
theorem dX8_codeOf_4 : decode cX8_codeOf 4 = .ok (.iload_n 1, 1) := by decide +kernel
theorem dX8_codeOf_5 : decode cX8_codeOf 5 = .ok (.aload_n 0, 1) := by decide +kernel
theorem dX8_codeOf_6 : decode cX8_codeOf 6 = .ok (.getfield 25, 3) := by decide +kernel
theorem dX8_codeOf_9 : decode cX8_codeOf 9 = .ok (.if_icmp .ge 21, 3) := by decide +kernel
theorem dX8_codeOf_12 : decode cX8_codeOf 12 = .ok (.iload_n 1, 1) := by decide +kernel
theorem dX8_codeOf_13 : decode cX8_codeOf 13 = .ok (.aload_n 0, 1) := by decide +kernel
theorem dX8_codeOf_14 : decode cX8_codeOf 14 = .ok (.getfield 15, 3) := by decide +kernel
theorem dX8_codeOf_17 : decode cX8_codeOf 17 = .ok (.arraylength, 1) := by decide +kernel
theorem dX8_codeOf_18 : decode cX8_codeOf 18 = .ok (.if_icmp .ge 12, 3) := by decide +kernel
theorem dX8_codeOf_21 : decode cX8_codeOf 21 = .ok (.aload_n 0, 1) := by decide +kernel
theorem dX8_codeOf_22 : decode cX8_codeOf 22 = .ok (.getfield 15, 3) := by decide +kernel
theorem dX8_codeOf_25 : decode cX8_codeOf 25 = .ok (.iload_n 1, 1) := by decide +kernel
theorem dX8_codeOf_26 : decode cX8_codeOf 26 = .ok (.iaload, 1) := by decide +kernel
theorem dX8_codeOf_27 : decode cX8_codeOf 27 = .ok (.goto 4, 3) := by decide +kernel
theorem dX8_codeOf_30 : decode cX8_codeOf 30 = .ok (.iconst 0, 1) := by decide +kernel
theorem dX8_codeOf_31 : decode cX8_codeOf 31 = .ok (.ireturn, 1) := by decide +kernel
theorem dX9_init_0 : decode cX9_init 0 = .ok (.aload_n 0, 1) := by decide +kernel
theorem dX9_init_1 : decode cX9_init 1 = .ok (.invokespecial 1, 3) := by decide +kernel
theorem dX9_init_4 : decode cX9_init 4 = .ok (.aload_n 0, 1) := by decide +kernel
theorem dX9_init_5 : decode cX9_init 5 = .ok (.aload_n 1, 1) := by decide +kernel
theorem dX9_init_6 : decode cX9_init 6 = .ok (.putfield 7, 3) := by decide +kernel
theorem dX9_init_9 : decode cX9_init 9 = .ok (.aload_n 0, 1) := by decide +kernel
theorem dX9_init_10 : decode cX9_init 10 = .ok (.bipush 9, 2) := by decide +kernel
theorem dX9_init_12 : decode cX9_init 12 = .ok (.newarray .int, 2) := by decide +kernel
theorem dX9_init_14 : decode cX9_init 14 = .ok (.putfield 13, 3) := by decide +kernel
theorem dX9_init_17 : decode cX9_init 17 = .ok (.aload_n 0, 1) := by decide +kernel
theorem dX9_init_18 : decode cX9_init 18 = .ok (.iconst 3, 1) := by decide +kernel
theorem dX9_init_19 : decode cX9_init 19 = .ok (.newarray .int, 2) := by decide +kernel
theorem dX9_init_21 : decode cX9_init 21 = .ok (.putfield 17, 3) := by decide +kernel
theorem dX9_init_24 : decode cX9_init 24 = .ok (.aload_n 0, 1) := by decide +kernel
theorem dX9_init_25 : decode cX9_init 25 = .ok (.iconst 3, 1) := by decide +kernel
theorem dX9_init_26 : decode cX9_init 26 = .ok (.newarray .int, 2) := by decide +kernel
theorem dX9_init_28 : decode cX9_init 28 = .ok (.putfield 20, 3) := by decide +kernel
theorem dX9_init_31 : decode cX9_init 31 = .ok (.return_, 1) := by decide +kernel
theorem dX9_count_0 : decode cX9_count 0 = .ok (.iconst 0, 1) := by decide +kernel
theorem dX9_count_1 : decode cX9_count 1 = .ok (.istore 5, 2) := by decide +kernel
theorem dX9_count_3 : decode cX9_count 3 = .ok (.iload 5, 2) := by decide +kernel
theorem dX9_count_5 : decode cX9_count 5 = .ok (.aload_n 0, 1) := by decide +kernel
theorem dX9_count_6 : decode cX9_count 6 = .ok (.getfield 13, 3) := by decide +kernel
theorem dX9_count_9 : decode cX9_count 9 = .ok (.arraylength, 1) := by decide +kernel
theorem dX9_count_10 : decode cX9_count 10 = .ok (.if_icmp .ge 17, 3) := by decide +kernel
theorem dX9_count_13 : decode cX9_count 13 = .ok (.aload_n 0, 1) := by decide +kernel
theorem dX9_count_14 : decode cX9_count 14 = .ok (.getfield 13, 3) := by decide +kernel
theorem dX9_count_17 : decode cX9_count 17 = .ok (.iload 5, 2) := by decide +kernel
theorem dX9_count_19 : decode cX9_count 19 = .ok (.iconst 0, 1) := by decide +kernel
theorem dX9_count_20 : decode cX9_count 20 = .ok (.iastore, 1) := by decide +kernel
theorem dX9_count_21 : decode cX9_count 21 = .ok (.iinc 5 1, 3) := by decide +kernel
theorem dX9_count_24 : decode cX9_count 24 = .ok (.goto (-21), 3) := by decide +kernel
theorem dX9_count_27 : decode cX9_count 27 = .ok (.iconst 0, 1) := by decide +kernel
theorem dX9_count_28 : decode cX9_count 28 = .ok (.istore 5, 2) := by decide +kernel
theorem dX9_count_30 : decode cX9_count 30 = .ok (.iload 5, 2) := by decide +kernel
theorem dX9_count_32 : decode cX9_count 32 = .ok (.aload_n 0, 1) := by decide +kernel
theorem dX9_count_33 : decode cX9_count 33 = .ok (.getfield 7, 3) := by decide +kernel
theorem dX9_count_36 : decode cX9_count 36 = .ok (.getfield 23, 3) := by decide +kernel
theorem dX9_count_39 : decode cX9_count 39 = .ok (.if_icmp .ge 82, 3) := by decide +kernel
theorem dX9_count_42 : decode cX9_count 42 = .ok (.iload_n 3, 1) := by decide +kernel
theorem dX9_count_43 : decode cX9_count 43 = .ok (.ifCond .lt 21, 3) := by decide +kernel
theorem dX9_count_46 : decode cX9_count 46 = .ok (.aload_n 0, 1) := by decide +kernel
theorem dX9_count_47 : decode cX9_count 47 = .ok (.getfield 7, 3) := by decide +kernel
theorem dX9_count_50 : decode cX9_count 50 = .ok (.iload 5, 2) := by decide +kernel
theorem dX9_count_52 : decode cX9_count 52 = .ok (.iload_n 3, 1) := by decide +kernel
theorem dX9_count_53 : decode cX9_count 53 = .ok (.invokevirtual 29, 3) := by decide +kernel
theorem dX9_count_56 : decode cX9_count 56 = .ok (.iload 4, 2) := by decide +kernel
theorem dX9_count_58 : decode cX9_count 58 = .ok (.if_icmp .eq 6, 3) := by decide +kernel
theorem dX9_count_61 : decode cX9_count 61 = .ok (.goto 54, 3) := by decide +kernel
theorem dX9_count_64 : decode cX9_count 64 = .ok (.iconst 3, 1) := by decide +kernel
theorem dX9_count_65 : decode cX9_count 65 = .ok (.aload_n 0, 1) := by decide +kernel
theorem dX9_count_66 : decode cX9_count 66 = .ok (.getfield 7, 3) := by decide +kernel
theorem dX9_count_69 : decode cX9_count 69 = .ok (.iload 5, 2) := by decide +kernel
theorem dX9_count_71 : decode cX9_count 71 = .ok (.iload_n 1, 1) := by decide +kernel
theorem dX9_count_72 : decode cX9_count 72 = .ok (.invokevirtual 29, 3) := by decide +kernel
theorem dX9_count_75 : decode cX9_count 75 = .ok (.imul, 1) := by decide +kernel
theorem dX9_count_76 : decode cX9_count 76 = .ok (.aload_n 0, 1) := by decide +kernel
theorem dX9_count_77 : decode cX9_count 77 = .ok (.getfield 7, 3) := by decide +kernel
theorem dX9_count_80 : decode cX9_count 80 = .ok (.iload 5, 2) := by decide +kernel
theorem dX9_count_82 : decode cX9_count 82 = .ok (.iload_n 2, 1) := by decide +kernel
theorem dX9_count_83 : decode cX9_count 83 = .ok (.invokevirtual 29, 3) := by decide +kernel
theorem dX9_count_86 : decode cX9_count 86 = .ok (.iadd, 1) := by decide +kernel
theorem dX9_count_87 : decode cX9_count 87 = .ok (.istore 6, 2) := by decide +kernel
theorem dX9_count_89 : decode cX9_count 89 = .ok (.iload 6, 2) := by decide +kernel
theorem dX9_count_91 : decode cX9_count 91 = .ok (.ifCond .lt 24, 3) := by decide +kernel
theorem dX9_count_94 : decode cX9_count 94 = .ok (.iload 6, 2) := by decide +kernel
theorem dX9_count_96 : decode cX9_count 96 = .ok (.aload_n 0, 1) := by decide +kernel
theorem dX9_count_97 : decode cX9_count 97 = .ok (.getfield 13, 3) := by decide +kernel
theorem dX9_count_100 : decode cX9_count 100 = .ok (.arraylength, 1) := by decide +kernel
theorem dX9_count_101 : decode cX9_count 101 = .ok (.if_icmp .ge 14, 3) := by decide +kernel
theorem dX9_count_104 : decode cX9_count 104 = .ok (.aload_n 0, 1) := by decide +kernel
theorem dX9_count_105 : decode cX9_count 105 = .ok (.getfield 13, 3) := by decide +kernel
theorem dX9_count_108 : decode cX9_count 108 = .ok (.iload 6, 2) := by decide +kernel
theorem dX9_count_110 : decode cX9_count 110 = .ok (.dup2, 1) := by decide +kernel
theorem dX9_count_111 : decode cX9_count 111 = .ok (.iaload, 1) := by decide +kernel
theorem dX9_count_112 : decode cX9_count 112 = .ok (.iconst 1, 1) := by decide +kernel
theorem dX9_count_113 : decode cX9_count 113 = .ok (.iadd, 1) := by decide +kernel
theorem dX9_count_114 : decode cX9_count 114 = .ok (.iastore, 1) := by decide +kernel
theorem dX9_count_115 : decode cX9_count 115 = .ok (.iinc 5 1, 3) := by decide +kernel
theorem dX9_count_118 : decode cX9_count 118 = .ok (.goto (-88), 3) := by decide +kernel
theorem dX9_count_121 : decode cX9_count 121 = .ok (.iconst 0, 1) := by decide +kernel
theorem dX9_count_122 : decode cX9_count 122 = .ok (.istore 5, 2) := by decide +kernel
theorem dX9_count_124 : decode cX9_count 124 = .ok (.iload 5, 2) := by decide +kernel
theorem dX9_count_126 : decode cX9_count 126 = .ok (.iconst 3, 1) := by decide +kernel
theorem dX9_count_127 : decode cX9_count 127 = .ok (.if_icmp .ge 89, 3) := by decide +kernel
theorem dX9_count_130 : decode cX9_count 130 = .ok (.iload 5, 2) := by decide +kernel
theorem dX9_count_132 : decode cX9_count 132 = .ok (.aload_n 0, 1) := by decide +kernel
theorem dX9_count_133 : decode cX9_count 133 = .ok (.getfield 17, 3) := by decide +kernel
theorem dX9_count_136 : decode cX9_count 136 = .ok (.arraylength, 1) := by decide +kernel
theorem dX9_count_137 : decode cX9_count 137 = .ok (.if_icmp .ge 79, 3) := by decide +kernel
theorem dX9_count_140 : decode cX9_count 140 = .ok (.iload 5, 2) := by decide +kernel
theorem dX9_count_142 : decode cX9_count 142 = .ok (.aload_n 0, 1) := by decide +kernel
theorem dX9_count_143 : decode cX9_count 143 = .ok (.getfield 20, 3) := by decide +kernel
theorem dX9_count_146 : decode cX9_count 146 = .ok (.arraylength, 1) := by decide +kernel
theorem dX9_count_147 : decode cX9_count 147 = .ok (.if_icmp .ge 69, 3) := by decide +kernel
theorem dX9_count_150 : decode cX9_count 150 = .ok (.aload_n 0, 1) := by decide +kernel
theorem dX9_count_151 : decode cX9_count 151 = .ok (.getfield 17, 3) := by decide +kernel
theorem dX9_count_154 : decode cX9_count 154 = .ok (.iload 5, 2) := by decide +kernel
theorem dX9_count_156 : decode cX9_count 156 = .ok (.aload_n 0, 1) := by decide +kernel
theorem dX9_count_157 : decode cX9_count 157 = .ok (.iload 5, 2) := by decide +kernel
theorem dX9_count_159 : decode cX9_count 159 = .ok (.iconst 0, 1) := by decide +kernel
theorem dX9_count_160 : decode cX9_count 160 = .ok (.invokevirtual 33, 3) := by decide +kernel
theorem dX9_count_163 : decode cX9_count 163 = .ok (.aload_n 0, 1) := by decide +kernel
theorem dX9_count_164 : decode cX9_count 164 = .ok (.iload 5, 2) := by decide +kernel
theorem dX9_count_166 : decode cX9_count 166 = .ok (.iconst 1, 1) := by decide +kernel
theorem dX9_count_167 : decode cX9_count 167 = .ok (.invokevirtual 33, 3) := by decide +kernel
theorem dX9_count_170 : decode cX9_count 170 = .ok (.iadd, 1) := by decide +kernel
theorem dX9_count_171 : decode cX9_count 171 = .ok (.aload_n 0, 1) := by decide +kernel
theorem dX9_count_172 : decode cX9_count 172 = .ok (.iload 5, 2) := by decide +kernel
theorem dX9_count_174 : decode cX9_count 174 = .ok (.iconst 2, 1) := by decide +kernel
theorem dX9_count_175 : decode cX9_count 175 = .ok (.invokevirtual 33, 3) := by decide +kernel
theorem dX9_count_178 : decode cX9_count 178 = .ok (.iadd, 1) := by decide +kernel
theorem dX9_count_179 : decode cX9_count 179 = .ok (.iastore, 1) := by decide +kernel
theorem dX9_count_180 : decode cX9_count 180 = .ok (.aload_n 0, 1) := by decide +kernel
theorem dX9_count_181 : decode cX9_count 181 = .ok (.getfield 20, 3) := by decide +kernel
theorem dX9_count_184 : decode cX9_count 184 = .ok (.iload 5, 2) := by decide +kernel
theorem dX9_count_186 : decode cX9_count 186 = .ok (.aload_n 0, 1) := by decide +kernel
theorem dX9_count_187 : decode cX9_count 187 = .ok (.iconst 0, 1) := by decide +kernel
theorem dX9_count_188 : decode cX9_count 188 = .ok (.iload 5, 2) := by decide +kernel
theorem dX9_count_190 : decode cX9_count 190 = .ok (.invokevirtual 33, 3) := by decide +kernel
theorem dX9_count_193 : decode cX9_count 193 = .ok (.aload_n 0, 1) := by decide +kernel
theorem dX9_count_194 : decode cX9_count 194 = .ok (.iconst 1, 1) := by decide +kernel
theorem dX9_count_195 : decode cX9_count 195 = .ok (.iload 5, 2) := by decide +kernel
theorem dX9_count_197 : decode cX9_count 197 = .ok (.invokevirtual 33, 3) := by decide +kernel
theorem dX9_count_200 : decode cX9_count 200 = .ok (.iadd, 1) := by decide +kernel
theorem dX9_count_201 : decode cX9_count 201 = .ok (.aload_n 0, 1) := by decide +kernel
theorem dX9_count_202 : decode cX9_count 202 = .ok (.iconst 2, 1) := by decide +kernel
theorem dX9_count_203 : decode cX9_count 203 = .ok (.iload 5, 2) := by decide +kernel
theorem dX9_count_205 : decode cX9_count 205 = .ok (.invokevirtual 33, 3) := by decide +kernel
theorem dX9_count_208 : decode cX9_count 208 = .ok (.iadd, 1) := by decide +kernel
theorem dX9_count_209 : decode cX9_count 209 = .ok (.iastore, 1) := by decide +kernel
theorem dX9_count_210 : decode cX9_count 210 = .ok (.iinc 5 1, 3) := by decide +kernel
theorem dX9_count_213 : decode cX9_count 213 = .ok (.goto (-89), 3) := by decide +kernel
theorem dX9_count_216 : decode cX9_count 216 = .ok (.return_, 1) := by decide +kernel
theorem dX9_allWays_0 : decode cX9_allWays 0 = .ok (.aload_n 0, 1) := by decide +kernel
theorem dX9_allWays_1 : decode cX9_allWays 1 = .ok (.iconst 0, 1) := by decide +kernel
theorem dX9_allWays_2 : decode cX9_allWays 2 = .ok (.invokevirtual 36, 3) := by decide +kernel
theorem dX9_allWays_5 : decode cX9_allWays 5 = .ok (.aload_n 0, 1) := by decide +kernel
theorem dX9_allWays_6 : decode cX9_allWays 6 = .ok (.iconst 1, 1) := by decide +kernel
theorem dX9_allWays_7 : decode cX9_allWays 7 = .ok (.invokevirtual 36, 3) := by decide +kernel
theorem dX9_allWays_10 : decode cX9_allWays 10 = .ok (.aload_n 0, 1) := by decide +kernel
theorem dX9_allWays_11 : decode cX9_allWays 11 = .ok (.iconst 2, 1) := by decide +kernel
theorem dX9_allWays_12 : decode cX9_allWays 12 = .ok (.invokevirtual 36, 3) := by decide +kernel
theorem dX9_allWays_15 : decode cX9_allWays 15 = .ok (.invokestatic 40, 3) := by decide +kernel
theorem dX9_allWays_18 : decode cX9_allWays 18 = .ok (.lreturn, 1) := by decide +kernel
theorem dX9_waysNotAbove_0 : decode cX9_waysNotAbove 0 = .ok (.lconst 1, 1) := by decide +kernel
theorem dX9_waysNotAbove_1 : decode cX9_waysNotAbove 1 = .ok (.lstore_n 1, 1) := by decide +kernel
theorem dX9_waysNotAbove_2 : decode cX9_waysNotAbove 2 = .ok (.iconst 0, 1) := by decide +kernel
theorem dX9_waysNotAbove_3 : decode cX9_waysNotAbove 3 = .ok (.istore_n 3, 1) := by decide +kernel
theorem dX9_waysNotAbove_4 : decode cX9_waysNotAbove 4 = .ok (.iload_n 3, 1) := by decide +kernel
theorem dX9_waysNotAbove_5 : decode cX9_waysNotAbove 5 = .ok (.iconst 3, 1) := by decide +kernel
theorem dX9_waysNotAbove_6 : decode cX9_waysNotAbove 6 = .ok (.if_icmp .ge 33, 3) := by decide +kernel
theorem dX9_waysNotAbove_9 : decode cX9_waysNotAbove 9 = .ok (.lload_n 1, 1) := by decide +kernel
theorem dX9_waysNotAbove_10 : decode cX9_waysNotAbove 10 = .ok (.aload_n 0, 1) := by decide +kernel
theorem dX9_waysNotAbove_11 : decode cX9_waysNotAbove 11 = .ok (.iload_n 3, 1) := by decide +kernel
theorem dX9_waysNotAbove_12 : decode cX9_waysNotAbove 12 = .ok (.iconst 0, 1) := by decide +kernel
theorem dX9_waysNotAbove_13 : decode cX9_waysNotAbove 13 = .ok (.invokevirtual 33, 3) := by decide +kernel
theorem dX9_waysNotAbove_16 : decode cX9_waysNotAbove 16 = .ok (.aload_n 0, 1) := by decide +kernel
theorem dX9_waysNotAbove_17 : decode cX9_waysNotAbove 17 = .ok (.iload_n 3, 1) := by decide +kernel
theorem dX9_waysNotAbove_18 : decode cX9_waysNotAbove 18 = .ok (.iconst 1, 1) := by decide +kernel
theorem dX9_waysNotAbove_19 : decode cX9_waysNotAbove 19 = .ok (.invokevirtual 33, 3) := by decide +kernel
theorem dX9_waysNotAbove_22 : decode cX9_waysNotAbove 22 = .ok (.aload_n 0, 1) := by decide +kernel
theorem dX9_waysNotAbove_23 : decode cX9_waysNotAbove 23 = .ok (.iload_n 3, 1) := by decide +kernel
theorem dX9_waysNotAbove_24 : decode cX9_waysNotAbove 24 = .ok (.iconst 2, 1) := by decide +kernel
theorem dX9_waysNotAbove_25 : decode cX9_waysNotAbove 25 = .ok (.invokevirtual 33, 3) := by decide +kernel
theorem dX9_waysNotAbove_28 : decode cX9_waysNotAbove 28 = .ok (.invokestatic 40, 3) := by decide +kernel
theorem dX9_waysNotAbove_31 : decode cX9_waysNotAbove 31 = .ok (.lmul, 1) := by decide +kernel
theorem dX9_waysNotAbove_32 : decode cX9_waysNotAbove 32 = .ok (.lstore_n 1, 1) := by decide +kernel
theorem dX9_waysNotAbove_33 : decode cX9_waysNotAbove 33 = .ok (.iinc 3 1, 3) := by decide +kernel
theorem dX9_waysNotAbove_36 : decode cX9_waysNotAbove 36 = .ok (.goto (-32), 3) := by decide +kernel
theorem dX9_waysNotAbove_39 : decode cX9_waysNotAbove 39 = .ok (.lconst 0, 1) := by decide +kernel
theorem dX9_waysNotAbove_40 : decode cX9_waysNotAbove 40 = .ok (.lstore_n 3, 1) := by decide +kernel
theorem dX9_waysNotAbove_41 : decode cX9_waysNotAbove 41 = .ok (.iconst 0, 1) := by decide +kernel
theorem dX9_waysNotAbove_42 : decode cX9_waysNotAbove 42 = .ok (.istore 5, 2) := by decide +kernel
theorem dX9_waysNotAbove_44 : decode cX9_waysNotAbove 44 = .ok (.iload 5, 2) := by decide +kernel
theorem dX9_waysNotAbove_46 : decode cX9_waysNotAbove 46 = .ok (.aload_n 0, 1) := by decide +kernel
theorem dX9_waysNotAbove_47 : decode cX9_waysNotAbove 47 = .ok (.iconst 0, 1) := by decide +kernel
theorem dX9_waysNotAbove_48 : decode cX9_waysNotAbove 48 = .ok (.invokevirtual 44, 3) := by decide +kernel
theorem dX9_waysNotAbove_51 : decode cX9_waysNotAbove 51 = .ok (.if_icmp .gt 43, 3) := by decide +kernel
theorem dX9_waysNotAbove_54 : decode cX9_waysNotAbove 54 = .ok (.iconst 0, 1) := by decide +kernel
theorem dX9_waysNotAbove_55 : decode cX9_waysNotAbove 55 = .ok (.istore 6, 2) := by decide +kernel
theorem dX9_waysNotAbove_57 : decode cX9_waysNotAbove 57 = .ok (.iload 5, 2) := by decide +kernel
theorem dX9_waysNotAbove_59 : decode cX9_waysNotAbove 59 = .ok (.iload 6, 2) := by decide +kernel
theorem dX9_waysNotAbove_61 : decode cX9_waysNotAbove 61 = .ok (.iadd, 1) := by decide +kernel
theorem dX9_waysNotAbove_62 : decode cX9_waysNotAbove 62 = .ok (.aload_n 0, 1) := by decide +kernel
theorem dX9_waysNotAbove_63 : decode cX9_waysNotAbove 63 = .ok (.iconst 0, 1) := by decide +kernel
theorem dX9_waysNotAbove_64 : decode cX9_waysNotAbove 64 = .ok (.invokevirtual 44, 3) := by decide +kernel
theorem dX9_waysNotAbove_67 : decode cX9_waysNotAbove 67 = .ok (.if_icmp .gt 21, 3) := by decide +kernel
theorem dX9_waysNotAbove_70 : decode cX9_waysNotAbove 70 = .ok (.lload_n 3, 1) := by decide +kernel
theorem dX9_waysNotAbove_71 : decode cX9_waysNotAbove 71 = .ok (.aload_n 0, 1) := by decide +kernel
theorem dX9_waysNotAbove_72 : decode cX9_waysNotAbove 72 = .ok (.iload 5, 2) := by decide +kernel
theorem dX9_waysNotAbove_74 : decode cX9_waysNotAbove 74 = .ok (.iload 6, 2) := by decide +kernel
theorem dX9_waysNotAbove_76 : decode cX9_waysNotAbove 76 = .ok (.lload_n 1, 1) := by decide +kernel
theorem dX9_waysNotAbove_77 : decode cX9_waysNotAbove 77 = .ok (.invokevirtual 47, 3) := by decide +kernel
theorem dX9_waysNotAbove_80 : decode cX9_waysNotAbove 80 = .ok (.ladd, 1) := by decide +kernel
theorem dX9_waysNotAbove_81 : decode cX9_waysNotAbove 81 = .ok (.lstore_n 3, 1) := by decide +kernel
theorem dX9_waysNotAbove_82 : decode cX9_waysNotAbove 82 = .ok (.iinc 6 1, 3) := by decide +kernel
theorem dX9_waysNotAbove_85 : decode cX9_waysNotAbove 85 = .ok (.goto (-28), 3) := by decide +kernel
theorem dX9_waysNotAbove_88 : decode cX9_waysNotAbove 88 = .ok (.iinc 5 1, 3) := by decide +kernel
theorem dX9_waysNotAbove_91 : decode cX9_waysNotAbove 91 = .ok (.goto (-47), 3) := by decide +kernel
theorem dX9_waysNotAbove_94 : decode cX9_waysNotAbove 94 = .ok (.lload_n 3, 1) := by decide +kernel
theorem dX9_waysNotAbove_95 : decode cX9_waysNotAbove 95 = .ok (.lreturn, 1) := by decide +kernel
theorem dX9_waysWith_0 : decode cX9_waysWith 0 = .ok (.aload_n 0, 1) := by decide +kernel
theorem dX9_waysWith_1 : decode cX9_waysWith 1 = .ok (.iconst 0, 1) := by decide +kernel
theorem dX9_waysWith_2 : decode cX9_waysWith 2 = .ok (.invokevirtual 36, 3) := by decide +kernel
theorem dX9_waysWith_5 : decode cX9_waysWith 5 = .ok (.iload_n 1, 1) := by decide +kernel
theorem dX9_waysWith_6 : decode cX9_waysWith 6 = .ok (.isub, 1) := by decide +kernel
theorem dX9_waysWith_7 : decode cX9_waysWith 7 = .ok (.istore 5, 2) := by decide +kernel
theorem dX9_waysWith_9 : decode cX9_waysWith 9 = .ok (.aload_n 0, 1) := by decide +kernel
theorem dX9_waysWith_10 : decode cX9_waysWith 10 = .ok (.iconst 1, 1) := by decide +kernel
theorem dX9_waysWith_11 : decode cX9_waysWith 11 = .ok (.invokevirtual 36, 3) := by decide +kernel
theorem dX9_waysWith_14 : decode cX9_waysWith 14 = .ok (.iload_n 2, 1) := by decide +kernel
theorem dX9_waysWith_15 : decode cX9_waysWith 15 = .ok (.isub, 1) := by decide +kernel
theorem dX9_waysWith_16 : decode cX9_waysWith 16 = .ok (.istore 6, 2) := by decide +kernel
theorem dX9_waysWith_18 : decode cX9_waysWith 18 = .ok (.aload_n 0, 1) := by decide +kernel
theorem dX9_waysWith_19 : decode cX9_waysWith 19 = .ok (.iconst 2, 1) := by decide +kernel
theorem dX9_waysWith_20 : decode cX9_waysWith 20 = .ok (.invokevirtual 36, 3) := by decide +kernel
theorem dX9_waysWith_23 : decode cX9_waysWith 23 = .ok (.aload_n 0, 1) := by decide +kernel
theorem dX9_waysWith_24 : decode cX9_waysWith 24 = .ok (.iconst 0, 1) := by decide +kernel
theorem dX9_waysWith_25 : decode cX9_waysWith 25 = .ok (.invokevirtual 44, 3) := by decide +kernel
theorem dX9_waysWith_28 : decode cX9_waysWith 28 = .ok (.iload_n 1, 1) := by decide +kernel
theorem dX9_waysWith_29 : decode cX9_waysWith 29 = .ok (.isub, 1) := by decide +kernel
theorem dX9_waysWith_30 : decode cX9_waysWith 30 = .ok (.iload_n 2, 1) := by decide +kernel
theorem dX9_waysWith_31 : decode cX9_waysWith 31 = .ok (.isub, 1) := by decide +kernel
theorem dX9_waysWith_32 : decode cX9_waysWith 32 = .ok (.isub, 1) := by decide +kernel
theorem dX9_waysWith_33 : decode cX9_waysWith 33 = .ok (.istore 7, 2) := by decide +kernel
theorem dX9_waysWith_35 : decode cX9_waysWith 35 = .ok (.iload_n 1, 1) := by decide +kernel
theorem dX9_waysWith_36 : decode cX9_waysWith 36 = .ok (.iload_n 2, 1) := by decide +kernel
theorem dX9_waysWith_37 : decode cX9_waysWith 37 = .ok (.aload_n 0, 1) := by decide +kernel
theorem dX9_waysWith_38 : decode cX9_waysWith 38 = .ok (.iconst 0, 1) := by decide +kernel
theorem dX9_waysWith_39 : decode cX9_waysWith 39 = .ok (.invokevirtual 44, 3) := by decide +kernel
theorem dX9_waysWith_42 : decode cX9_waysWith 42 = .ok (.iload_n 1, 1) := by decide +kernel
theorem dX9_waysWith_43 : decode cX9_waysWith 43 = .ok (.isub, 1) := by decide +kernel
theorem dX9_waysWith_44 : decode cX9_waysWith 44 = .ok (.iload_n 2, 1) := by decide +kernel
theorem dX9_waysWith_45 : decode cX9_waysWith 45 = .ok (.isub, 1) := by decide +kernel
theorem dX9_waysWith_46 : decode cX9_waysWith 46 = .ok (.invokestatic 40, 3) := by decide +kernel
theorem dX9_waysWith_49 : decode cX9_waysWith 49 = .ok (.lstore 8, 2) := by decide +kernel
theorem dX9_waysWith_51 : decode cX9_waysWith 51 = .ok (.lconst 0, 1) := by decide +kernel
theorem dX9_waysWith_52 : decode cX9_waysWith 52 = .ok (.lstore 10, 2) := by decide +kernel
theorem dX9_waysWith_54 : decode cX9_waysWith 54 = .ok (.iconst 0, 1) := by decide +kernel
theorem dX9_waysWith_55 : decode cX9_waysWith 55 = .ok (.istore 12, 2) := by decide +kernel
theorem dX9_waysWith_57 : decode cX9_waysWith 57 = .ok (.iload 12, 2) := by decide +kernel
theorem dX9_waysWith_59 : decode cX9_waysWith 59 = .ok (.aload_n 0, 1) := by decide +kernel
theorem dX9_waysWith_60 : decode cX9_waysWith 60 = .ok (.iconst 1, 1) := by decide +kernel
theorem dX9_waysWith_61 : decode cX9_waysWith 61 = .ok (.invokevirtual 44, 3) := by decide +kernel
theorem dX9_waysWith_64 : decode cX9_waysWith 64 = .ok (.if_icmp .gt 105, 3) := by decide +kernel
theorem dX9_waysWith_67 : decode cX9_waysWith 67 = .ok (.iload 12, 2) := by decide +kernel
theorem dX9_waysWith_69 : decode cX9_waysWith 69 = .ok (.iload 5, 2) := by decide +kernel
theorem dX9_waysWith_71 : decode cX9_waysWith 71 = .ok (.if_icmp .gt 98, 3) := by decide +kernel
theorem dX9_waysWith_74 : decode cX9_waysWith 74 = .ok (.iconst 0, 1) := by decide +kernel
theorem dX9_waysWith_75 : decode cX9_waysWith 75 = .ok (.istore 13, 2) := by decide +kernel
theorem dX9_waysWith_77 : decode cX9_waysWith 77 = .ok (.iload 12, 2) := by decide +kernel
theorem dX9_waysWith_79 : decode cX9_waysWith 79 = .ok (.iload 13, 2) := by decide +kernel
theorem dX9_waysWith_81 : decode cX9_waysWith 81 = .ok (.iadd, 1) := by decide +kernel
theorem dX9_waysWith_82 : decode cX9_waysWith 82 = .ok (.aload_n 0, 1) := by decide +kernel
theorem dX9_waysWith_83 : decode cX9_waysWith 83 = .ok (.iconst 1, 1) := by decide +kernel
theorem dX9_waysWith_84 : decode cX9_waysWith 84 = .ok (.invokevirtual 44, 3) := by decide +kernel
theorem dX9_waysWith_87 : decode cX9_waysWith 87 = .ok (.if_icmp .gt 76, 3) := by decide +kernel
theorem dX9_waysWith_90 : decode cX9_waysWith 90 = .ok (.iload 13, 2) := by decide +kernel
theorem dX9_waysWith_92 : decode cX9_waysWith 92 = .ok (.iload 6, 2) := by decide +kernel
theorem dX9_waysWith_94 : decode cX9_waysWith 94 = .ok (.if_icmp .gt 69, 3) := by decide +kernel
theorem dX9_waysWith_97 : decode cX9_waysWith 97 = .ok (.aload_n 0, 1) := by decide +kernel
theorem dX9_waysWith_98 : decode cX9_waysWith 98 = .ok (.iconst 1, 1) := by decide +kernel
theorem dX9_waysWith_99 : decode cX9_waysWith 99 = .ok (.invokevirtual 44, 3) := by decide +kernel
theorem dX9_waysWith_102 : decode cX9_waysWith 102 = .ok (.iload 12, 2) := by decide +kernel
theorem dX9_waysWith_104 : decode cX9_waysWith 104 = .ok (.isub, 1) := by decide +kernel
theorem dX9_waysWith_105 : decode cX9_waysWith 105 = .ok (.iload 13, 2) := by decide +kernel
theorem dX9_waysWith_107 : decode cX9_waysWith 107 = .ok (.isub, 1) := by decide +kernel
theorem dX9_waysWith_108 : decode cX9_waysWith 108 = .ok (.istore 14, 2) := by decide +kernel
theorem dX9_waysWith_110 : decode cX9_waysWith 110 = .ok (.lload 8, 2) := by decide +kernel
theorem dX9_waysWith_112 : decode cX9_waysWith 112 = .ok (.iload 12, 2) := by decide +kernel
theorem dX9_waysWith_114 : decode cX9_waysWith 114 = .ok (.iload 13, 2) := by decide +kernel
theorem dX9_waysWith_116 : decode cX9_waysWith 116 = .ok (.iload 14, 2) := by decide +kernel
theorem dX9_waysWith_118 : decode cX9_waysWith 118 = .ok (.invokestatic 40, 3) := by decide +kernel
theorem dX9_waysWith_121 : decode cX9_waysWith 121 = .ok (.lmul, 1) := by decide +kernel
theorem dX9_waysWith_122 : decode cX9_waysWith 122 = .ok (.iload 5, 2) := by decide +kernel
theorem dX9_waysWith_124 : decode cX9_waysWith 124 = .ok (.iload 12, 2) := by decide +kernel
theorem dX9_waysWith_126 : decode cX9_waysWith 126 = .ok (.isub, 1) := by decide +kernel
theorem dX9_waysWith_127 : decode cX9_waysWith 127 = .ok (.iload 6, 2) := by decide +kernel
theorem dX9_waysWith_129 : decode cX9_waysWith 129 = .ok (.iload 13, 2) := by decide +kernel
theorem dX9_waysWith_131 : decode cX9_waysWith 131 = .ok (.isub, 1) := by decide +kernel
theorem dX9_waysWith_132 : decode cX9_waysWith 132 = .ok (.iload 7, 2) := by decide +kernel
theorem dX9_waysWith_134 : decode cX9_waysWith 134 = .ok (.iload 14, 2) := by decide +kernel
theorem dX9_waysWith_136 : decode cX9_waysWith 136 = .ok (.isub, 1) := by decide +kernel
theorem dX9_waysWith_137 : decode cX9_waysWith 137 = .ok (.invokestatic 40, 3) := by decide +kernel
theorem dX9_waysWith_140 : decode cX9_waysWith 140 = .ok (.lmul, 1) := by decide +kernel
theorem dX9_waysWith_141 : decode cX9_waysWith 141 = .ok (.lstore 15, 2) := by decide +kernel
theorem dX9_waysWith_143 : decode cX9_waysWith 143 = .ok (.lload 15, 2) := by decide +kernel
theorem dX9_waysWith_145 : decode cX9_waysWith 145 = .ok (.lload_n 3, 1) := by decide +kernel
theorem dX9_waysWith_146 : decode cX9_waysWith 146 = .ok (.lcmp, 1) := by decide +kernel
theorem dX9_waysWith_147 : decode cX9_waysWith 147 = .ok (.ifCond .gt 10, 3) := by decide +kernel
theorem dX9_waysWith_150 : decode cX9_waysWith 150 = .ok (.lload 10, 2) := by decide +kernel
theorem dX9_waysWith_152 : decode cX9_waysWith 152 = .ok (.lload 15, 2) := by decide +kernel
theorem dX9_waysWith_154 : decode cX9_waysWith 154 = .ok (.ladd, 1) := by decide +kernel
theorem dX9_waysWith_155 : decode cX9_waysWith 155 = .ok (.lstore 10, 2) := by decide +kernel
theorem dX9_waysWith_157 : decode cX9_waysWith 157 = .ok (.iinc 13 1, 3) := by decide +kernel
theorem dX9_waysWith_160 : decode cX9_waysWith 160 = .ok (.goto (-83), 3) := by decide +kernel
theorem dX9_waysWith_163 : decode cX9_waysWith 163 = .ok (.iinc 12 1, 3) := by decide +kernel
theorem dX9_waysWith_166 : decode cX9_waysWith 166 = .ok (.goto (-109), 3) := by decide +kernel
theorem dX9_waysWith_169 : decode cX9_waysWith 169 = .ok (.lload 10, 2) := by decide +kernel
theorem dX9_waysWith_171 : decode cX9_waysWith 171 = .ok (.lreturn, 1) := by decide +kernel
theorem dX9_deals_0 : decode cX9_deals 0 = .ok (.iload_n 0, 1) := by decide +kernel
theorem dX9_deals_1 : decode cX9_deals 1 = .ok (.ifCond .lt 23, 3) := by decide +kernel
theorem dX9_deals_4 : decode cX9_deals 4 = .ok (.iload_n 1, 1) := by decide +kernel
theorem dX9_deals_5 : decode cX9_deals 5 = .ok (.ifCond .lt 19, 3) := by decide +kernel
theorem dX9_deals_8 : decode cX9_deals 8 = .ok (.iload_n 2, 1) := by decide +kernel
theorem dX9_deals_9 : decode cX9_deals 9 = .ok (.ifCond .lt 15, 3) := by decide +kernel
theorem dX9_deals_12 : decode cX9_deals 12 = .ok (.iload_n 0, 1) := by decide +kernel
theorem dX9_deals_13 : decode cX9_deals 13 = .ok (.iload_n 1, 1) := by decide +kernel
theorem dX9_deals_14 : decode cX9_deals 14 = .ok (.iadd, 1) := by decide +kernel
theorem dX9_deals_15 : decode cX9_deals 15 = .ok (.iload_n 2, 1) := by decide +kernel
theorem dX9_deals_16 : decode cX9_deals 16 = .ok (.iadd, 1) := by decide +kernel
theorem dX9_deals_17 : decode cX9_deals 17 = .ok (.getstatic 51, 3) := by decide +kernel
theorem dX9_deals_20 : decode cX9_deals 20 = .ok (.arraylength, 1) := by decide +kernel
theorem dX9_deals_21 : decode cX9_deals 21 = .ok (.if_icmp .lt 5, 3) := by decide +kernel
theorem dX9_deals_24 : decode cX9_deals 24 = .ok (.lconst 0, 1) := by decide +kernel
theorem dX9_deals_25 : decode cX9_deals 25 = .ok (.lreturn, 1) := by decide +kernel
theorem dX9_deals_26 : decode cX9_deals 26 = .ok (.iload_n 0, 1) := by decide +kernel
theorem dX9_deals_27 : decode cX9_deals 27 = .ok (.invokestatic 55, 3) := by decide +kernel
theorem dX9_deals_30 : decode cX9_deals 30 = .ok (.iload_n 1, 1) := by decide +kernel
theorem dX9_deals_31 : decode cX9_deals 31 = .ok (.invokestatic 55, 3) := by decide +kernel
theorem dX9_deals_34 : decode cX9_deals 34 = .ok (.lmul, 1) := by decide +kernel
theorem dX9_deals_35 : decode cX9_deals 35 = .ok (.iload_n 2, 1) := by decide +kernel
theorem dX9_deals_36 : decode cX9_deals 36 = .ok (.invokestatic 55, 3) := by decide +kernel
theorem dX9_deals_39 : decode cX9_deals 39 = .ok (.lmul, 1) := by decide +kernel
theorem dX9_deals_40 : decode cX9_deals 40 = .ok (.lstore_n 3, 1) := by decide +kernel
theorem dX9_deals_41 : decode cX9_deals 41 = .ok (.lload_n 3, 1) := by decide +kernel
theorem dX9_deals_42 : decode cX9_deals 42 = .ok (.lconst 0, 1) := by decide +kernel
theorem dX9_deals_43 : decode cX9_deals 43 = .ok (.lcmp, 1) := by decide +kernel
theorem dX9_deals_44 : decode cX9_deals 44 = .ok (.ifCond .le 16, 3) := by decide +kernel
theorem dX9_deals_47 : decode cX9_deals 47 = .ok (.iload_n 0, 1) := by decide +kernel
theorem dX9_deals_48 : decode cX9_deals 48 = .ok (.iload_n 1, 1) := by decide +kernel
theorem dX9_deals_49 : decode cX9_deals 49 = .ok (.iadd, 1) := by decide +kernel
theorem dX9_deals_50 : decode cX9_deals 50 = .ok (.iload_n 2, 1) := by decide +kernel
theorem dX9_deals_51 : decode cX9_deals 51 = .ok (.iadd, 1) := by decide +kernel
theorem dX9_deals_52 : decode cX9_deals 52 = .ok (.invokestatic 55, 3) := by decide +kernel
theorem dX9_deals_55 : decode cX9_deals 55 = .ok (.lload_n 3, 1) := by decide +kernel
theorem dX9_deals_56 : decode cX9_deals 56 = .ok (.ldiv, 1) := by decide +kernel
theorem dX9_deals_57 : decode cX9_deals 57 = .ok (.goto 4, 3) := by decide +kernel
theorem dX9_deals_60 : decode cX9_deals 60 = .ok (.lconst 0, 1) := by decide +kernel
theorem dX9_deals_61 : decode cX9_deals 61 = .ok (.lreturn, 1) := by decide +kernel
theorem dX9_factorial_0 : decode cX9_factorial 0 = .ok (.iload_n 0, 1) := by decide +kernel
theorem dX9_factorial_1 : decode cX9_factorial 1 = .ok (.ifCond .lt 19, 3) := by decide +kernel
theorem dX9_factorial_4 : decode cX9_factorial 4 = .ok (.iload_n 0, 1) := by decide +kernel
theorem dX9_factorial_5 : decode cX9_factorial 5 = .ok (.getstatic 51, 3) := by decide +kernel
theorem dX9_factorial_8 : decode cX9_factorial 8 = .ok (.arraylength, 1) := by decide +kernel
theorem dX9_factorial_9 : decode cX9_factorial 9 = .ok (.if_icmp .ge 11, 3) := by decide +kernel
theorem dX9_factorial_12 : decode cX9_factorial 12 = .ok (.getstatic 51, 3) := by decide +kernel
theorem dX9_factorial_15 : decode cX9_factorial 15 = .ok (.iload_n 0, 1) := by decide +kernel
theorem dX9_factorial_16 : decode cX9_factorial 16 = .ok (.laload, 1) := by decide +kernel
theorem dX9_factorial_17 : decode cX9_factorial 17 = .ok (.goto 4, 3) := by decide +kernel
theorem dX9_factorial_20 : decode cX9_factorial 20 = .ok (.lconst 1, 1) := by decide +kernel
theorem dX9_factorial_21 : decode cX9_factorial 21 = .ok (.lreturn, 1) := by decide +kernel
theorem dX9_cell_0 : decode cX9_cell 0 = .ok (.iconst 3, 1) := by decide +kernel
theorem dX9_cell_1 : decode cX9_cell 1 = .ok (.iload_n 1, 1) := by decide +kernel
theorem dX9_cell_2 : decode cX9_cell 2 = .ok (.imul, 1) := by decide +kernel
theorem dX9_cell_3 : decode cX9_cell 3 = .ok (.iload_n 2, 1) := by decide +kernel
theorem dX9_cell_4 : decode cX9_cell 4 = .ok (.iadd, 1) := by decide +kernel
theorem dX9_cell_5 : decode cX9_cell 5 = .ok (.istore_n 3, 1) := by decide +kernel
theorem dX9_cell_6 : decode cX9_cell 6 = .ok (.iload_n 3, 1) := by decide +kernel
theorem dX9_cell_7 : decode cX9_cell 7 = .ok (.ifCond .lt 21, 3) := by decide +kernel
theorem dX9_cell_10 : decode cX9_cell 10 = .ok (.iload_n 3, 1) := by decide +kernel
theorem dX9_cell_11 : decode cX9_cell 11 = .ok (.aload_n 0, 1) := by decide +kernel
theorem dX9_cell_12 : decode cX9_cell 12 = .ok (.getfield 13, 3) := by decide +kernel
theorem dX9_cell_15 : decode cX9_cell 15 = .ok (.arraylength, 1) := by decide +kernel
theorem dX9_cell_16 : decode cX9_cell 16 = .ok (.if_icmp .ge 12, 3) := by decide +kernel
theorem dX9_cell_19 : decode cX9_cell 19 = .ok (.aload_n 0, 1) := by decide +kernel
theorem dX9_cell_20 : decode cX9_cell 20 = .ok (.getfield 13, 3) := by decide +kernel
theorem dX9_cell_23 : decode cX9_cell 23 = .ok (.iload_n 3, 1) := by decide +kernel
theorem dX9_cell_24 : decode cX9_cell 24 = .ok (.iaload, 1) := by decide +kernel
theorem dX9_cell_25 : decode cX9_cell 25 = .ok (.goto 4, 3) := by decide +kernel
theorem dX9_cell_28 : decode cX9_cell 28 = .ok (.iconst 0, 1) := by decide +kernel
theorem dX9_cell_29 : decode cX9_cell 29 = .ok (.ireturn, 1) := by decide +kernel
theorem dX9_first_0 : decode cX9_first 0 = .ok (.iload_n 1, 1) := by decide +kernel
theorem dX9_first_1 : decode cX9_first 1 = .ok (.ifCond .lt 21, 3) := by decide +kernel
theorem dX9_first_4 : decode cX9_first 4 = .ok (.iload_n 1, 1) := by decide +kernel
theorem dX9_first_5 : decode cX9_first 5 = .ok (.aload_n 0, 1) := by decide +kernel
theorem dX9_first_6 : decode cX9_first 6 = .ok (.getfield 17, 3) := by decide +kernel
theorem dX9_first_9 : decode cX9_first 9 = .ok (.arraylength, 1) := by decide +kernel
theorem dX9_first_10 : decode cX9_first 10 = .ok (.if_icmp .ge 12, 3) := by decide +kernel
theorem dX9_first_13 : decode cX9_first 13 = .ok (.aload_n 0, 1) := by decide +kernel
theorem dX9_first_14 : decode cX9_first 14 = .ok (.getfield 17, 3) := by decide +kernel
theorem dX9_first_17 : decode cX9_first 17 = .ok (.iload_n 1, 1) := by decide +kernel
theorem dX9_first_18 : decode cX9_first 18 = .ok (.iaload, 1) := by decide +kernel
theorem dX9_first_19 : decode cX9_first 19 = .ok (.goto 4, 3) := by decide +kernel
theorem dX9_first_22 : decode cX9_first 22 = .ok (.iconst 0, 1) := by decide +kernel
theorem dX9_first_23 : decode cX9_first 23 = .ok (.ireturn, 1) := by decide +kernel
theorem dX9_second_0 : decode cX9_second 0 = .ok (.iload_n 1, 1) := by decide +kernel
theorem dX9_second_1 : decode cX9_second 1 = .ok (.ifCond .lt 21, 3) := by decide +kernel
theorem dX9_second_4 : decode cX9_second 4 = .ok (.iload_n 1, 1) := by decide +kernel
theorem dX9_second_5 : decode cX9_second 5 = .ok (.aload_n 0, 1) := by decide +kernel
theorem dX9_second_6 : decode cX9_second 6 = .ok (.getfield 20, 3) := by decide +kernel
theorem dX9_second_9 : decode cX9_second 9 = .ok (.arraylength, 1) := by decide +kernel
theorem dX9_second_10 : decode cX9_second 10 = .ok (.if_icmp .ge 12, 3) := by decide +kernel
theorem dX9_second_13 : decode cX9_second 13 = .ok (.aload_n 0, 1) := by decide +kernel
theorem dX9_second_14 : decode cX9_second 14 = .ok (.getfield 20, 3) := by decide +kernel
theorem dX9_second_17 : decode cX9_second 17 = .ok (.iload_n 1, 1) := by decide +kernel
theorem dX9_second_18 : decode cX9_second 18 = .ok (.iaload, 1) := by decide +kernel
theorem dX9_second_19 : decode cX9_second 19 = .ok (.goto 4, 3) := by decide +kernel
theorem dX9_second_22 : decode cX9_second 22 = .ok (.iconst 0, 1) := by decide +kernel
theorem dX9_second_23 : decode cX9_second 23 = .ok (.ireturn, 1) := by decide +kernel
theorem dX10_init_0 : decode cX10_init 0 = .ok (.aload_n 0, 1) := by decide +kernel
theorem dX10_init_1 : decode cX10_init 1 = .ok (.invokespecial 3, 3) := by decide +kernel
theorem dX10_init_4 : decode cX10_init 4 = .ok (.aload_n 0, 1) := by decide +kernel
theorem dX10_init_5 : decode cX10_init 5 = .ok (.new 9, 3) := by decide +kernel
theorem dX10_init_8 : decode cX10_init 8 = .ok (.dup, 1) := by decide +kernel
theorem dX10_init_9 : decode cX10_init 9 = .ok (.invokespecial 11, 3) := by decide +kernel
theorem dX10_init_12 : decode cX10_init 12 = .ok (.putfield 12, 3) := by decide +kernel
theorem dX10_init_15 : decode cX10_init 15 = .ok (.aload_n 0, 1) := by decide +kernel
theorem dX10_init_16 : decode cX10_init 16 = .ok (.new 16, 3) := by decide +kernel
theorem dX10_init_19 : decode cX10_init 19 = .ok (.dup, 1) := by decide +kernel
theorem dX10_init_20 : decode cX10_init 20 = .ok (.invokespecial 18, 3) := by decide +kernel
theorem dX10_init_23 : decode cX10_init 23 = .ok (.putfield 19, 3) := by decide +kernel
theorem dX10_init_26 : decode cX10_init 26 = .ok (.aload_n 0, 1) := by decide +kernel
theorem dX10_init_27 : decode cX10_init 27 = .ok (.new 23, 3) := by decide +kernel
theorem dX10_init_30 : decode cX10_init 30 = .ok (.dup, 1) := by decide +kernel
theorem dX10_init_31 : decode cX10_init 31 = .ok (.aload_n 0, 1) := by decide +kernel
theorem dX10_init_32 : decode cX10_init 32 = .ok (.getfield 12, 3) := by decide +kernel
theorem dX10_init_35 : decode cX10_init 35 = .ok (.aload_n 0, 1) := by decide +kernel
theorem dX10_init_36 : decode cX10_init 36 = .ok (.getfield 19, 3) := by decide +kernel
theorem dX10_init_39 : decode cX10_init 39 = .ok (.invokespecial 25, 3) := by decide +kernel
theorem dX10_init_42 : decode cX10_init 42 = .ok (.putfield 28, 3) := by decide +kernel
theorem dX10_init_45 : decode cX10_init 45 = .ok (.aload_n 0, 1) := by decide +kernel
theorem dX10_init_46 : decode cX10_init 46 = .ok (.new 32, 3) := by decide +kernel
theorem dX10_init_49 : decode cX10_init 49 = .ok (.dup, 1) := by decide +kernel
theorem dX10_init_50 : decode cX10_init 50 = .ok (.aload_n 0, 1) := by decide +kernel
theorem dX10_init_51 : decode cX10_init 51 = .ok (.getfield 12, 3) := by decide +kernel
theorem dX10_init_54 : decode cX10_init 54 = .ok (.aload_n 0, 1) := by decide +kernel
theorem dX10_init_55 : decode cX10_init 55 = .ok (.getfield 28, 3) := by decide +kernel
theorem dX10_init_58 : decode cX10_init 58 = .ok (.invokespecial 34, 3) := by decide +kernel
theorem dX10_init_61 : decode cX10_init 61 = .ok (.putfield 37, 3) := by decide +kernel
theorem dX10_init_64 : decode cX10_init 64 = .ok (.aload_n 0, 1) := by decide +kernel
theorem dX10_init_65 : decode cX10_init 65 = .ok (.new 41, 3) := by decide +kernel
theorem dX10_init_68 : decode cX10_init 68 = .ok (.dup, 1) := by decide +kernel
theorem dX10_init_69 : decode cX10_init 69 = .ok (.aload_n 0, 1) := by decide +kernel
theorem dX10_init_70 : decode cX10_init 70 = .ok (.getfield 12, 3) := by decide +kernel
theorem dX10_init_73 : decode cX10_init 73 = .ok (.invokespecial 43, 3) := by decide +kernel
theorem dX10_init_76 : decode cX10_init 76 = .ok (.putfield 46, 3) := by decide +kernel
theorem dX10_init_79 : decode cX10_init 79 = .ok (.aload_n 0, 1) := by decide +kernel
theorem dX10_init_80 : decode cX10_init 80 = .ok (.aconst_null, 1) := by decide +kernel
theorem dX10_init_81 : decode cX10_init 81 = .ok (.putfield 50, 3) := by decide +kernel
theorem dX10_init_84 : decode cX10_init 84 = .ok (.return_, 1) := by decide +kernel
theorem dX10_clear_0 : decode cX10_clear 0 = .ok (.aload_n 0, 1) := by decide +kernel
theorem dX10_clear_1 : decode cX10_clear 1 = .ok (.getfield 12, 3) := by decide +kernel
theorem dX10_clear_4 : decode cX10_clear 4 = .ok (.getfield 54, 3) := by decide +kernel
theorem dX10_clear_7 : decode cX10_clear 7 = .ok (.istore_n 1, 1) := by decide +kernel
theorem dX10_clear_8 : decode cX10_clear 8 = .ok (.aload_n 0, 1) := by decide +kernel
theorem dX10_clear_9 : decode cX10_clear 9 = .ok (.getfield 12, 3) := by decide +kernel
theorem dX10_clear_12 : decode cX10_clear 12 = .ok (.invokevirtual 58, 3) := by decide +kernel
theorem dX10_clear_15 : decode cX10_clear 15 = .ok (.aload_n 0, 1) := by decide +kernel
theorem dX10_clear_16 : decode cX10_clear 16 = .ok (.invokevirtual 61, 3) := by decide +kernel
theorem dX10_clear_19 : decode cX10_clear 19 = .ok (.iload_n 1, 1) := by decide +kernel
theorem dX10_clear_20 : decode cX10_clear 20 = .ok (.ireturn, 1) := by decide +kernel
theorem dX10_name_0 : decode cX10_name 0 = .ok (.iload_n 1, 1) := by decide +kernel
theorem dX10_name_1 : decode cX10_name 1 = .ok (.iconst 2, 1) := by decide +kernel
theorem dX10_name_2 : decode cX10_name 2 = .ok (.if_icmp .eq 10, 3) := by decide +kernel
theorem dX10_name_5 : decode cX10_name 5 = .ok (.iload_n 1, 1) := by decide +kernel
theorem dX10_name_6 : decode cX10_name 6 = .ok (.iconst 3, 1) := by decide +kernel
theorem dX10_name_7 : decode cX10_name 7 = .ok (.if_icmp .eq 5, 3) := by decide +kernel
theorem dX10_name_10 : decode cX10_name 10 = .ok (.iconst (-1), 1) := by decide +kernel
theorem dX10_name_11 : decode cX10_name 11 = .ok (.ireturn, 1) := by decide +kernel
theorem dX10_name_12 : decode cX10_name 12 = .ok (.aload_n 0, 1) := by decide +kernel
theorem dX10_name_13 : decode cX10_name 13 = .ok (.getfield 12, 3) := by decide +kernel
theorem dX10_name_16 : decode cX10_name 16 = .ok (.getfield 54, 3) := by decide +kernel
theorem dX10_name_19 : decode cX10_name 19 = .ok (.ifCond .le 6, 3) := by decide +kernel
theorem dX10_name_22 : decode cX10_name 22 = .ok (.bipush (-2), 2) := by decide +kernel
theorem dX10_name_24 : decode cX10_name 24 = .ok (.ireturn, 1) := by decide +kernel
theorem dX10_name_25 : decode cX10_name 25 = .ok (.aload_n 0, 1) := by decide +kernel
theorem dX10_name_26 : decode cX10_name 26 = .ok (.getfield 12, 3) := by decide +kernel
theorem dX10_name_29 : decode cX10_name 29 = .ok (.getfield 64, 3) := by decide +kernel
theorem dX10_name_32 : decode cX10_name 32 = .ok (.iconst 5, 1) := by decide +kernel
theorem dX10_name_33 : decode cX10_name 33 = .ok (.if_icmp .lt 6, 3) := by decide +kernel
theorem dX10_name_36 : decode cX10_name 36 = .ok (.bipush (-3), 2) := by decide +kernel
theorem dX10_name_38 : decode cX10_name 38 = .ok (.ireturn, 1) := by decide +kernel
theorem dX10_name_39 : decode cX10_name 39 = .ok (.aload_n 0, 1) := by decide +kernel
theorem dX10_name_40 : decode cX10_name 40 = .ok (.invokevirtual 61, 3) := by decide +kernel
theorem dX10_name_43 : decode cX10_name 43 = .ok (.aload_n 0, 1) := by decide +kernel
theorem dX10_name_44 : decode cX10_name 44 = .ok (.getfield 12, 3) := by decide +kernel
theorem dX10_name_47 : decode cX10_name 47 = .ok (.iload_n 1, 1) := by decide +kernel
theorem dX10_name_48 : decode cX10_name 48 = .ok (.invokevirtual 67, 3) := by decide +kernel
theorem dX10_name_51 : decode cX10_name 51 = .ok (.ireturn, 1) := by decide +kernel
theorem dX10_row_0 : decode cX10_row 0 = .ok (.aload_n 0, 1) := by decide +kernel
theorem dX10_row_1 : decode cX10_row 1 = .ok (.iconst 0, 1) := by decide +kernel
theorem dX10_row_2 : decode cX10_row 2 = .ok (.iload_n 1, 1) := by decide +kernel
theorem dX10_row_3 : decode cX10_row 3 = .ok (.invokevirtual 71, 3) := by decide +kernel
theorem dX10_row_6 : decode cX10_row 6 = .ok (.ifCond .eq 41, 3) := by decide +kernel
theorem dX10_row_9 : decode cX10_row 9 = .ok (.aload_n 0, 1) := by decide +kernel
theorem dX10_row_10 : decode cX10_row 10 = .ok (.iconst 1, 1) := by decide +kernel
theorem dX10_row_11 : decode cX10_row 11 = .ok (.iload_n 2, 1) := by decide +kernel
theorem dX10_row_12 : decode cX10_row 12 = .ok (.invokevirtual 71, 3) := by decide +kernel
theorem dX10_row_15 : decode cX10_row 15 = .ok (.ifCond .eq 32, 3) := by decide +kernel
theorem dX10_row_18 : decode cX10_row 18 = .ok (.aload_n 0, 1) := by decide +kernel
theorem dX10_row_19 : decode cX10_row 19 = .ok (.iconst 2, 1) := by decide +kernel
theorem dX10_row_20 : decode cX10_row 20 = .ok (.iload_n 3, 1) := by decide +kernel
theorem dX10_row_21 : decode cX10_row 21 = .ok (.invokevirtual 71, 3) := by decide +kernel
theorem dX10_row_24 : decode cX10_row 24 = .ok (.ifCond .eq 23, 3) := by decide +kernel
theorem dX10_row_27 : decode cX10_row 27 = .ok (.aload_n 0, 1) := by decide +kernel
theorem dX10_row_28 : decode cX10_row 28 = .ok (.iconst 3, 1) := by decide +kernel
theorem dX10_row_29 : decode cX10_row 29 = .ok (.iload 4, 2) := by decide +kernel
theorem dX10_row_31 : decode cX10_row 31 = .ok (.invokevirtual 71, 3) := by decide +kernel
theorem dX10_row_34 : decode cX10_row 34 = .ok (.ifCond .eq 13, 3) := by decide +kernel
theorem dX10_row_37 : decode cX10_row 37 = .ok (.aload_n 0, 1) := by decide +kernel
theorem dX10_row_38 : decode cX10_row 38 = .ok (.iconst 4, 1) := by decide +kernel
theorem dX10_row_39 : decode cX10_row 39 = .ok (.iload 5, 2) := by decide +kernel
theorem dX10_row_41 : decode cX10_row 41 = .ok (.invokevirtual 71, 3) := by decide +kernel
theorem dX10_row_44 : decode cX10_row 44 = .ok (.ifCond .ne 5, 3) := by decide +kernel
theorem dX10_row_47 : decode cX10_row 47 = .ok (.iconst (-1), 1) := by decide +kernel
theorem dX10_row_48 : decode cX10_row 48 = .ok (.ireturn, 1) := by decide +kernel
theorem dX10_row_49 : decode cX10_row 49 = .ok (.aload_n 0, 1) := by decide +kernel
theorem dX10_row_50 : decode cX10_row 50 = .ok (.getfield 12, 3) := by decide +kernel
theorem dX10_row_53 : decode cX10_row 53 = .ok (.getfield 64, 3) := by decide +kernel
theorem dX10_row_56 : decode cX10_row 56 = .ok (.ifCond .ne 6, 3) := by decide +kernel
theorem dX10_row_59 : decode cX10_row 59 = .ok (.bipush (-2), 2) := by decide +kernel
theorem dX10_row_61 : decode cX10_row 61 = .ok (.ireturn, 1) := by decide +kernel
theorem dX10_row_62 : decode cX10_row 62 = .ok (.aload_n 0, 1) := by decide +kernel
theorem dX10_row_63 : decode cX10_row 63 = .ok (.getfield 12, 3) := by decide +kernel
theorem dX10_row_66 : decode cX10_row 66 = .ok (.getfield 54, 3) := by decide +kernel
theorem dX10_row_69 : decode cX10_row 69 = .ok (.bipush 16, 2) := by decide +kernel
theorem dX10_row_71 : decode cX10_row 71 = .ok (.if_icmp .lt 6, 3) := by decide +kernel
theorem dX10_row_74 : decode cX10_row 74 = .ok (.bipush (-3), 2) := by decide +kernel
theorem dX10_row_76 : decode cX10_row 76 = .ok (.ireturn, 1) := by decide +kernel
theorem dX10_row_77 : decode cX10_row 77 = .ok (.aload_n 0, 1) := by decide +kernel
theorem dX10_row_78 : decode cX10_row 78 = .ok (.invokevirtual 61, 3) := by decide +kernel
theorem dX10_row_81 : decode cX10_row 81 = .ok (.aload_n 0, 1) := by decide +kernel
theorem dX10_row_82 : decode cX10_row 82 = .ok (.iconst 0, 1) := by decide +kernel
theorem dX10_row_83 : decode cX10_row 83 = .ok (.iload_n 1, 1) := by decide +kernel
theorem dX10_row_84 : decode cX10_row 84 = .ok (.invokevirtual 75, 3) := by decide +kernel
theorem dX10_row_87 : decode cX10_row 87 = .ok (.aload_n 0, 1) := by decide +kernel
theorem dX10_row_88 : decode cX10_row 88 = .ok (.iconst 1, 1) := by decide +kernel
theorem dX10_row_89 : decode cX10_row 89 = .ok (.iload_n 2, 1) := by decide +kernel
theorem dX10_row_90 : decode cX10_row 90 = .ok (.invokevirtual 75, 3) := by decide +kernel
theorem dX10_row_93 : decode cX10_row 93 = .ok (.ior, 1) := by decide +kernel
theorem dX10_row_94 : decode cX10_row 94 = .ok (.aload_n 0, 1) := by decide +kernel
theorem dX10_row_95 : decode cX10_row 95 = .ok (.iconst 2, 1) := by decide +kernel
theorem dX10_row_96 : decode cX10_row 96 = .ok (.iload_n 3, 1) := by decide +kernel
theorem dX10_row_97 : decode cX10_row 97 = .ok (.invokevirtual 75, 3) := by decide +kernel
theorem dX10_row_100 : decode cX10_row 100 = .ok (.ior, 1) := by decide +kernel
theorem dX10_row_101 : decode cX10_row 101 = .ok (.aload_n 0, 1) := by decide +kernel
theorem dX10_row_102 : decode cX10_row 102 = .ok (.iconst 3, 1) := by decide +kernel
theorem dX10_row_103 : decode cX10_row 103 = .ok (.iload 4, 2) := by decide +kernel
theorem dX10_row_105 : decode cX10_row 105 = .ok (.invokevirtual 75, 3) := by decide +kernel
theorem dX10_row_108 : decode cX10_row 108 = .ok (.ior, 1) := by decide +kernel
theorem dX10_row_109 : decode cX10_row 109 = .ok (.aload_n 0, 1) := by decide +kernel
theorem dX10_row_110 : decode cX10_row 110 = .ok (.iconst 4, 1) := by decide +kernel
theorem dX10_row_111 : decode cX10_row 111 = .ok (.iload 5, 2) := by decide +kernel
theorem dX10_row_113 : decode cX10_row 113 = .ok (.invokevirtual 75, 3) := by decide +kernel
theorem dX10_row_116 : decode cX10_row 116 = .ok (.ior, 1) := by decide +kernel
theorem dX10_row_117 : decode cX10_row 117 = .ok (.istore 6, 2) := by decide +kernel
theorem dX10_row_119 : decode cX10_row 119 = .ok (.aload_n 0, 1) := by decide +kernel
theorem dX10_row_120 : decode cX10_row 120 = .ok (.getfield 12, 3) := by decide +kernel
theorem dX10_row_123 : decode cX10_row 123 = .ok (.iload 6, 2) := by decide +kernel
theorem dX10_row_125 : decode cX10_row 125 = .ok (.invokevirtual 79, 3) := by decide +kernel
theorem dX10_row_128 : decode cX10_row 128 = .ok (.ireturn, 1) := by decide +kernel
theorem dX10_drop_0 : decode cX10_drop 0 = .ok (.aload_n 0, 1) := by decide +kernel
theorem dX10_drop_1 : decode cX10_drop 1 = .ok (.iload_n 1, 1) := by decide +kernel
theorem dX10_drop_2 : decode cX10_drop 2 = .ok (.invokevirtual 82, 3) := by decide +kernel
theorem dX10_drop_5 : decode cX10_drop 5 = .ok (.ifCond .ne 5, 3) := by decide +kernel
theorem dX10_drop_8 : decode cX10_drop 8 = .ok (.iconst (-1), 1) := by decide +kernel
theorem dX10_drop_9 : decode cX10_drop 9 = .ok (.ireturn, 1) := by decide +kernel
theorem dX10_drop_10 : decode cX10_drop 10 = .ok (.aload_n 0, 1) := by decide +kernel
theorem dX10_drop_11 : decode cX10_drop 11 = .ok (.invokevirtual 61, 3) := by decide +kernel
theorem dX10_drop_14 : decode cX10_drop 14 = .ok (.aload_n 0, 1) := by decide +kernel
theorem dX10_drop_15 : decode cX10_drop 15 = .ok (.getfield 12, 3) := by decide +kernel
theorem dX10_drop_18 : decode cX10_drop 18 = .ok (.iload_n 1, 1) := by decide +kernel
theorem dX10_drop_19 : decode cX10_drop 19 = .ok (.invokevirtual 86, 3) := by decide +kernel
theorem dX10_drop_22 : decode cX10_drop 22 = .ok (.ireturn, 1) := by decide +kernel
theorem dX10_value_0 : decode cX10_value 0 = .ok (.aload_n 0, 1) := by decide +kernel
theorem dX10_value_1 : decode cX10_value 1 = .ok (.iload_n 1, 1) := by decide +kernel
theorem dX10_value_2 : decode cX10_value 2 = .ok (.invokevirtual 82, 3) := by decide +kernel
theorem dX10_value_5 : decode cX10_value 5 = .ok (.ifCond .eq 23, 3) := by decide +kernel
theorem dX10_value_8 : decode cX10_value 8 = .ok (.aload_n 0, 1) := by decide +kernel
theorem dX10_value_9 : decode cX10_value 9 = .ok (.iload_n 2, 1) := by decide +kernel
theorem dX10_value_10 : decode cX10_value 10 = .ok (.invokevirtual 89, 3) := by decide +kernel
theorem dX10_value_13 : decode cX10_value 13 = .ok (.ifCond .eq 15, 3) := by decide +kernel
theorem dX10_value_16 : decode cX10_value 16 = .ok (.aload_n 0, 1) := by decide +kernel
theorem dX10_value_17 : decode cX10_value 17 = .ok (.getfield 12, 3) := by decide +kernel
theorem dX10_value_20 : decode cX10_value 20 = .ok (.iload_n 1, 1) := by decide +kernel
theorem dX10_value_21 : decode cX10_value 21 = .ok (.iload_n 2, 1) := by decide +kernel
theorem dX10_value_22 : decode cX10_value 22 = .ok (.invokevirtual 92, 3) := by decide +kernel
theorem dX10_value_25 : decode cX10_value 25 = .ok (.goto 4, 3) := by decide +kernel
theorem dX10_value_28 : decode cX10_value 28 = .ok (.iconst (-1), 1) := by decide +kernel
theorem dX10_value_29 : decode cX10_value 29 = .ok (.ireturn, 1) := by decide +kernel
theorem dX10_set_0 : decode cX10_set 0 = .ok (.iload_n 1, 1) := by decide +kernel
theorem dX10_set_1 : decode cX10_set 1 = .ok (.ifCond .ne 36, 3) := by decide +kernel
theorem dX10_set_4 : decode cX10_set 4 = .ok (.iload_n 2, 1) := by decide +kernel
theorem dX10_set_5 : decode cX10_set 5 = .ok (.iconst 1, 1) := by decide +kernel
theorem dX10_set_6 : decode cX10_set 6 = .ok (.if_icmp .lt 31, 3) := by decide +kernel
theorem dX10_set_9 : decode cX10_set 9 = .ok (.iload_n 2, 1) := by decide +kernel
theorem dX10_set_10 : decode cX10_set 10 = .ok (.bipush 9, 2) := by decide +kernel
theorem dX10_set_12 : decode cX10_set 12 = .ok (.if_icmp .gt 25, 3) := by decide +kernel
theorem dX10_set_15 : decode cX10_set 15 = .ok (.aload_n 0, 1) := by decide +kernel
theorem dX10_set_16 : decode cX10_set 16 = .ok (.getfield 12, 3) := by decide +kernel
theorem dX10_set_19 : decode cX10_set 19 = .ok (.getfield 95, 3) := by decide +kernel
theorem dX10_set_22 : decode cX10_set 22 = .ok (.istore_n 3, 1) := by decide +kernel
theorem dX10_set_23 : decode cX10_set 23 = .ok (.aload_n 0, 1) := by decide +kernel
theorem dX10_set_24 : decode cX10_set 24 = .ok (.getfield 12, 3) := by decide +kernel
theorem dX10_set_27 : decode cX10_set 27 = .ok (.iload_n 2, 1) := by decide +kernel
theorem dX10_set_28 : decode cX10_set 28 = .ok (.putfield 95, 3) := by decide +kernel
theorem dX10_set_31 : decode cX10_set 31 = .ok (.aload_n 0, 1) := by decide +kernel
theorem dX10_set_32 : decode cX10_set 32 = .ok (.invokevirtual 61, 3) := by decide +kernel
theorem dX10_set_35 : decode cX10_set 35 = .ok (.iload_n 3, 1) := by decide +kernel
theorem dX10_set_36 : decode cX10_set 36 = .ok (.ireturn, 1) := by decide +kernel
theorem dX10_set_37 : decode cX10_set 37 = .ok (.iload_n 1, 1) := by decide +kernel
theorem dX10_set_38 : decode cX10_set 38 = .ok (.iconst 1, 1) := by decide +kernel
theorem dX10_set_39 : decode cX10_set 39 = .ok (.if_icmp .ne 34, 3) := by decide +kernel
theorem dX10_set_42 : decode cX10_set 42 = .ok (.iload_n 2, 1) := by decide +kernel
theorem dX10_set_43 : decode cX10_set 43 = .ok (.ifCond .lt 30, 3) := by decide +kernel
theorem dX10_set_46 : decode cX10_set 46 = .ok (.iload_n 2, 1) := by decide +kernel
theorem dX10_set_47 : decode cX10_set 47 = .ok (.iconst 4, 1) := by decide +kernel
theorem dX10_set_48 : decode cX10_set 48 = .ok (.if_icmp .gt 25, 3) := by decide +kernel
theorem dX10_set_51 : decode cX10_set 51 = .ok (.aload_n 0, 1) := by decide +kernel
theorem dX10_set_52 : decode cX10_set 52 = .ok (.getfield 12, 3) := by decide +kernel
theorem dX10_set_55 : decode cX10_set 55 = .ok (.getfield 98, 3) := by decide +kernel
theorem dX10_set_58 : decode cX10_set 58 = .ok (.istore_n 3, 1) := by decide +kernel
theorem dX10_set_59 : decode cX10_set 59 = .ok (.aload_n 0, 1) := by decide +kernel
theorem dX10_set_60 : decode cX10_set 60 = .ok (.getfield 12, 3) := by decide +kernel
theorem dX10_set_63 : decode cX10_set 63 = .ok (.iload_n 2, 1) := by decide +kernel
theorem dX10_set_64 : decode cX10_set 64 = .ok (.putfield 98, 3) := by decide +kernel
theorem dX10_set_67 : decode cX10_set 67 = .ok (.aload_n 0, 1) := by decide +kernel
theorem dX10_set_68 : decode cX10_set 68 = .ok (.invokevirtual 101, 3) := by decide +kernel
theorem dX10_set_71 : decode cX10_set 71 = .ok (.iload_n 3, 1) := by decide +kernel
theorem dX10_set_72 : decode cX10_set 72 = .ok (.ireturn, 1) := by decide +kernel
theorem dX10_set_73 : decode cX10_set 73 = .ok (.iconst (-1), 1) := by decide +kernel
theorem dX10_set_74 : decode cX10_set 74 = .ok (.ireturn, 1) := by decide +kernel
theorem dX10_about_0 : decode cX10_about 0 = .ok (.iload_n 1, 1) := by decide +kernel
theorem dX10_about_1 : decode cX10_about 1 = .ok (.tableswitch 63 0 3 #[31, 39, 47, 55], 31) := by decide +kernel
theorem dX10_about_32 : decode cX10_about 32 = .ok (.aload_n 0, 1) := by decide +kernel
theorem dX10_about_33 : decode cX10_about 33 = .ok (.getfield 12, 3) := by decide +kernel
theorem dX10_about_36 : decode cX10_about 36 = .ok (.getfield 64, 3) := by decide +kernel
theorem dX10_about_39 : decode cX10_about 39 = .ok (.ireturn, 1) := by decide +kernel
theorem dX10_about_40 : decode cX10_about 40 = .ok (.aload_n 0, 1) := by decide +kernel
theorem dX10_about_41 : decode cX10_about 41 = .ok (.getfield 12, 3) := by decide +kernel
theorem dX10_about_44 : decode cX10_about 44 = .ok (.getfield 54, 3) := by decide +kernel
theorem dX10_about_47 : decode cX10_about 47 = .ok (.ireturn, 1) := by decide +kernel
theorem dX10_about_48 : decode cX10_about 48 = .ok (.aload_n 0, 1) := by decide +kernel
theorem dX10_about_49 : decode cX10_about 49 = .ok (.getfield 12, 3) := by decide +kernel
theorem dX10_about_52 : decode cX10_about 52 = .ok (.getfield 95, 3) := by decide +kernel
theorem dX10_about_55 : decode cX10_about 55 = .ok (.ireturn, 1) := by decide +kernel
theorem dX10_about_56 : decode cX10_about 56 = .ok (.aload_n 0, 1) := by decide +kernel
theorem dX10_about_57 : decode cX10_about 57 = .ok (.getfield 12, 3) := by decide +kernel
theorem dX10_about_60 : decode cX10_about 60 = .ok (.getfield 98, 3) := by decide +kernel
theorem dX10_about_63 : decode cX10_about 63 = .ok (.ireturn, 1) := by decide +kernel
theorem dX10_about_64 : decode cX10_about 64 = .ok (.iload_n 1, 1) := by decide +kernel
theorem dX10_about_65 : decode cX10_about 65 = .ok (.iconst 4, 1) := by decide +kernel
theorem dX10_about_66 : decode cX10_about 66 = .ok (.if_icmp .lt 26, 3) := by decide +kernel
theorem dX10_about_69 : decode cX10_about 69 = .ok (.aload_n 0, 1) := by decide +kernel
theorem dX10_about_70 : decode cX10_about 70 = .ok (.iload_n 1, 1) := by decide +kernel
theorem dX10_about_71 : decode cX10_about 71 = .ok (.iconst 4, 1) := by decide +kernel
theorem dX10_about_72 : decode cX10_about 72 = .ok (.isub, 1) := by decide +kernel
theorem dX10_about_73 : decode cX10_about 73 = .ok (.invokevirtual 89, 3) := by decide +kernel
theorem dX10_about_76 : decode cX10_about 76 = .ok (.ifCond .eq 16, 3) := by decide +kernel
theorem dX10_about_79 : decode cX10_about 79 = .ok (.aload_n 0, 1) := by decide +kernel
theorem dX10_about_80 : decode cX10_about 80 = .ok (.getfield 12, 3) := by decide +kernel
theorem dX10_about_83 : decode cX10_about 83 = .ok (.iload_n 1, 1) := by decide +kernel
theorem dX10_about_84 : decode cX10_about 84 = .ok (.iconst 4, 1) := by decide +kernel
theorem dX10_about_85 : decode cX10_about 85 = .ok (.isub, 1) := by decide +kernel
theorem dX10_about_86 : decode cX10_about 86 = .ok (.invokevirtual 104, 3) := by decide +kernel
theorem dX10_about_89 : decode cX10_about 89 = .ok (.goto 4, 3) := by decide +kernel
theorem dX10_about_92 : decode cX10_about 92 = .ok (.iconst (-1), 1) := by decide +kernel
theorem dX10_about_93 : decode cX10_about 93 = .ok (.ireturn, 1) := by decide +kernel
theorem dX10_isGraph_0 : decode cX10_isGraph 0 = .ok (.iload_n 1, 1) := by decide +kernel
theorem dX10_isGraph_1 : decode cX10_isGraph 1 = .ok (.aload_n 0, 1) := by decide +kernel
theorem dX10_isGraph_2 : decode cX10_isGraph 2 = .ok (.getfield 12, 3) := by decide +kernel
theorem dX10_isGraph_5 : decode cX10_isGraph 5 = .ok (.getfield 64, 3) := by decide +kernel
theorem dX10_isGraph_8 : decode cX10_isGraph 8 = .ok (.invokestatic 107, 3) := by decide +kernel
theorem dX10_isGraph_11 : decode cX10_isGraph 11 = .ok (.ireturn, 1) := by decide +kernel
theorem dX10_order_0 : decode cX10_order 0 = .ok (.aload_n 0, 1) := by decide +kernel
theorem dX10_order_1 : decode cX10_order 1 = .ok (.iload_n 1, 1) := by decide +kernel
theorem dX10_order_2 : decode cX10_order 2 = .ok (.invokevirtual 112, 3) := by decide +kernel
theorem dX10_order_5 : decode cX10_order 5 = .ok (.ifCond .eq 11, 3) := by decide +kernel
theorem dX10_order_8 : decode cX10_order 8 = .ok (.aload_n 0, 1) := by decide +kernel
theorem dX10_order_9 : decode cX10_order 9 = .ok (.iload_n 2, 1) := by decide +kernel
theorem dX10_order_10 : decode cX10_order 10 = .ok (.invokevirtual 89, 3) := by decide +kernel
theorem dX10_order_13 : decode cX10_order 13 = .ok (.ifCond .ne 5, 3) := by decide +kernel
theorem dX10_order_16 : decode cX10_order 16 = .ok (.iconst (-1), 1) := by decide +kernel
theorem dX10_order_17 : decode cX10_order 17 = .ok (.ireturn, 1) := by decide +kernel
theorem dX10_order_18 : decode cX10_order 18 = .ok (.iconst 0, 1) := by decide +kernel
theorem dX10_order_19 : decode cX10_order 19 = .ok (.istore_n 3, 1) := by decide +kernel
theorem dX10_order_20 : decode cX10_order 20 = .ok (.iconst 0, 1) := by decide +kernel
theorem dX10_order_21 : decode cX10_order 21 = .ok (.istore 4, 2) := by decide +kernel
theorem dX10_order_23 : decode cX10_order 23 = .ok (.iconst 0, 1) := by decide +kernel
theorem dX10_order_24 : decode cX10_order 24 = .ok (.istore 5, 2) := by decide +kernel
theorem dX10_order_26 : decode cX10_order 26 = .ok (.iload 5, 2) := by decide +kernel
theorem dX10_order_28 : decode cX10_order 28 = .ok (.iload_n 2, 1) := by decide +kernel
theorem dX10_order_29 : decode cX10_order 29 = .ok (.if_icmp .gt 30, 3) := by decide +kernel
theorem dX10_order_32 : decode cX10_order 32 = .ok (.iload_n 1, 1) := by decide +kernel
theorem dX10_order_33 : decode cX10_order 33 = .ok (.aload_n 0, 1) := by decide +kernel
theorem dX10_order_34 : decode cX10_order 34 = .ok (.getfield 12, 3) := by decide +kernel
theorem dX10_order_37 : decode cX10_order 37 = .ok (.getfield 64, 3) := by decide +kernel
theorem dX10_order_40 : decode cX10_order 40 = .ok (.iload_n 3, 1) := by decide +kernel
theorem dX10_order_41 : decode cX10_order 41 = .ok (.invokestatic 115, 3) := by decide +kernel
theorem dX10_order_44 : decode cX10_order 44 = .ok (.istore 4, 2) := by decide +kernel
theorem dX10_order_46 : decode cX10_order 46 = .ok (.iload_n 3, 1) := by decide +kernel
theorem dX10_order_47 : decode cX10_order 47 = .ok (.iconst 1, 1) := by decide +kernel
theorem dX10_order_48 : decode cX10_order 48 = .ok (.iload 4, 2) := by decide +kernel
theorem dX10_order_50 : decode cX10_order 50 = .ok (.ishl, 1) := by decide +kernel
theorem dX10_order_51 : decode cX10_order 51 = .ok (.ior, 1) := by decide +kernel
theorem dX10_order_52 : decode cX10_order 52 = .ok (.istore_n 3, 1) := by decide +kernel
theorem dX10_order_53 : decode cX10_order 53 = .ok (.iinc 5 1, 3) := by decide +kernel
theorem dX10_order_56 : decode cX10_order 56 = .ok (.goto (-30), 3) := by decide +kernel
theorem dX10_order_59 : decode cX10_order 59 = .ok (.iload 4, 2) := by decide +kernel
theorem dX10_order_61 : decode cX10_order 61 = .ok (.ireturn, 1) := by decide +kernel
theorem dX10_size_0 : decode cX10_size 0 = .ok (.aload_n 0, 1) := by decide +kernel
theorem dX10_size_1 : decode cX10_size 1 = .ok (.iload_n 1, 1) := by decide +kernel
theorem dX10_size_2 : decode cX10_size 2 = .ok (.invokevirtual 112, 3) := by decide +kernel
theorem dX10_size_5 : decode cX10_size 5 = .ok (.ifCond .eq 10, 3) := by decide +kernel
theorem dX10_size_8 : decode cX10_size 8 = .ok (.iload_n 2, 1) := by decide +kernel
theorem dX10_size_9 : decode cX10_size 9 = .ok (.invokestatic 119, 3) := by decide +kernel
theorem dX10_size_12 : decode cX10_size 12 = .ok (.ifCond .ne 5, 3) := by decide +kernel
theorem dX10_size_15 : decode cX10_size 15 = .ok (.iconst (-1), 1) := by decide +kernel
theorem dX10_size_16 : decode cX10_size 16 = .ok (.ireturn, 1) := by decide +kernel
theorem dX10_size_17 : decode cX10_size 17 = .ok (.aload_n 0, 1) := by decide +kernel
theorem dX10_size_18 : decode cX10_size 18 = .ok (.getfield 28, 3) := by decide +kernel
theorem dX10_size_21 : decode cX10_size 21 = .ok (.iload_n 1, 1) := by decide +kernel
theorem dX10_size_22 : decode cX10_size 22 = .ok (.invokevirtual 122, 3) := by decide +kernel
theorem dX10_size_25 : decode cX10_size 25 = .ok (.iload_n 2, 1) := by decide +kernel
theorem dX10_size_26 : decode cX10_size 26 = .ok (.invokevirtual 126, 3) := by decide +kernel
theorem dX10_size_29 : decode cX10_size 29 = .ok (.invokevirtual 132, 3) := by decide +kernel
theorem dX10_size_32 : decode cX10_size 32 = .ok (.ireturn, 1) := by decide +kernel
theorem dX10_word_0 : decode cX10_word 0 = .ok (.aload_n 0, 1) := by decide +kernel
theorem dX10_word_1 : decode cX10_word 1 = .ok (.iload_n 1, 1) := by decide +kernel
theorem dX10_word_2 : decode cX10_word 2 = .ok (.invokevirtual 112, 3) := by decide +kernel
theorem dX10_word_5 : decode cX10_word 5 = .ok (.ifCond .eq 10, 3) := by decide +kernel
theorem dX10_word_8 : decode cX10_word 8 = .ok (.iload_n 2, 1) := by decide +kernel
theorem dX10_word_9 : decode cX10_word 9 = .ok (.invokestatic 119, 3) := by decide +kernel
theorem dX10_word_12 : decode cX10_word 12 = .ok (.ifCond .ne 7, 3) := by decide +kernel
theorem dX10_word_15 : decode cX10_word 15 = .ok (.ldc2_w 138, 3) := by decide +kernel
theorem dX10_word_18 : decode cX10_word 18 = .ok (.lreturn, 1) := by decide +kernel
theorem dX10_word_19 : decode cX10_word 19 = .ok (.aload_n 0, 1) := by decide +kernel
theorem dX10_word_20 : decode cX10_word 20 = .ok (.getfield 28, 3) := by decide +kernel
theorem dX10_word_23 : decode cX10_word 23 = .ok (.iload_n 1, 1) := by decide +kernel
theorem dX10_word_24 : decode cX10_word 24 = .ok (.invokevirtual 122, 3) := by decide +kernel
theorem dX10_word_27 : decode cX10_word 27 = .ok (.iload_n 2, 1) := by decide +kernel
theorem dX10_word_28 : decode cX10_word 28 = .ok (.invokevirtual 126, 3) := by decide +kernel
theorem dX10_word_31 : decode cX10_word 31 = .ok (.iload_n 3, 1) := by decide +kernel
theorem dX10_word_32 : decode cX10_word 32 = .ok (.invokestatic 140, 3) := by decide +kernel
theorem dX10_word_35 : decode cX10_word 35 = .ok (.lreturn, 1) := by decide +kernel
theorem dX10_compare_0 : decode cX10_compare 0 = .ok (.aload_n 0, 1) := by decide +kernel
theorem dX10_compare_1 : decode cX10_compare 1 = .ok (.iload_n 1, 1) := by decide +kernel
theorem dX10_compare_2 : decode cX10_compare 2 = .ok (.invokevirtual 112, 3) := by decide +kernel
theorem dX10_compare_5 : decode cX10_compare 5 = .ok (.ifCond .eq 11, 3) := by decide +kernel
theorem dX10_compare_8 : decode cX10_compare 8 = .ok (.aload_n 0, 1) := by decide +kernel
theorem dX10_compare_9 : decode cX10_compare 9 = .ok (.iload_n 2, 1) := by decide +kernel
theorem dX10_compare_10 : decode cX10_compare 10 = .ok (.invokevirtual 112, 3) := by decide +kernel
theorem dX10_compare_13 : decode cX10_compare 13 = .ok (.ifCond .ne 5, 3) := by decide +kernel
theorem dX10_compare_16 : decode cX10_compare 16 = .ok (.iconst (-1), 1) := by decide +kernel
theorem dX10_compare_17 : decode cX10_compare 17 = .ok (.ireturn, 1) := by decide +kernel
theorem dX10_compare_18 : decode cX10_compare 18 = .ok (.aload_n 0, 1) := by decide +kernel
theorem dX10_compare_19 : decode cX10_compare 19 = .ok (.getfield 28, 3) := by decide +kernel
theorem dX10_compare_22 : decode cX10_compare 22 = .ok (.iload_n 1, 1) := by decide +kernel
theorem dX10_compare_23 : decode cX10_compare 23 = .ok (.iload_n 2, 1) := by decide +kernel
theorem dX10_compare_24 : decode cX10_compare 24 = .ok (.invokevirtual 144, 3) := by decide +kernel
theorem dX10_compare_27 : decode cX10_compare 27 = .ok (.iconst 1, 1) := by decide +kernel
theorem dX10_compare_28 : decode cX10_compare 28 = .ok (.iadd, 1) := by decide +kernel
theorem dX10_compare_29 : decode cX10_compare 29 = .ok (.ireturn, 1) := by decide +kernel
theorem dX10_parents_0 : decode cX10_parents 0 = .ok (.aload_n 0, 1) := by decide +kernel
theorem dX10_parents_1 : decode cX10_parents 1 = .ok (.iload_n 1, 1) := by decide +kernel
theorem dX10_parents_2 : decode cX10_parents 2 = .ok (.invokevirtual 89, 3) := by decide +kernel
theorem dX10_parents_5 : decode cX10_parents 5 = .ok (.ifCond .eq 28, 3) := by decide +kernel
theorem dX10_parents_8 : decode cX10_parents 8 = .ok (.iload_n 2, 1) := by decide +kernel
theorem dX10_parents_9 : decode cX10_parents 9 = .ok (.ifCond .lt 24, 3) := by decide +kernel
theorem dX10_parents_12 : decode cX10_parents 12 = .ok (.iload_n 2, 1) := by decide +kernel
theorem dX10_parents_13 : decode cX10_parents 13 = .ok (.iconst 1, 1) := by decide +kernel
theorem dX10_parents_14 : decode cX10_parents 14 = .ok (.aload_n 0, 1) := by decide +kernel
theorem dX10_parents_15 : decode cX10_parents 15 = .ok (.getfield 12, 3) := by decide +kernel
theorem dX10_parents_18 : decode cX10_parents 18 = .ok (.getfield 64, 3) := by decide +kernel
theorem dX10_parents_21 : decode cX10_parents 21 = .ok (.ishl, 1) := by decide +kernel
theorem dX10_parents_22 : decode cX10_parents 22 = .ok (.if_icmp .ge 11, 3) := by decide +kernel
theorem dX10_parents_25 : decode cX10_parents 25 = .ok (.iload_n 2, 1) := by decide +kernel
theorem dX10_parents_26 : decode cX10_parents 26 = .ok (.iload_n 1, 1) := by decide +kernel
theorem dX10_parents_27 : decode cX10_parents 27 = .ok (.invokestatic 147, 3) := by decide +kernel
theorem dX10_parents_30 : decode cX10_parents 30 = .ok (.ifCond .eq 5, 3) := by decide +kernel
theorem dX10_parents_33 : decode cX10_parents 33 = .ok (.iconst (-1), 1) := by decide +kernel
theorem dX10_parents_34 : decode cX10_parents 34 = .ok (.ireturn, 1) := by decide +kernel
theorem dX10_parents_35 : decode cX10_parents 35 = .ok (.aload_n 0, 1) := by decide +kernel
theorem dX10_parents_36 : decode cX10_parents 36 = .ok (.getfield 37, 3) := by decide +kernel
theorem dX10_parents_39 : decode cX10_parents 39 = .ok (.iload_n 1, 1) := by decide +kernel
theorem dX10_parents_40 : decode cX10_parents 40 = .ok (.iload_n 2, 1) := by decide +kernel
theorem dX10_parents_41 : decode cX10_parents 41 = .ok (.invokevirtual 150, 3) := by decide +kernel
theorem dX10_parents_44 : decode cX10_parents 44 = .ok (.ireturn, 1) := by decide +kernel
theorem dX10_best_0 : decode cX10_best 0 = .ok (.aload_n 0, 1) := by decide +kernel
theorem dX10_best_1 : decode cX10_best 1 = .ok (.getfield 37, 3) := by decide +kernel
theorem dX10_best_4 : decode cX10_best 4 = .ok (.invokevirtual 153, 3) := by decide +kernel
theorem dX10_best_7 : decode cX10_best 7 = .ok (.ireturn, 1) := by decide +kernel
theorem dX10_climb_0 : decode cX10_climb 0 = .ok (.aload_n 0, 1) := by decide +kernel
theorem dX10_climb_1 : decode cX10_climb 1 = .ok (.iload_n 1, 1) := by decide +kernel
theorem dX10_climb_2 : decode cX10_climb 2 = .ok (.invokevirtual 112, 3) := by decide +kernel
theorem dX10_climb_5 : decode cX10_climb 5 = .ok (.ifCond .eq 27, 3) := by decide +kernel
theorem dX10_climb_8 : decode cX10_climb 8 = .ok (.iload_n 1, 1) := by decide +kernel
theorem dX10_climb_9 : decode cX10_climb 9 = .ok (.aload_n 0, 1) := by decide +kernel
theorem dX10_climb_10 : decode cX10_climb 10 = .ok (.getfield 12, 3) := by decide +kernel
theorem dX10_climb_13 : decode cX10_climb 13 = .ok (.getfield 98, 3) := by decide +kernel
theorem dX10_climb_16 : decode cX10_climb 16 = .ok (.invokestatic 156, 3) := by decide +kernel
theorem dX10_climb_19 : decode cX10_climb 19 = .ok (.ifCond .eq 13, 3) := by decide +kernel
theorem dX10_climb_22 : decode cX10_climb 22 = .ok (.iload_n 2, 1) := by decide +kernel
theorem dX10_climb_23 : decode cX10_climb 23 = .ok (.ifCond .lt 9, 3) := by decide +kernel
theorem dX10_climb_26 : decode cX10_climb 26 = .ok (.iload_n 2, 1) := by decide +kernel
theorem dX10_climb_27 : decode cX10_climb 27 = .ok (.bipush 30, 2) := by decide +kernel
theorem dX10_climb_29 : decode cX10_climb 29 = .ok (.if_icmp .le 5, 3) := by decide +kernel
theorem dX10_climb_32 : decode cX10_climb 32 = .ok (.iconst (-1), 1) := by decide +kernel
theorem dX10_climb_33 : decode cX10_climb 33 = .ok (.ireturn, 1) := by decide +kernel
theorem dX10_climb_34 : decode cX10_climb 34 = .ok (.aload_n 0, 1) := by decide +kernel
theorem dX10_climb_35 : decode cX10_climb 35 = .ok (.getfield 37, 3) := by decide +kernel
theorem dX10_climb_38 : decode cX10_climb 38 = .ok (.iload_n 1, 1) := by decide +kernel
theorem dX10_climb_39 : decode cX10_climb 39 = .ok (.iload_n 2, 1) := by decide +kernel
theorem dX10_climb_40 : decode cX10_climb 40 = .ok (.invokevirtual 159, 3) := by decide +kernel
theorem dX10_climb_43 : decode cX10_climb 43 = .ok (.ireturn, 1) := by decide +kernel
theorem dX10_alike_0 : decode cX10_alike 0 = .ok (.aload_n 0, 1) := by decide +kernel
theorem dX10_alike_1 : decode cX10_alike 1 = .ok (.iload_n 1, 1) := by decide +kernel
theorem dX10_alike_2 : decode cX10_alike 2 = .ok (.invokevirtual 112, 3) := by decide +kernel
theorem dX10_alike_5 : decode cX10_alike 5 = .ok (.ifCond .eq 11, 3) := by decide +kernel
theorem dX10_alike_8 : decode cX10_alike 8 = .ok (.aload_n 0, 1) := by decide +kernel
theorem dX10_alike_9 : decode cX10_alike 9 = .ok (.iload_n 2, 1) := by decide +kernel
theorem dX10_alike_10 : decode cX10_alike 10 = .ok (.invokevirtual 112, 3) := by decide +kernel
theorem dX10_alike_13 : decode cX10_alike 13 = .ok (.ifCond .ne 5, 3) := by decide +kernel
theorem dX10_alike_16 : decode cX10_alike 16 = .ok (.iconst (-1), 1) := by decide +kernel
theorem dX10_alike_17 : decode cX10_alike 17 = .ok (.ireturn, 1) := by decide +kernel
theorem dX10_alike_18 : decode cX10_alike 18 = .ok (.iload_n 1, 1) := by decide +kernel
theorem dX10_alike_19 : decode cX10_alike 19 = .ok (.invokestatic 162, 3) := by decide +kernel
theorem dX10_alike_22 : decode cX10_alike 22 = .ok (.iload_n 2, 1) := by decide +kernel
theorem dX10_alike_23 : decode cX10_alike 23 = .ok (.invokestatic 162, 3) := by decide +kernel
theorem dX10_alike_26 : decode cX10_alike 26 = .ok (.if_icmp .ne 19, 3) := by decide +kernel
theorem dX10_alike_29 : decode cX10_alike 29 = .ok (.iload_n 1, 1) := by decide +kernel
theorem dX10_alike_30 : decode cX10_alike 30 = .ok (.invokestatic 167, 3) := by decide +kernel
theorem dX10_alike_33 : decode cX10_alike 33 = .ok (.iload_n 2, 1) := by decide +kernel
theorem dX10_alike_34 : decode cX10_alike 34 = .ok (.invokestatic 167, 3) := by decide +kernel
theorem dX10_alike_37 : decode cX10_alike 37 = .ok (.lcmp, 1) := by decide +kernel
theorem dX10_alike_38 : decode cX10_alike 38 = .ok (.ifCond .ne 7, 3) := by decide +kernel
theorem dX10_alike_41 : decode cX10_alike 41 = .ok (.iconst 1, 1) := by decide +kernel
theorem dX10_alike_42 : decode cX10_alike 42 = .ok (.goto 4, 3) := by decide +kernel
theorem dX10_alike_45 : decode cX10_alike 45 = .ok (.iconst 0, 1) := by decide +kernel
theorem dX10_alike_46 : decode cX10_alike 46 = .ok (.istore_n 3, 1) := by decide +kernel
theorem dX10_alike_47 : decode cX10_alike 47 = .ok (.iload_n 3, 1) := by decide +kernel
theorem dX10_alike_48 : decode cX10_alike 48 = .ok (.ifCond .eq 7, 3) := by decide +kernel
theorem dX10_alike_51 : decode cX10_alike 51 = .ok (.iconst 1, 1) := by decide +kernel
theorem dX10_alike_52 : decode cX10_alike 52 = .ok (.goto 4, 3) := by decide +kernel
theorem dX10_alike_55 : decode cX10_alike 55 = .ok (.iconst 0, 1) := by decide +kernel
theorem dX10_alike_56 : decode cX10_alike 56 = .ok (.ireturn, 1) := by decide +kernel
theorem dX10_kin_0 : decode cX10_kin 0 = .ok (.aload_n 0, 1) := by decide +kernel
theorem dX10_kin_1 : decode cX10_kin 1 = .ok (.iload_n 1, 1) := by decide +kernel
theorem dX10_kin_2 : decode cX10_kin 2 = .ok (.invokevirtual 112, 3) := by decide +kernel
theorem dX10_kin_5 : decode cX10_kin 5 = .ok (.ifCond .eq 12, 3) := by decide +kernel
theorem dX10_kin_8 : decode cX10_kin 8 = .ok (.iload_n 2, 1) := by decide +kernel
theorem dX10_kin_9 : decode cX10_kin 9 = .ok (.ifCond .lt 8, 3) := by decide +kernel
theorem dX10_kin_12 : decode cX10_kin 12 = .ok (.iload_n 2, 1) := by decide +kernel
theorem dX10_kin_13 : decode cX10_kin 13 = .ok (.iconst 3, 1) := by decide +kernel
theorem dX10_kin_14 : decode cX10_kin 14 = .ok (.if_icmp .le 5, 3) := by decide +kernel
theorem dX10_kin_17 : decode cX10_kin 17 = .ok (.iconst (-1), 1) := by decide +kernel
theorem dX10_kin_18 : decode cX10_kin 18 = .ok (.ireturn, 1) := by decide +kernel
theorem dX10_kin_19 : decode cX10_kin 19 = .ok (.new 163, 3) := by decide +kernel
theorem dX10_kin_22 : decode cX10_kin 22 = .ok (.dup, 1) := by decide +kernel
theorem dX10_kin_23 : decode cX10_kin 23 = .ok (.invokespecial 171, 3) := by decide +kernel
theorem dX10_kin_26 : decode cX10_kin 26 = .ok (.astore_n 3, 1) := by decide +kernel
theorem dX10_kin_27 : decode cX10_kin 27 = .ok (.aload_n 3, 1) := by decide +kernel
theorem dX10_kin_28 : decode cX10_kin 28 = .ok (.iload_n 1, 1) := by decide +kernel
theorem dX10_kin_29 : decode cX10_kin 29 = .ok (.aload_n 0, 1) := by decide +kernel
theorem dX10_kin_30 : decode cX10_kin 30 = .ok (.getfield 12, 3) := by decide +kernel
theorem dX10_kin_33 : decode cX10_kin 33 = .ok (.getfield 64, 3) := by decide +kernel
theorem dX10_kin_36 : decode cX10_kin 36 = .ok (.invokevirtual 172, 3) := by decide +kernel
theorem dX10_kin_39 : decode cX10_kin 39 = .ok (.iload_n 2, 1) := by decide +kernel
theorem dX10_kin_40 : decode cX10_kin 40 = .ok (.tableswitch 43 0 2 #[28, 33, 38], 28) := by decide +kernel
theorem dX10_kin_68 : decode cX10_kin 68 = .ok (.aload_n 3, 1) := by decide +kernel
theorem dX10_kin_69 : decode cX10_kin 69 = .ok (.getfield 176, 3) := by decide +kernel
theorem dX10_kin_72 : decode cX10_kin 72 = .ok (.ireturn, 1) := by decide +kernel
theorem dX10_kin_73 : decode cX10_kin 73 = .ok (.aload_n 3, 1) := by decide +kernel
theorem dX10_kin_74 : decode cX10_kin 74 = .ok (.getfield 179, 3) := by decide +kernel
theorem dX10_kin_77 : decode cX10_kin 77 = .ok (.ireturn, 1) := by decide +kernel
theorem dX10_kin_78 : decode cX10_kin 78 = .ok (.aload_n 3, 1) := by decide +kernel
theorem dX10_kin_79 : decode cX10_kin 79 = .ok (.getfield 182, 3) := by decide +kernel
theorem dX10_kin_82 : decode cX10_kin 82 = .ok (.ireturn, 1) := by decide +kernel
theorem dX10_kin_83 : decode cX10_kin 83 = .ok (.aload_n 3, 1) := by decide +kernel
theorem dX10_kin_84 : decode cX10_kin 84 = .ok (.getfield 185, 3) := by decide +kernel
