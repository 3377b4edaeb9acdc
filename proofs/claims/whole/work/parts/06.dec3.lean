theorem dX11_row_111 : decode cX11_row 111 = .ok (.iload 6, 2) := by decide +kernel
theorem dX11_row_113 : decode cX11_row 113 = .ok (.iconst 3, 1) := by decide +kernel
theorem dX11_row_114 : decode cX11_row 114 = .ok (.iadd, 1) := by decide +kernel
theorem dX11_row_115 : decode cX11_row 115 = .ok (.iload 4, 2) := by decide +kernel
theorem dX11_row_117 : decode cX11_row 117 = .ok (.iastore, 1) := by decide +kernel
theorem dX11_row_118 : decode cX11_row 118 = .ok (.aload_n 0, 1) := by decide +kernel
theorem dX11_row_119 : decode cX11_row 119 = .ok (.getfield 13, 3) := by decide +kernel
theorem dX11_row_122 : decode cX11_row 122 = .ok (.iload 6, 2) := by decide +kernel
theorem dX11_row_124 : decode cX11_row 124 = .ok (.iconst 4, 1) := by decide +kernel
theorem dX11_row_125 : decode cX11_row 125 = .ok (.iadd, 1) := by decide +kernel
theorem dX11_row_126 : decode cX11_row 126 = .ok (.iload 5, 2) := by decide +kernel
theorem dX11_row_128 : decode cX11_row 128 = .ok (.iastore, 1) := by decide +kernel
theorem dX11_row_129 : decode cX11_row 129 = .ok (.aload_n 0, 1) := by decide +kernel
theorem dX11_row_130 : decode cX11_row 130 = .ok (.dup, 1) := by decide +kernel
theorem dX11_row_131 : decode cX11_row 131 = .ok (.getfield 179, 3) := by decide +kernel
theorem dX11_row_134 : decode cX11_row 134 = .ok (.iconst 1, 1) := by decide +kernel
theorem dX11_row_135 : decode cX11_row 135 = .ok (.iadd, 1) := by decide +kernel
theorem dX11_row_136 : decode cX11_row 136 = .ok (.putfield 179, 3) := by decide +kernel
theorem dX11_row_139 : decode cX11_row 139 = .ok (.aload_n 0, 1) := by decide +kernel
theorem dX11_row_140 : decode cX11_row 140 = .ok (.invokevirtual 226, 3) := by decide +kernel
theorem dX11_row_143 : decode cX11_row 143 = .ok (.aload_n 0, 1) := by decide +kernel
theorem dX11_row_144 : decode cX11_row 144 = .ok (.getfield 179, 3) := by decide +kernel
theorem dX11_row_147 : decode cX11_row 147 = .ok (.iconst 1, 1) := by decide +kernel
theorem dX11_row_148 : decode cX11_row 148 = .ok (.isub, 1) := by decide +kernel
theorem dX11_row_149 : decode cX11_row 149 = .ok (.ireturn, 1) := by decide +kernel
theorem dX11_drop_0 : decode cX11_drop 0 = .ok (.iload_n 1, 1) := by decide +kernel
theorem dX11_drop_1 : decode cX11_drop 1 = .ok (.ifCond .lt 11, 3) := by decide +kernel
theorem dX11_drop_4 : decode cX11_drop 4 = .ok (.iload_n 1, 1) := by decide +kernel
theorem dX11_drop_5 : decode cX11_drop 5 = .ok (.aload_n 0, 1) := by decide +kernel
theorem dX11_drop_6 : decode cX11_drop 6 = .ok (.getfield 179, 3) := by decide +kernel
theorem dX11_drop_9 : decode cX11_drop 9 = .ok (.if_icmp .lt 5, 3) := by decide +kernel
theorem dX11_drop_12 : decode cX11_drop 12 = .ok (.iconst (-1), 1) := by decide +kernel
theorem dX11_drop_13 : decode cX11_drop 13 = .ok (.ireturn, 1) := by decide +kernel
theorem dX11_drop_14 : decode cX11_drop 14 = .ok (.aload_n 0, 1) := by decide +kernel
theorem dX11_drop_15 : decode cX11_drop 15 = .ok (.dup, 1) := by decide +kernel
theorem dX11_drop_16 : decode cX11_drop 16 = .ok (.getfield 179, 3) := by decide +kernel
theorem dX11_drop_19 : decode cX11_drop 19 = .ok (.iconst 1, 1) := by decide +kernel
theorem dX11_drop_20 : decode cX11_drop 20 = .ok (.isub, 1) := by decide +kernel
theorem dX11_drop_21 : decode cX11_drop 21 = .ok (.putfield 179, 3) := by decide +kernel
theorem dX11_drop_24 : decode cX11_drop 24 = .ok (.iconst 5, 1) := by decide +kernel
theorem dX11_drop_25 : decode cX11_drop 25 = .ok (.iload_n 1, 1) := by decide +kernel
theorem dX11_drop_26 : decode cX11_drop 26 = .ok (.imul, 1) := by decide +kernel
theorem dX11_drop_27 : decode cX11_drop 27 = .ok (.istore_n 2, 1) := by decide +kernel
theorem dX11_drop_28 : decode cX11_drop 28 = .ok (.iload_n 2, 1) := by decide +kernel
theorem dX11_drop_29 : decode cX11_drop 29 = .ok (.iconst 5, 1) := by decide +kernel
theorem dX11_drop_30 : decode cX11_drop 30 = .ok (.aload_n 0, 1) := by decide +kernel
theorem dX11_drop_31 : decode cX11_drop 31 = .ok (.getfield 179, 3) := by decide +kernel
theorem dX11_drop_34 : decode cX11_drop 34 = .ok (.imul, 1) := by decide +kernel
theorem dX11_drop_35 : decode cX11_drop 35 = .ok (.if_icmp .ge 23, 3) := by decide +kernel
theorem dX11_drop_38 : decode cX11_drop 38 = .ok (.aload_n 0, 1) := by decide +kernel
theorem dX11_drop_39 : decode cX11_drop 39 = .ok (.getfield 13, 3) := by decide +kernel
theorem dX11_drop_42 : decode cX11_drop 42 = .ok (.iload_n 2, 1) := by decide +kernel
theorem dX11_drop_43 : decode cX11_drop 43 = .ok (.aload_n 0, 1) := by decide +kernel
theorem dX11_drop_44 : decode cX11_drop 44 = .ok (.getfield 13, 3) := by decide +kernel
theorem dX11_drop_47 : decode cX11_drop 47 = .ok (.iload_n 2, 1) := by decide +kernel
theorem dX11_drop_48 : decode cX11_drop 48 = .ok (.iconst 5, 1) := by decide +kernel
theorem dX11_drop_49 : decode cX11_drop 49 = .ok (.iadd, 1) := by decide +kernel
theorem dX11_drop_50 : decode cX11_drop 50 = .ok (.iaload, 1) := by decide +kernel
theorem dX11_drop_51 : decode cX11_drop 51 = .ok (.iastore, 1) := by decide +kernel
theorem dX11_drop_52 : decode cX11_drop 52 = .ok (.iinc 2 1, 3) := by decide +kernel
theorem dX11_drop_55 : decode cX11_drop 55 = .ok (.goto (-27), 3) := by decide +kernel
theorem dX11_drop_58 : decode cX11_drop 58 = .ok (.aload_n 0, 1) := by decide +kernel
theorem dX11_drop_59 : decode cX11_drop 59 = .ok (.invokevirtual 226, 3) := by decide +kernel
theorem dX11_drop_62 : decode cX11_drop 62 = .ok (.aload_n 0, 1) := by decide +kernel
theorem dX11_drop_63 : decode cX11_drop 63 = .ok (.getfield 179, 3) := by decide +kernel
theorem dX11_drop_66 : decode cX11_drop 66 = .ok (.ireturn, 1) := by decide +kernel
theorem dX11_value_0 : decode cX11_value 0 = .ok (.iload_n 1, 1) := by decide +kernel
theorem dX11_value_1 : decode cX11_value 1 = .ok (.ifCond .lt 19, 3) := by decide +kernel
theorem dX11_value_4 : decode cX11_value 4 = .ok (.iload_n 1, 1) := by decide +kernel
theorem dX11_value_5 : decode cX11_value 5 = .ok (.aload_n 0, 1) := by decide +kernel
theorem dX11_value_6 : decode cX11_value 6 = .ok (.getfield 179, 3) := by decide +kernel
theorem dX11_value_9 : decode cX11_value 9 = .ok (.if_icmp .ge 11, 3) := by decide +kernel
theorem dX11_value_12 : decode cX11_value 12 = .ok (.aload_n 0, 1) := by decide +kernel
theorem dX11_value_13 : decode cX11_value 13 = .ok (.iload_n 2, 1) := by decide +kernel
theorem dX11_value_14 : decode cX11_value 14 = .ok (.invokevirtual 233, 3) := by decide +kernel
theorem dX11_value_17 : decode cX11_value 17 = .ok (.ifCond .ne 7, 3) := by decide +kernel
theorem dX11_value_20 : decode cX11_value 20 = .ok (.iconst (-1), 1) := by decide +kernel
theorem dX11_value_21 : decode cX11_value 21 = .ok (.goto 13, 3) := by decide +kernel
theorem dX11_value_24 : decode cX11_value 24 = .ok (.aload_n 0, 1) := by decide +kernel
theorem dX11_value_25 : decode cX11_value 25 = .ok (.getfield 13, 3) := by decide +kernel
theorem dX11_value_28 : decode cX11_value 28 = .ok (.iconst 5, 1) := by decide +kernel
theorem dX11_value_29 : decode cX11_value 29 = .ok (.iload_n 1, 1) := by decide +kernel
theorem dX11_value_30 : decode cX11_value 30 = .ok (.imul, 1) := by decide +kernel
theorem dX11_value_31 : decode cX11_value 31 = .ok (.iload_n 2, 1) := by decide +kernel
theorem dX11_value_32 : decode cX11_value 32 = .ok (.iadd, 1) := by decide +kernel
theorem dX11_value_33 : decode cX11_value 33 = .ok (.iaload, 1) := by decide +kernel
theorem dX11_value_34 : decode cX11_value 34 = .ok (.ireturn, 1) := by decide +kernel
theorem dX11_set_0 : decode cX11_set 0 = .ok (.iload_n 1, 1) := by decide +kernel
theorem dX11_set_1 : decode cX11_set 1 = .ok (.ifCond .ne 30, 3) := by decide +kernel
theorem dX11_set_4 : decode cX11_set 4 = .ok (.iload_n 2, 1) := by decide +kernel
theorem dX11_set_5 : decode cX11_set 5 = .ok (.iconst 1, 1) := by decide +kernel
theorem dX11_set_6 : decode cX11_set 6 = .ok (.if_icmp .lt 25, 3) := by decide +kernel
theorem dX11_set_9 : decode cX11_set 9 = .ok (.iload_n 2, 1) := by decide +kernel
theorem dX11_set_10 : decode cX11_set 10 = .ok (.bipush 9, 2) := by decide +kernel
theorem dX11_set_12 : decode cX11_set 12 = .ok (.if_icmp .gt 19, 3) := by decide +kernel
theorem dX11_set_15 : decode cX11_set 15 = .ok (.aload_n 0, 1) := by decide +kernel
theorem dX11_set_16 : decode cX11_set 16 = .ok (.getfield 16, 3) := by decide +kernel
theorem dX11_set_19 : decode cX11_set 19 = .ok (.istore_n 3, 1) := by decide +kernel
theorem dX11_set_20 : decode cX11_set 20 = .ok (.aload_n 0, 1) := by decide +kernel
theorem dX11_set_21 : decode cX11_set 21 = .ok (.iload_n 2, 1) := by decide +kernel
theorem dX11_set_22 : decode cX11_set 22 = .ok (.putfield 16, 3) := by decide +kernel
theorem dX11_set_25 : decode cX11_set 25 = .ok (.aload_n 0, 1) := by decide +kernel
theorem dX11_set_26 : decode cX11_set 26 = .ok (.invokevirtual 226, 3) := by decide +kernel
theorem dX11_set_29 : decode cX11_set 29 = .ok (.iload_n 3, 1) := by decide +kernel
theorem dX11_set_30 : decode cX11_set 30 = .ok (.ireturn, 1) := by decide +kernel
theorem dX11_set_31 : decode cX11_set 31 = .ok (.iload_n 1, 1) := by decide +kernel
theorem dX11_set_32 : decode cX11_set 32 = .ok (.iconst 1, 1) := by decide +kernel
theorem dX11_set_33 : decode cX11_set 33 = .ok (.if_icmp .ne 28, 3) := by decide +kernel
theorem dX11_set_36 : decode cX11_set 36 = .ok (.iload_n 2, 1) := by decide +kernel
theorem dX11_set_37 : decode cX11_set 37 = .ok (.ifCond .lt 24, 3) := by decide +kernel
theorem dX11_set_40 : decode cX11_set 40 = .ok (.iload_n 2, 1) := by decide +kernel
theorem dX11_set_41 : decode cX11_set 41 = .ok (.iconst 4, 1) := by decide +kernel
theorem dX11_set_42 : decode cX11_set 42 = .ok (.if_icmp .gt 19, 3) := by decide +kernel
theorem dX11_set_45 : decode cX11_set 45 = .ok (.aload_n 0, 1) := by decide +kernel
theorem dX11_set_46 : decode cX11_set 46 = .ok (.getfield 20, 3) := by decide +kernel
theorem dX11_set_49 : decode cX11_set 49 = .ok (.istore_n 3, 1) := by decide +kernel
theorem dX11_set_50 : decode cX11_set 50 = .ok (.aload_n 0, 1) := by decide +kernel
theorem dX11_set_51 : decode cX11_set 51 = .ok (.iload_n 2, 1) := by decide +kernel
theorem dX11_set_52 : decode cX11_set 52 = .ok (.putfield 20, 3) := by decide +kernel
theorem dX11_set_55 : decode cX11_set 55 = .ok (.aload_n 0, 1) := by decide +kernel
theorem dX11_set_56 : decode cX11_set 56 = .ok (.invokevirtual 226, 3) := by decide +kernel
theorem dX11_set_59 : decode cX11_set 59 = .ok (.iload_n 3, 1) := by decide +kernel
theorem dX11_set_60 : decode cX11_set 60 = .ok (.ireturn, 1) := by decide +kernel
theorem dX11_set_61 : decode cX11_set 61 = .ok (.iconst (-1), 1) := by decide +kernel
theorem dX11_set_62 : decode cX11_set 62 = .ok (.ireturn, 1) := by decide +kernel
theorem dX11_about_0 : decode cX11_about 0 = .ok (.iload_n 1, 1) := by decide +kernel
theorem dX11_about_1 : decode cX11_about 1 = .ok (.tableswitch 51 0 3 #[31, 36, 41, 46], 31) := by decide +kernel
theorem dX11_about_32 : decode cX11_about 32 = .ok (.aload_n 0, 1) := by decide +kernel
theorem dX11_about_33 : decode cX11_about 33 = .ok (.getfield 160, 3) := by decide +kernel
theorem dX11_about_36 : decode cX11_about 36 = .ok (.ireturn, 1) := by decide +kernel
theorem dX11_about_37 : decode cX11_about 37 = .ok (.aload_n 0, 1) := by decide +kernel
theorem dX11_about_38 : decode cX11_about 38 = .ok (.getfield 179, 3) := by decide +kernel
theorem dX11_about_41 : decode cX11_about 41 = .ok (.ireturn, 1) := by decide +kernel
theorem dX11_about_42 : decode cX11_about 42 = .ok (.aload_n 0, 1) := by decide +kernel
theorem dX11_about_43 : decode cX11_about 43 = .ok (.getfield 16, 3) := by decide +kernel
theorem dX11_about_46 : decode cX11_about 46 = .ok (.ireturn, 1) := by decide +kernel
theorem dX11_about_47 : decode cX11_about 47 = .ok (.aload_n 0, 1) := by decide +kernel
theorem dX11_about_48 : decode cX11_about 48 = .ok (.getfield 20, 3) := by decide +kernel
theorem dX11_about_51 : decode cX11_about 51 = .ok (.ireturn, 1) := by decide +kernel
theorem dX11_about_52 : decode cX11_about 52 = .ok (.iload_n 1, 1) := by decide +kernel
theorem dX11_about_53 : decode cX11_about 53 = .ok (.iconst 4, 1) := by decide +kernel
theorem dX11_about_54 : decode cX11_about 54 = .ok (.if_icmp .lt 24, 3) := by decide +kernel
theorem dX11_about_57 : decode cX11_about 57 = .ok (.iload_n 1, 1) := by decide +kernel
theorem dX11_about_58 : decode cX11_about 58 = .ok (.iconst 4, 1) := by decide +kernel
theorem dX11_about_59 : decode cX11_about 59 = .ok (.aload_n 0, 1) := by decide +kernel
theorem dX11_about_60 : decode cX11_about 60 = .ok (.getfield 160, 3) := by decide +kernel
theorem dX11_about_63 : decode cX11_about 63 = .ok (.iadd, 1) := by decide +kernel
theorem dX11_about_64 : decode cX11_about 64 = .ok (.if_icmp .ge 14, 3) := by decide +kernel
theorem dX11_about_67 : decode cX11_about 67 = .ok (.aload_n 0, 1) := by decide +kernel
theorem dX11_about_68 : decode cX11_about 68 = .ok (.getfield 7, 3) := by decide +kernel
theorem dX11_about_71 : decode cX11_about 71 = .ok (.iload_n 1, 1) := by decide +kernel
theorem dX11_about_72 : decode cX11_about 72 = .ok (.iconst 4, 1) := by decide +kernel
theorem dX11_about_73 : decode cX11_about 73 = .ok (.isub, 1) := by decide +kernel
theorem dX11_about_74 : decode cX11_about 74 = .ok (.iaload, 1) := by decide +kernel
theorem dX11_about_75 : decode cX11_about 75 = .ok (.goto 4, 3) := by decide +kernel
theorem dX11_about_78 : decode cX11_about 78 = .ok (.iconst (-1), 1) := by decide +kernel
theorem dX11_about_79 : decode cX11_about 79 = .ok (.ireturn, 1) := by decide +kernel
theorem dX11_order_0 : decode cX11_order 0 = .ok (.aload_n 0, 1) := by decide +kernel
theorem dX11_order_1 : decode cX11_order 1 = .ok (.iload_n 1, 1) := by decide +kernel
theorem dX11_order_2 : decode cX11_order 2 = .ok (.invokevirtual 236, 3) := by decide +kernel
theorem dX11_order_5 : decode cX11_order 5 = .ok (.ifCond .eq 11, 3) := by decide +kernel
theorem dX11_order_8 : decode cX11_order 8 = .ok (.aload_n 0, 1) := by decide +kernel
theorem dX11_order_9 : decode cX11_order 9 = .ok (.iload_n 2, 1) := by decide +kernel
theorem dX11_order_10 : decode cX11_order 10 = .ok (.invokevirtual 233, 3) := by decide +kernel
theorem dX11_order_13 : decode cX11_order 13 = .ok (.ifCond .ne 5, 3) := by decide +kernel
theorem dX11_order_16 : decode cX11_order 16 = .ok (.iconst (-1), 1) := by decide +kernel
theorem dX11_order_17 : decode cX11_order 17 = .ok (.ireturn, 1) := by decide +kernel
theorem dX11_order_18 : decode cX11_order 18 = .ok (.iconst 0, 1) := by decide +kernel
theorem dX11_order_19 : decode cX11_order 19 = .ok (.istore_n 3, 1) := by decide +kernel
theorem dX11_order_20 : decode cX11_order 20 = .ok (.iconst (-1), 1) := by decide +kernel
theorem dX11_order_21 : decode cX11_order 21 = .ok (.istore 4, 2) := by decide +kernel
theorem dX11_order_23 : decode cX11_order 23 = .ok (.iconst 0, 1) := by decide +kernel
theorem dX11_order_24 : decode cX11_order 24 = .ok (.istore 5, 2) := by decide +kernel
theorem dX11_order_26 : decode cX11_order 26 = .ok (.iload 5, 2) := by decide +kernel
theorem dX11_order_28 : decode cX11_order 28 = .ok (.iload_n 2, 1) := by decide +kernel
theorem dX11_order_29 : decode cX11_order 29 = .ok (.if_icmp .gt 48, 3) := by decide +kernel
theorem dX11_order_32 : decode cX11_order 32 = .ok (.iconst 0, 1) := by decide +kernel
theorem dX11_order_33 : decode cX11_order 33 = .ok (.istore 4, 2) := by decide +kernel
theorem dX11_order_35 : decode cX11_order 35 = .ok (.iload_n 3, 1) := by decide +kernel
theorem dX11_order_36 : decode cX11_order 36 = .ok (.iload 4, 2) := by decide +kernel
theorem dX11_order_38 : decode cX11_order 38 = .ok (.ishr, 1) := by decide +kernel
theorem dX11_order_39 : decode cX11_order 39 = .ok (.iconst 1, 1) := by decide +kernel
theorem dX11_order_40 : decode cX11_order 40 = .ok (.iand, 1) := by decide +kernel
theorem dX11_order_41 : decode cX11_order 41 = .ok (.iconst 1, 1) := by decide +kernel
theorem dX11_order_42 : decode cX11_order 42 = .ok (.if_icmp .eq 16, 3) := by decide +kernel
theorem dX11_order_45 : decode cX11_order 45 = .ok (.iload_n 1, 1) := by decide +kernel
theorem dX11_order_46 : decode cX11_order 46 = .ok (.iload 4, 2) := by decide +kernel
theorem dX11_order_48 : decode cX11_order 48 = .ok (.invokestatic 194, 3) := by decide +kernel
theorem dX11_order_51 : decode cX11_order 51 = .ok (.iload_n 3, 1) := by decide +kernel
theorem dX11_order_52 : decode cX11_order 52 = .ok (.iconst (-1), 1) := by decide +kernel
theorem dX11_order_53 : decode cX11_order 53 = .ok (.ixor, 1) := by decide +kernel
theorem dX11_order_54 : decode cX11_order 54 = .ok (.iand, 1) := by decide +kernel
theorem dX11_order_55 : decode cX11_order 55 = .ok (.ifCond .eq 9, 3) := by decide +kernel
theorem dX11_order_58 : decode cX11_order 58 = .ok (.iinc 4 1, 3) := by decide +kernel
theorem dX11_order_61 : decode cX11_order 61 = .ok (.goto (-26), 3) := by decide +kernel
theorem dX11_order_64 : decode cX11_order 64 = .ok (.iload_n 3, 1) := by decide +kernel
theorem dX11_order_65 : decode cX11_order 65 = .ok (.iconst 1, 1) := by decide +kernel
theorem dX11_order_66 : decode cX11_order 66 = .ok (.iload 4, 2) := by decide +kernel
theorem dX11_order_68 : decode cX11_order 68 = .ok (.ishl, 1) := by decide +kernel
theorem dX11_order_69 : decode cX11_order 69 = .ok (.ior, 1) := by decide +kernel
theorem dX11_order_70 : decode cX11_order 70 = .ok (.istore_n 3, 1) := by decide +kernel
theorem dX11_order_71 : decode cX11_order 71 = .ok (.iinc 5 1, 3) := by decide +kernel
theorem dX11_order_74 : decode cX11_order 74 = .ok (.goto (-48), 3) := by decide +kernel
theorem dX11_order_77 : decode cX11_order 77 = .ok (.iload 4, 2) := by decide +kernel
theorem dX11_order_79 : decode cX11_order 79 = .ok (.ireturn, 1) := by decide +kernel
theorem dX11_tell_0 : decode cX11_tell 0 = .ok (.aload_n 0, 1) := by decide +kernel
theorem dX11_tell_1 : decode cX11_tell 1 = .ok (.getfield 78, 3) := by decide +kernel
theorem dX11_tell_4 : decode cX11_tell 4 = .ok (.iload_n 1, 1) := by decide +kernel
theorem dX11_tell_5 : decode cX11_tell 5 = .ok (.if_icmp .eq 30, 3) := by decide +kernel
theorem dX11_tell_8 : decode cX11_tell 8 = .ok (.aload_n 0, 1) := by decide +kernel
theorem dX11_tell_9 : decode cX11_tell 9 = .ok (.iload_n 1, 1) := by decide +kernel
theorem dX11_tell_10 : decode cX11_tell 10 = .ok (.aload_n 0, 1) := by decide +kernel
theorem dX11_tell_11 : decode cX11_tell 11 = .ok (.getfield 32, 3) := by decide +kernel
theorem dX11_tell_14 : decode cX11_tell 14 = .ok (.aload_n 0, 1) := by decide +kernel
theorem dX11_tell_15 : decode cX11_tell 15 = .ok (.getfield 35, 3) := by decide +kernel
theorem dX11_tell_18 : decode cX11_tell 18 = .ok (.invokevirtual 203, 3) := by decide +kernel
theorem dX11_tell_21 : decode cX11_tell 21 = .ok (.aload_n 0, 1) := by decide +kernel
theorem dX11_tell_22 : decode cX11_tell 22 = .ok (.invokevirtual 239, 3) := by decide +kernel
theorem dX11_tell_25 : decode cX11_tell 25 = .ok (.aload_n 0, 1) := by decide +kernel
theorem dX11_tell_26 : decode cX11_tell 26 = .ok (.iload_n 1, 1) := by decide +kernel
theorem dX11_tell_27 : decode cX11_tell 27 = .ok (.putfield 78, 3) := by decide +kernel
theorem dX11_tell_30 : decode cX11_tell 30 = .ok (.aload_n 0, 1) := by decide +kernel
theorem dX11_tell_31 : decode cX11_tell 31 = .ok (.iconst (-1), 1) := by decide +kernel
theorem dX11_tell_32 : decode cX11_tell 32 = .ok (.putfield 81, 3) := by decide +kernel
theorem dX11_tell_35 : decode cX11_tell 35 = .ok (.return_, 1) := by decide +kernel
theorem dX11_wordOf_0 : decode cX11_wordOf 0 = .ok (.iload_n 1, 1) := by decide +kernel
theorem dX11_wordOf_1 : decode cX11_wordOf 1 = .ok (.ifCond .ne 10, 3) := by decide +kernel
theorem dX11_wordOf_4 : decode cX11_wordOf 4 = .ok (.aload_n 0, 1) := by decide +kernel
theorem dX11_wordOf_5 : decode cX11_wordOf 5 = .ok (.getfield 32, 3) := by decide +kernel
theorem dX11_wordOf_8 : decode cX11_wordOf 8 = .ok (.goto 7, 3) := by decide +kernel
theorem dX11_wordOf_11 : decode cX11_wordOf 11 = .ok (.aload_n 0, 1) := by decide +kernel
theorem dX11_wordOf_12 : decode cX11_wordOf 12 = .ok (.getfield 35, 3) := by decide +kernel
theorem dX11_wordOf_15 : decode cX11_wordOf 15 = .ok (.astore_n 3, 1) := by decide +kernel
theorem dX11_wordOf_16 : decode cX11_wordOf 16 = .ok (.iload_n 2, 1) := by decide +kernel
theorem dX11_wordOf_17 : decode cX11_wordOf 17 = .ok (.ifCond .lt 10, 3) := by decide +kernel
theorem dX11_wordOf_20 : decode cX11_wordOf 20 = .ok (.iload_n 2, 1) := by decide +kernel
theorem dX11_wordOf_21 : decode cX11_wordOf 21 = .ok (.aload_n 3, 1) := by decide +kernel
theorem dX11_wordOf_22 : decode cX11_wordOf 22 = .ok (.iconst 0, 1) := by decide +kernel
theorem dX11_wordOf_23 : decode cX11_wordOf 23 = .ok (.iaload, 1) := by decide +kernel
theorem dX11_wordOf_24 : decode cX11_wordOf 24 = .ok (.if_icmp .lt 9, 3) := by decide +kernel
theorem dX11_wordOf_27 : decode cX11_wordOf 27 = .ok (.ldc2_w 242, 3) := by decide +kernel
theorem dX11_wordOf_30 : decode cX11_wordOf 30 = .ok (.goto 13, 3) := by decide +kernel
theorem dX11_wordOf_33 : decode cX11_wordOf 33 = .ok (.aload_n 3, 1) := by decide +kernel
theorem dX11_wordOf_34 : decode cX11_wordOf 34 = .ok (.iconst 1, 1) := by decide +kernel
theorem dX11_wordOf_35 : decode cX11_wordOf 35 = .ok (.iload_n 2, 1) := by decide +kernel
theorem dX11_wordOf_36 : decode cX11_wordOf 36 = .ok (.iadd, 1) := by decide +kernel
theorem dX11_wordOf_37 : decode cX11_wordOf 37 = .ok (.iaload, 1) := by decide +kernel
theorem dX11_wordOf_38 : decode cX11_wordOf 38 = .ok (.i2l, 1) := by decide +kernel
theorem dX11_wordOf_39 : decode cX11_wordOf 39 = .ok (.ldc2_w 123, 3) := by decide +kernel
theorem dX11_wordOf_42 : decode cX11_wordOf 42 = .ok (.land, 1) := by decide +kernel
theorem dX11_wordOf_43 : decode cX11_wordOf 43 = .ok (.lreturn, 1) := by decide +kernel
theorem dX11_isPart_0 : decode cX11_isPart 0 = .ok (.iload_n 0, 1) := by decide +kernel
theorem dX11_isPart_1 : decode cX11_isPart 1 = .ok (.ifCond .eq 8, 3) := by decide +kernel
theorem dX11_isPart_4 : decode cX11_isPart 4 = .ok (.iload_n 0, 1) := by decide +kernel
theorem dX11_isPart_5 : decode cX11_isPart 5 = .ok (.iconst 1, 1) := by decide +kernel
theorem dX11_isPart_6 : decode cX11_isPart 6 = .ok (.if_icmp .ne 7, 3) := by decide +kernel
theorem dX11_isPart_9 : decode cX11_isPart 9 = .ok (.iconst 1, 1) := by decide +kernel
theorem dX11_isPart_10 : decode cX11_isPart 10 = .ok (.goto 4, 3) := by decide +kernel
theorem dX11_isPart_13 : decode cX11_isPart 13 = .ok (.iconst 0, 1) := by decide +kernel
theorem dX11_isPart_14 : decode cX11_isPart 14 = .ok (.ireturn, 1) := by decide +kernel
theorem dX11_size_0 : decode cX11_size 0 = .ok (.aload_n 0, 1) := by decide +kernel
theorem dX11_size_1 : decode cX11_size 1 = .ok (.iload_n 1, 1) := by decide +kernel
theorem dX11_size_2 : decode cX11_size 2 = .ok (.invokevirtual 236, 3) := by decide +kernel
theorem dX11_size_5 : decode cX11_size 5 = .ok (.ifCond .eq 10, 3) := by decide +kernel
theorem dX11_size_8 : decode cX11_size 8 = .ok (.iload_n 2, 1) := by decide +kernel
theorem dX11_size_9 : decode cX11_size 9 = .ok (.invokestatic 244, 3) := by decide +kernel
theorem dX11_size_12 : decode cX11_size 12 = .ok (.ifCond .ne 5, 3) := by decide +kernel
theorem dX11_size_15 : decode cX11_size 15 = .ok (.iconst (-1), 1) := by decide +kernel
theorem dX11_size_16 : decode cX11_size 16 = .ok (.ireturn, 1) := by decide +kernel
theorem dX11_size_17 : decode cX11_size 17 = .ok (.aload_n 0, 1) := by decide +kernel
theorem dX11_size_18 : decode cX11_size 18 = .ok (.iload_n 1, 1) := by decide +kernel
theorem dX11_size_19 : decode cX11_size 19 = .ok (.invokevirtual 247, 3) := by decide +kernel
theorem dX11_size_22 : decode cX11_size 22 = .ok (.iload_n 2, 1) := by decide +kernel
theorem dX11_size_23 : decode cX11_size 23 = .ok (.ifCond .ne 12, 3) := by decide +kernel
theorem dX11_size_26 : decode cX11_size 26 = .ok (.aload_n 0, 1) := by decide +kernel
theorem dX11_size_27 : decode cX11_size 27 = .ok (.getfield 32, 3) := by decide +kernel
theorem dX11_size_30 : decode cX11_size 30 = .ok (.iconst 0, 1) := by decide +kernel
theorem dX11_size_31 : decode cX11_size 31 = .ok (.iaload, 1) := by decide +kernel
theorem dX11_size_32 : decode cX11_size 32 = .ok (.goto 9, 3) := by decide +kernel
theorem dX11_size_35 : decode cX11_size 35 = .ok (.aload_n 0, 1) := by decide +kernel
theorem dX11_size_36 : decode cX11_size 36 = .ok (.getfield 35, 3) := by decide +kernel
theorem dX11_size_39 : decode cX11_size 39 = .ok (.iconst 0, 1) := by decide +kernel
theorem dX11_size_40 : decode cX11_size 40 = .ok (.iaload, 1) := by decide +kernel
theorem dX11_size_41 : decode cX11_size 41 = .ok (.ireturn, 1) := by decide +kernel
theorem dX11_word_0 : decode cX11_word 0 = .ok (.aload_n 0, 1) := by decide +kernel
theorem dX11_word_1 : decode cX11_word 1 = .ok (.iload_n 1, 1) := by decide +kernel
theorem dX11_word_2 : decode cX11_word 2 = .ok (.invokevirtual 236, 3) := by decide +kernel
theorem dX11_word_5 : decode cX11_word 5 = .ok (.ifCond .eq 10, 3) := by decide +kernel
theorem dX11_word_8 : decode cX11_word 8 = .ok (.iload_n 2, 1) := by decide +kernel
theorem dX11_word_9 : decode cX11_word 9 = .ok (.invokestatic 244, 3) := by decide +kernel
theorem dX11_word_12 : decode cX11_word 12 = .ok (.ifCond .ne 7, 3) := by decide +kernel
theorem dX11_word_15 : decode cX11_word 15 = .ok (.ldc2_w 242, 3) := by decide +kernel
theorem dX11_word_18 : decode cX11_word 18 = .ok (.lreturn, 1) := by decide +kernel
theorem dX11_word_19 : decode cX11_word 19 = .ok (.aload_n 0, 1) := by decide +kernel
theorem dX11_word_20 : decode cX11_word 20 = .ok (.iload_n 1, 1) := by decide +kernel
theorem dX11_word_21 : decode cX11_word 21 = .ok (.invokevirtual 247, 3) := by decide +kernel
theorem dX11_word_24 : decode cX11_word 24 = .ok (.aload_n 0, 1) := by decide +kernel
theorem dX11_word_25 : decode cX11_word 25 = .ok (.iload_n 2, 1) := by decide +kernel
theorem dX11_word_26 : decode cX11_word 26 = .ok (.iload_n 3, 1) := by decide +kernel
theorem dX11_word_27 : decode cX11_word 27 = .ok (.invokevirtual 251, 3) := by decide +kernel
theorem dX11_word_30 : decode cX11_word 30 = .ok (.lreturn, 1) := by decide +kernel
theorem dX11_compare_0 : decode cX11_compare 0 = .ok (.aload_n 0, 1) := by decide +kernel
theorem dX11_compare_1 : decode cX11_compare 1 = .ok (.iload_n 1, 1) := by decide +kernel
theorem dX11_compare_2 : decode cX11_compare 2 = .ok (.invokevirtual 236, 3) := by decide +kernel
theorem dX11_compare_5 : decode cX11_compare 5 = .ok (.ifCond .eq 11, 3) := by decide +kernel
theorem dX11_compare_8 : decode cX11_compare 8 = .ok (.aload_n 0, 1) := by decide +kernel
theorem dX11_compare_9 : decode cX11_compare 9 = .ok (.iload_n 2, 1) := by decide +kernel
theorem dX11_compare_10 : decode cX11_compare 10 = .ok (.invokevirtual 236, 3) := by decide +kernel
theorem dX11_compare_13 : decode cX11_compare 13 = .ok (.ifCond .ne 5, 3) := by decide +kernel
theorem dX11_compare_16 : decode cX11_compare 16 = .ok (.iconst (-1), 1) := by decide +kernel
theorem dX11_compare_17 : decode cX11_compare 17 = .ok (.ireturn, 1) := by decide +kernel
theorem dX11_compare_18 : decode cX11_compare 18 = .ok (.aload_n 0, 1) := by decide +kernel
theorem dX11_compare_19 : decode cX11_compare 19 = .ok (.iload_n 1, 1) := by decide +kernel
theorem dX11_compare_20 : decode cX11_compare 20 = .ok (.iload_n 2, 1) := by decide +kernel
theorem dX11_compare_21 : decode cX11_compare 21 = .ok (.invokevirtual 255, 3) := by decide +kernel
theorem dX11_compare_24 : decode cX11_compare 24 = .ok (.istore_n 3, 1) := by decide +kernel
theorem dX11_compare_25 : decode cX11_compare 25 = .ok (.iload_n 3, 1) := by decide +kernel
theorem dX11_compare_26 : decode cX11_compare 26 = .ok (.ifCond .ge 7, 3) := by decide +kernel
theorem dX11_compare_29 : decode cX11_compare 29 = .ok (.iconst 0, 1) := by decide +kernel
theorem dX11_compare_30 : decode cX11_compare 30 = .ok (.goto 12, 3) := by decide +kernel
theorem dX11_compare_33 : decode cX11_compare 33 = .ok (.iload_n 3, 1) := by decide +kernel
theorem dX11_compare_34 : decode cX11_compare 34 = .ok (.ifCond .ne 7, 3) := by decide +kernel
theorem dX11_compare_37 : decode cX11_compare 37 = .ok (.iconst 1, 1) := by decide +kernel
theorem dX11_compare_38 : decode cX11_compare 38 = .ok (.goto 4, 3) := by decide +kernel
theorem dX11_compare_41 : decode cX11_compare 41 = .ok (.iconst 2, 1) := by decide +kernel
theorem dX11_compare_42 : decode cX11_compare 42 = .ok (.ireturn, 1) := by decide +kernel
theorem dX11_bestParents_0 : decode cX11_bestParents 0 = .ok (.iconst 0, 1) := by decide +kernel
theorem dX11_bestParents_1 : decode cX11_bestParents 1 = .ok (.istore_n 3, 1) := by decide +kernel
theorem dX11_bestParents_2 : decode cX11_bestParents 2 = .ok (.aload_n 0, 1) := by decide +kernel
theorem dX11_bestParents_3 : decode cX11_bestParents 3 = .ok (.getfield 42, 3) := by decide +kernel
theorem dX11_bestParents_6 : decode cX11_bestParents 6 = .ok (.aload_n 0, 1) := by decide +kernel
theorem dX11_bestParents_7 : decode cX11_bestParents 7 = .ok (.iload_n 1, 1) := by decide +kernel
theorem dX11_bestParents_8 : decode cX11_bestParents 8 = .ok (.iconst 0, 1) := by decide +kernel
theorem dX11_bestParents_9 : decode cX11_bestParents 9 = .ok (.invokevirtual 197, 3) := by decide +kernel
theorem dX11_bestParents_12 : decode cX11_bestParents 12 = .ok (.aload_n 0, 1) := by decide +kernel
theorem dX11_bestParents_13 : decode cX11_bestParents 13 = .ok (.getfield 66, 3) := by decide +kernel
theorem dX11_bestParents_16 : decode cX11_bestParents 16 = .ok (.invokestatic 171, 3) := by decide +kernel
theorem dX11_bestParents_19 : decode cX11_bestParents 19 = .ok (.aload_n 0, 1) := by decide +kernel
theorem dX11_bestParents_20 : decode cX11_bestParents 20 = .ok (.getfield 45, 3) := by decide +kernel
theorem dX11_bestParents_23 : decode cX11_bestParents 23 = .ok (.aload_n 0, 1) := by decide +kernel
theorem dX11_bestParents_24 : decode cX11_bestParents 24 = .ok (.iload_n 1, 1) := by decide +kernel
theorem dX11_bestParents_25 : decode cX11_bestParents 25 = .ok (.iconst 0, 1) := by decide +kernel
theorem dX11_bestParents_26 : decode cX11_bestParents 26 = .ok (.invokevirtual 197, 3) := by decide +kernel
theorem dX11_bestParents_29 : decode cX11_bestParents 29 = .ok (.aload_n 0, 1) := by decide +kernel
theorem dX11_bestParents_30 : decode cX11_bestParents 30 = .ok (.getfield 69, 3) := by decide +kernel
theorem dX11_bestParents_33 : decode cX11_bestParents 33 = .ok (.invokestatic 171, 3) := by decide +kernel
theorem dX11_bestParents_36 : decode cX11_bestParents 36 = .ok (.iconst 1, 1) := by decide +kernel
theorem dX11_bestParents_37 : decode cX11_bestParents 37 = .ok (.istore 4, 2) := by decide +kernel
theorem dX11_bestParents_39 : decode cX11_bestParents 39 = .ok (.iload 4, 2) := by decide +kernel
theorem dX11_bestParents_41 : decode cX11_bestParents 41 = .ok (.iload_n 2, 1) := by decide +kernel
theorem dX11_bestParents_42 : decode cX11_bestParents 42 = .ok (.if_icmp .gt 98, 3) := by decide +kernel
theorem dX11_bestParents_45 : decode cX11_bestParents 45 = .ok (.iload 4, 2) := by decide +kernel
theorem dX11_bestParents_47 : decode cX11_bestParents 47 = .ok (.iload_n 2, 1) := by decide +kernel
theorem dX11_bestParents_48 : decode cX11_bestParents 48 = .ok (.iconst (-1), 1) := by decide +kernel
theorem dX11_bestParents_49 : decode cX11_bestParents 49 = .ok (.ixor, 1) := by decide +kernel
theorem dX11_bestParents_50 : decode cX11_bestParents 50 = .ok (.iand, 1) := by decide +kernel
theorem dX11_bestParents_51 : decode cX11_bestParents 51 = .ok (.ifCond .ne 83, 3) := by decide +kernel
theorem dX11_bestParents_54 : decode cX11_bestParents 54 = .ok (.iload 4, 2) := by decide +kernel
theorem dX11_bestParents_56 : decode cX11_bestParents 56 = .ok (.invokestatic 216, 3) := by decide +kernel
theorem dX11_bestParents_59 : decode cX11_bestParents 59 = .ok (.aload_n 0, 1) := by decide +kernel
theorem dX11_bestParents_60 : decode cX11_bestParents 60 = .ok (.getfield 20, 3) := by decide +kernel
theorem dX11_bestParents_63 : decode cX11_bestParents 63 = .ok (.if_icmp .gt 71, 3) := by decide +kernel
theorem dX11_bestParents_66 : decode cX11_bestParents 66 = .ok (.aload_n 0, 1) := by decide +kernel
theorem dX11_bestParents_67 : decode cX11_bestParents 67 = .ok (.getfield 42, 3) := by decide +kernel
theorem dX11_bestParents_70 : decode cX11_bestParents 70 = .ok (.aload_n 0, 1) := by decide +kernel
theorem dX11_bestParents_71 : decode cX11_bestParents 71 = .ok (.iload_n 1, 1) := by decide +kernel
theorem dX11_bestParents_72 : decode cX11_bestParents 72 = .ok (.iload 4, 2) := by decide +kernel
theorem dX11_bestParents_74 : decode cX11_bestParents 74 = .ok (.invokevirtual 197, 3) := by decide +kernel
theorem dX11_bestParents_77 : decode cX11_bestParents 77 = .ok (.aload_n 0, 1) := by decide +kernel
theorem dX11_bestParents_78 : decode cX11_bestParents 78 = .ok (.getfield 60, 3) := by decide +kernel
theorem dX11_bestParents_81 : decode cX11_bestParents 81 = .ok (.invokestatic 171, 3) := by decide +kernel
theorem dX11_bestParents_84 : decode cX11_bestParents 84 = .ok (.aload_n 0, 1) := by decide +kernel
theorem dX11_bestParents_85 : decode cX11_bestParents 85 = .ok (.getfield 45, 3) := by decide +kernel
theorem dX11_bestParents_88 : decode cX11_bestParents 88 = .ok (.aload_n 0, 1) := by decide +kernel
theorem dX11_bestParents_89 : decode cX11_bestParents 89 = .ok (.iload_n 1, 1) := by decide +kernel
theorem dX11_bestParents_90 : decode cX11_bestParents 90 = .ok (.iload 4, 2) := by decide +kernel
theorem dX11_bestParents_92 : decode cX11_bestParents 92 = .ok (.invokevirtual 197, 3) := by decide +kernel
theorem dX11_bestParents_95 : decode cX11_bestParents 95 = .ok (.aload_n 0, 1) := by decide +kernel
theorem dX11_bestParents_96 : decode cX11_bestParents 96 = .ok (.getfield 63, 3) := by decide +kernel
theorem dX11_bestParents_99 : decode cX11_bestParents 99 = .ok (.invokestatic 171, 3) := by decide +kernel
theorem dX11_bestParents_102 : decode cX11_bestParents 102 = .ok (.aload_n 0, 1) := by decide +kernel
theorem dX11_bestParents_103 : decode cX11_bestParents 103 = .ok (.invokevirtual 207, 3) := by decide +kernel
theorem dX11_bestParents_106 : decode cX11_bestParents 106 = .ok (.ifCond .le 28, 3) := by decide +kernel
theorem dX11_bestParents_109 : decode cX11_bestParents 109 = .ok (.iload 4, 2) := by decide +kernel
theorem dX11_bestParents_111 : decode cX11_bestParents 111 = .ok (.istore_n 3, 1) := by decide +kernel
theorem dX11_bestParents_112 : decode cX11_bestParents 112 = .ok (.aload_n 0, 1) := by decide +kernel
theorem dX11_bestParents_113 : decode cX11_bestParents 113 = .ok (.getfield 60, 3) := by decide +kernel
theorem dX11_bestParents_116 : decode cX11_bestParents 116 = .ok (.aload_n 0, 1) := by decide +kernel
theorem dX11_bestParents_117 : decode cX11_bestParents 117 = .ok (.getfield 66, 3) := by decide +kernel
theorem dX11_bestParents_120 : decode cX11_bestParents 120 = .ok (.invokestatic 129, 3) := by decide +kernel
theorem dX11_bestParents_123 : decode cX11_bestParents 123 = .ok (.aload_n 0, 1) := by decide +kernel
theorem dX11_bestParents_124 : decode cX11_bestParents 124 = .ok (.getfield 63, 3) := by decide +kernel
theorem dX11_bestParents_127 : decode cX11_bestParents 127 = .ok (.aload_n 0, 1) := by decide +kernel
theorem dX11_bestParents_128 : decode cX11_bestParents 128 = .ok (.getfield 69, 3) := by decide +kernel
theorem dX11_bestParents_131 : decode cX11_bestParents 131 = .ok (.invokestatic 129, 3) := by decide +kernel
theorem dX11_bestParents_134 : decode cX11_bestParents 134 = .ok (.iinc 4 1, 3) := by decide +kernel
theorem dX11_bestParents_137 : decode cX11_bestParents 137 = .ok (.goto (-98), 3) := by decide +kernel
theorem dX11_bestParents_140 : decode cX11_bestParents 140 = .ok (.iload_n 3, 1) := by decide +kernel
theorem dX11_bestParents_141 : decode cX11_bestParents 141 = .ok (.ireturn, 1) := by decide +kernel
theorem dX11_parents_0 : decode cX11_parents 0 = .ok (.aload_n 0, 1) := by decide +kernel
theorem dX11_parents_1 : decode cX11_parents 1 = .ok (.iload_n 1, 1) := by decide +kernel
theorem dX11_parents_2 : decode cX11_parents 2 = .ok (.invokevirtual 233, 3) := by decide +kernel
theorem dX11_parents_5 : decode cX11_parents 5 = .ok (.ifCond .eq 20, 3) := by decide +kernel
theorem dX11_parents_8 : decode cX11_parents 8 = .ok (.aload_n 0, 1) := by decide +kernel
theorem dX11_parents_9 : decode cX11_parents 9 = .ok (.iload_n 2, 1) := by decide +kernel
theorem dX11_parents_10 : decode cX11_parents 10 = .ok (.invokevirtual 212, 3) := by decide +kernel
theorem dX11_parents_13 : decode cX11_parents 13 = .ok (.ifCond .eq 12, 3) := by decide +kernel
theorem dX11_parents_16 : decode cX11_parents 16 = .ok (.iload_n 2, 1) := by decide +kernel
theorem dX11_parents_17 : decode cX11_parents 17 = .ok (.iload_n 1, 1) := by decide +kernel
theorem dX11_parents_18 : decode cX11_parents 18 = .ok (.ishr, 1) := by decide +kernel
theorem dX11_parents_19 : decode cX11_parents 19 = .ok (.iconst 1, 1) := by decide +kernel
theorem dX11_parents_20 : decode cX11_parents 20 = .ok (.iand, 1) := by decide +kernel
theorem dX11_parents_21 : decode cX11_parents 21 = .ok (.iconst 1, 1) := by decide +kernel
theorem dX11_parents_22 : decode cX11_parents 22 = .ok (.if_icmp .ne 7, 3) := by decide +kernel
theorem dX11_parents_25 : decode cX11_parents 25 = .ok (.iconst (-1), 1) := by decide +kernel
theorem dX11_parents_26 : decode cX11_parents 26 = .ok (.goto 9, 3) := by decide +kernel
theorem dX11_parents_29 : decode cX11_parents 29 = .ok (.aload_n 0, 1) := by decide +kernel
theorem dX11_parents_30 : decode cX11_parents 30 = .ok (.iload_n 1, 1) := by decide +kernel
theorem dX11_parents_31 : decode cX11_parents 31 = .ok (.iload_n 2, 1) := by decide +kernel
theorem dX11_parents_32 : decode cX11_parents 32 = .ok (.invokevirtual 258, 3) := by decide +kernel
theorem dX11_parents_35 : decode cX11_parents 35 = .ok (.ireturn, 1) := by decide +kernel
theorem dX11_arcs_0 : decode cX11_arcs 0 = .ok (.iconst 0, 1) := by decide +kernel
theorem dX11_arcs_1 : decode cX11_arcs 1 = .ok (.istore_n 2, 1) := by decide +kernel
theorem dX11_arcs_2 : decode cX11_arcs 2 = .ok (.iconst 0, 1) := by decide +kernel
theorem dX11_arcs_3 : decode cX11_arcs 3 = .ok (.istore_n 3, 1) := by decide +kernel
theorem dX11_arcs_4 : decode cX11_arcs 4 = .ok (.iload_n 3, 1) := by decide +kernel
theorem dX11_arcs_5 : decode cX11_arcs 5 = .ok (.iconst 5, 1) := by decide +kernel
theorem dX11_arcs_6 : decode cX11_arcs 6 = .ok (.if_icmp .ge 23, 3) := by decide +kernel
theorem dX11_arcs_9 : decode cX11_arcs 9 = .ok (.iload_n 2, 1) := by decide +kernel
theorem dX11_arcs_10 : decode cX11_arcs 10 = .ok (.iload_n 1, 1) := by decide +kernel
theorem dX11_arcs_11 : decode cX11_arcs 11 = .ok (.iload_n 3, 1) := by decide +kernel
theorem dX11_arcs_12 : decode cX11_arcs 12 = .ok (.ishr, 1) := by decide +kernel
theorem dX11_arcs_13 : decode cX11_arcs 13 = .ok (.iconst 1, 1) := by decide +kernel
theorem dX11_arcs_14 : decode cX11_arcs 14 = .ok (.iand, 1) := by decide +kernel
theorem dX11_arcs_15 : decode cX11_arcs 15 = .ok (.iconst 5, 1) := by decide +kernel
theorem dX11_arcs_16 : decode cX11_arcs 16 = .ok (.iload_n 3, 1) := by decide +kernel
theorem dX11_arcs_17 : decode cX11_arcs 17 = .ok (.imul, 1) := by decide +kernel
theorem dX11_arcs_18 : decode cX11_arcs 18 = .ok (.iload_n 0, 1) := by decide +kernel
theorem dX11_arcs_19 : decode cX11_arcs 19 = .ok (.iadd, 1) := by decide +kernel
theorem dX11_arcs_20 : decode cX11_arcs 20 = .ok (.ishl, 1) := by decide +kernel
theorem dX11_arcs_21 : decode cX11_arcs 21 = .ok (.ior, 1) := by decide +kernel
theorem dX11_arcs_22 : decode cX11_arcs 22 = .ok (.istore_n 2, 1) := by decide +kernel
theorem dX11_arcs_23 : decode cX11_arcs 23 = .ok (.iinc 3 1, 3) := by decide +kernel
theorem dX11_arcs_26 : decode cX11_arcs 26 = .ok (.goto (-22), 3) := by decide +kernel
theorem dX11_arcs_29 : decode cX11_arcs 29 = .ok (.iload_n 2, 1) := by decide +kernel
theorem dX11_arcs_30 : decode cX11_arcs 30 = .ok (.ireturn, 1) := by decide +kernel
theorem dX11_best_0 : decode cX11_best 0 = .ok (.aload_n 0, 1) := by decide +kernel
theorem dX11_best_1 : decode cX11_best 1 = .ok (.getfield 84, 3) := by decide +kernel
theorem dX11_best_4 : decode cX11_best 4 = .ok (.iconst 0, 1) := by decide +kernel
theorem dX11_best_5 : decode cX11_best 5 = .ok (.iconst 0, 1) := by decide +kernel
theorem dX11_best_6 : decode cX11_best 6 = .ok (.iastore, 1) := by decide +kernel
theorem dX11_best_7 : decode cX11_best 7 = .ok (.iconst 1, 1) := by decide +kernel
theorem dX11_best_8 : decode cX11_best 8 = .ok (.istore_n 1, 1) := by decide +kernel
theorem dX11_best_9 : decode cX11_best 9 = .ok (.iload_n 1, 1) := by decide +kernel
theorem dX11_best_10 : decode cX11_best 10 = .ok (.iconst 1, 1) := by decide +kernel
theorem dX11_best_11 : decode cX11_best 11 = .ok (.aload_n 0, 1) := by decide +kernel
theorem dX11_best_12 : decode cX11_best 12 = .ok (.getfield 160, 3) := by decide +kernel
theorem dX11_best_15 : decode cX11_best 15 = .ok (.ishl, 1) := by decide +kernel
theorem dX11_best_16 : decode cX11_best 16 = .ok (.if_icmp .ge 114, 3) := by decide +kernel
theorem dX11_best_19 : decode cX11_best 19 = .ok (.iconst (-1), 1) := by decide +kernel
theorem dX11_best_20 : decode cX11_best 20 = .ok (.istore_n 2, 1) := by decide +kernel
theorem dX11_best_21 : decode cX11_best 21 = .ok (.iconst 0, 1) := by decide +kernel
theorem dX11_best_22 : decode cX11_best 22 = .ok (.istore_n 3, 1) := by decide +kernel
theorem dX11_best_23 : decode cX11_best 23 = .ok (.iload_n 3, 1) := by decide +kernel
theorem dX11_best_24 : decode cX11_best 24 = .ok (.aload_n 0, 1) := by decide +kernel
theorem dX11_best_25 : decode cX11_best 25 = .ok (.getfield 160, 3) := by decide +kernel
theorem dX11_best_28 : decode cX11_best 28 = .ok (.if_icmp .ge 89, 3) := by decide +kernel
theorem dX11_best_31 : decode cX11_best 31 = .ok (.iload_n 1, 1) := by decide +kernel
theorem dX11_best_32 : decode cX11_best 32 = .ok (.iload_n 3, 1) := by decide +kernel
theorem dX11_best_33 : decode cX11_best 33 = .ok (.ishr, 1) := by decide +kernel
theorem dX11_best_34 : decode cX11_best 34 = .ok (.iconst 1, 1) := by decide +kernel
theorem dX11_best_35 : decode cX11_best 35 = .ok (.iand, 1) := by decide +kernel
theorem dX11_best_36 : decode cX11_best 36 = .ok (.iconst 1, 1) := by decide +kernel
theorem dX11_best_37 : decode cX11_best 37 = .ok (.if_icmp .ne 74, 3) := by decide +kernel
theorem dX11_best_40 : decode cX11_best 40 = .ok (.iload_n 1, 1) := by decide +kernel
theorem dX11_best_41 : decode cX11_best 41 = .ok (.iconst 1, 1) := by decide +kernel
theorem dX11_best_42 : decode cX11_best 42 = .ok (.iload_n 3, 1) := by decide +kernel
theorem dX11_best_43 : decode cX11_best 43 = .ok (.ishl, 1) := by decide +kernel
theorem dX11_best_44 : decode cX11_best 44 = .ok (.iconst (-1), 1) := by decide +kernel
theorem dX11_best_45 : decode cX11_best 45 = .ok (.ixor, 1) := by decide +kernel
theorem dX11_best_46 : decode cX11_best 46 = .ok (.iand, 1) := by decide +kernel
theorem dX11_best_47 : decode cX11_best 47 = .ok (.istore 4, 2) := by decide +kernel
theorem dX11_best_49 : decode cX11_best 49 = .ok (.aload_n 0, 1) := by decide +kernel
theorem dX11_best_50 : decode cX11_best 50 = .ok (.getfield 84, 3) := by decide +kernel
theorem dX11_best_53 : decode cX11_best 53 = .ok (.iload 4, 2) := by decide +kernel
theorem dX11_best_55 : decode cX11_best 55 = .ok (.iaload, 1) := by decide +kernel
theorem dX11_best_56 : decode cX11_best 56 = .ok (.iload_n 3, 1) := by decide +kernel
theorem dX11_best_57 : decode cX11_best 57 = .ok (.aload_n 0, 1) := by decide +kernel
theorem dX11_best_58 : decode cX11_best 58 = .ok (.iload_n 3, 1) := by decide +kernel
theorem dX11_best_59 : decode cX11_best 59 = .ok (.iload 4, 2) := by decide +kernel
theorem dX11_best_61 : decode cX11_best 61 = .ok (.invokevirtual 258, 3) := by decide +kernel
theorem dX11_best_64 : decode cX11_best 64 = .ok (.invokestatic 261, 3) := by decide +kernel
theorem dX11_best_67 : decode cX11_best 67 = .ok (.ior, 1) := by decide +kernel
theorem dX11_best_68 : decode cX11_best 68 = .ok (.istore 5, 2) := by decide +kernel
theorem dX11_best_70 : decode cX11_best 70 = .ok (.iload_n 2, 1) := by decide +kernel
theorem dX11_best_71 : decode cX11_best 71 = .ok (.ifCond .ge 7, 3) := by decide +kernel
theorem dX11_best_74 : decode cX11_best 74 = .ok (.iconst 1, 1) := by decide +kernel
theorem dX11_best_75 : decode cX11_best 75 = .ok (.goto 11, 3) := by decide +kernel
theorem dX11_best_78 : decode cX11_best 78 = .ok (.aload_n 0, 1) := by decide +kernel
theorem dX11_best_79 : decode cX11_best 79 = .ok (.iload_n 1, 1) := by decide +kernel
theorem dX11_best_80 : decode cX11_best 80 = .ok (.iload 5, 2) := by decide +kernel
theorem dX11_best_82 : decode cX11_best 82 = .ok (.iload_n 2, 1) := by decide +kernel
theorem dX11_best_83 : decode cX11_best 83 = .ok (.invokevirtual 264, 3) := by decide +kernel
theorem dX11_best_86 : decode cX11_best 86 = .ok (.istore 6, 2) := by decide +kernel
theorem dX11_best_88 : decode cX11_best 88 = .ok (.iload 6, 2) := by decide +kernel
theorem dX11_best_90 : decode cX11_best 90 = .ok (.ifCond .gt 14, 3) := by decide +kernel
theorem dX11_best_93 : decode cX11_best 93 = .ok (.iload 6, 2) := by decide +kernel
theorem dX11_best_95 : decode cX11_best 95 = .ok (.ifCond .ne 14, 3) := by decide +kernel
theorem dX11_best_98 : decode cX11_best 98 = .ok (.iload 5, 2) := by decide +kernel
theorem dX11_best_100 : decode cX11_best 100 = .ok (.iload_n 2, 1) := by decide +kernel
theorem dX11_best_101 : decode cX11_best 101 = .ok (.if_icmp .ge 8, 3) := by decide +kernel
theorem dX11_best_104 : decode cX11_best 104 = .ok (.iload 5, 2) := by decide +kernel
theorem dX11_best_106 : decode cX11_best 106 = .ok (.goto 4, 3) := by decide +kernel
theorem dX11_best_109 : decode cX11_best 109 = .ok (.iload_n 2, 1) := by decide +kernel
theorem dX11_best_110 : decode cX11_best 110 = .ok (.istore_n 2, 1) := by decide +kernel
theorem dX11_best_111 : decode cX11_best 111 = .ok (.iinc 3 1, 3) := by decide +kernel
theorem dX11_best_114 : decode cX11_best 114 = .ok (.goto (-91), 3) := by decide +kernel
theorem dX11_best_117 : decode cX11_best 117 = .ok (.aload_n 0, 1) := by decide +kernel
theorem dX11_best_118 : decode cX11_best 118 = .ok (.getfield 84, 3) := by decide +kernel
theorem dX11_best_121 : decode cX11_best 121 = .ok (.iload_n 1, 1) := by decide +kernel
theorem dX11_best_122 : decode cX11_best 122 = .ok (.iload_n 2, 1) := by decide +kernel
theorem dX11_best_123 : decode cX11_best 123 = .ok (.iastore, 1) := by decide +kernel
theorem dX11_best_124 : decode cX11_best 124 = .ok (.iinc 1 1, 3) := by decide +kernel
theorem dX11_best_127 : decode cX11_best 127 = .ok (.goto (-118), 3) := by decide +kernel
theorem dX11_best_130 : decode cX11_best 130 = .ok (.aload_n 0, 1) := by decide +kernel
theorem dX11_best_131 : decode cX11_best 131 = .ok (.getfield 84, 3) := by decide +kernel
theorem dX11_best_134 : decode cX11_best 134 = .ok (.iconst 1, 1) := by decide +kernel
theorem dX11_best_135 : decode cX11_best 135 = .ok (.aload_n 0, 1) := by decide +kernel
theorem dX11_best_136 : decode cX11_best 136 = .ok (.getfield 160, 3) := by decide +kernel
theorem dX11_best_139 : decode cX11_best 139 = .ok (.ishl, 1) := by decide +kernel
theorem dX11_best_140 : decode cX11_best 140 = .ok (.iconst 1, 1) := by decide +kernel
theorem dX11_best_141 : decode cX11_best 141 = .ok (.isub, 1) := by decide +kernel
theorem dX11_best_142 : decode cX11_best 142 = .ok (.iaload, 1) := by decide +kernel
theorem dX11_best_143 : decode cX11_best 143 = .ok (.ireturn, 1) := by decide +kernel
theorem dX11_fitIn_0 : decode cX11_fitIn 0 = .ok (.aload_n 3, 1) := by decide +kernel
theorem dX11_fitIn_1 : decode cX11_fitIn 1 = .ok (.iconst 1, 1) := by decide +kernel
theorem dX11_fitIn_2 : decode cX11_fitIn 2 = .ok (.invokestatic 151, 3) := by decide +kernel
theorem dX11_fitIn_5 : decode cX11_fitIn 5 = .ok (.aload 4, 2) := by decide +kernel
theorem dX11_fitIn_7 : decode cX11_fitIn 7 = .ok (.iconst 1, 1) := by decide +kernel
theorem dX11_fitIn_8 : decode cX11_fitIn 8 = .ok (.invokestatic 151, 3) := by decide +kernel
theorem dX11_fitIn_11 : decode cX11_fitIn 11 = .ok (.iconst 0, 1) := by decide +kernel
theorem dX11_fitIn_12 : decode cX11_fitIn 12 = .ok (.istore 5, 2) := by decide +kernel
theorem dX11_fitIn_14 : decode cX11_fitIn 14 = .ok (.iload 5, 2) := by decide +kernel
theorem dX11_fitIn_16 : decode cX11_fitIn 16 = .ok (.aload_n 0, 1) := by decide +kernel
theorem dX11_fitIn_17 : decode cX11_fitIn 17 = .ok (.getfield 160, 3) := by decide +kernel
theorem dX11_fitIn_20 : decode cX11_fitIn 20 = .ok (.if_icmp .ge 56, 3) := by decide +kernel
theorem dX11_fitIn_23 : decode cX11_fitIn 23 = .ok (.iload_n 1, 1) := by decide +kernel
theorem dX11_fitIn_24 : decode cX11_fitIn 24 = .ok (.iload 5, 2) := by decide +kernel
theorem dX11_fitIn_26 : decode cX11_fitIn 26 = .ok (.ishr, 1) := by decide +kernel
theorem dX11_fitIn_27 : decode cX11_fitIn 27 = .ok (.iconst 1, 1) := by decide +kernel
theorem dX11_fitIn_28 : decode cX11_fitIn 28 = .ok (.iand, 1) := by decide +kernel
theorem dX11_fitIn_29 : decode cX11_fitIn 29 = .ok (.iconst 1, 1) := by decide +kernel
theorem dX11_fitIn_30 : decode cX11_fitIn 30 = .ok (.if_icmp .ne 40, 3) := by decide +kernel
theorem dX11_fitIn_33 : decode cX11_fitIn 33 = .ok (.aload_n 0, 1) := by decide +kernel
theorem dX11_fitIn_34 : decode cX11_fitIn 34 = .ok (.iload 5, 2) := by decide +kernel
theorem dX11_fitIn_36 : decode cX11_fitIn 36 = .ok (.iload_n 2, 1) := by decide +kernel
theorem dX11_fitIn_37 : decode cX11_fitIn 37 = .ok (.iload 5, 2) := by decide +kernel
theorem dX11_fitIn_39 : decode cX11_fitIn 39 = .ok (.invokestatic 194, 3) := by decide +kernel
theorem dX11_fitIn_42 : decode cX11_fitIn 42 = .ok (.invokevirtual 197, 3) := by decide +kernel
theorem dX11_fitIn_45 : decode cX11_fitIn 45 = .ok (.istore 6, 2) := by decide +kernel
theorem dX11_fitIn_47 : decode cX11_fitIn 47 = .ok (.aload_n 0, 1) := by decide +kernel
theorem dX11_fitIn_48 : decode cX11_fitIn 48 = .ok (.aload_n 3, 1) := by decide +kernel
theorem dX11_fitIn_49 : decode cX11_fitIn 49 = .ok (.aload_n 0, 1) := by decide +kernel
theorem dX11_fitIn_50 : decode cX11_fitIn 50 = .ok (.getfield 42, 3) := by decide +kernel
theorem dX11_fitIn_53 : decode cX11_fitIn 53 = .ok (.iload 6, 2) := by decide +kernel
theorem dX11_fitIn_55 : decode cX11_fitIn 55 = .ok (.invokevirtual 200, 3) := by decide +kernel
theorem dX11_fitIn_58 : decode cX11_fitIn 58 = .ok (.aload_n 0, 1) := by decide +kernel
theorem dX11_fitIn_59 : decode cX11_fitIn 59 = .ok (.aload 4, 2) := by decide +kernel
theorem dX11_fitIn_61 : decode cX11_fitIn 61 = .ok (.aload_n 0, 1) := by decide +kernel
theorem dX11_fitIn_62 : decode cX11_fitIn 62 = .ok (.getfield 45, 3) := by decide +kernel
theorem dX11_fitIn_65 : decode cX11_fitIn 65 = .ok (.iload 6, 2) := by decide +kernel
theorem dX11_fitIn_67 : decode cX11_fitIn 67 = .ok (.invokevirtual 200, 3) := by decide +kernel
theorem dX11_fitIn_70 : decode cX11_fitIn 70 = .ok (.iinc 5 1, 3) := by decide +kernel
theorem dX11_fitIn_73 : decode cX11_fitIn 73 = .ok (.goto (-59), 3) := by decide +kernel
theorem dX11_fitIn_76 : decode cX11_fitIn 76 = .ok (.return_, 1) := by decide +kernel
theorem dX11_signIn_0 : decode cX11_signIn 0 = .ok (.aload_n 0, 1) := by decide +kernel
theorem dX11_signIn_1 : decode cX11_signIn 1 = .ok (.iload_n 1, 1) := by decide +kernel
theorem dX11_signIn_2 : decode cX11_signIn 2 = .ok (.iload_n 2, 1) := by decide +kernel
theorem dX11_signIn_3 : decode cX11_signIn 3 = .ok (.aload_n 0, 1) := by decide +kernel
theorem dX11_signIn_4 : decode cX11_signIn 4 = .ok (.getfield 60, 3) := by decide +kernel
theorem dX11_signIn_7 : decode cX11_signIn 7 = .ok (.aload_n 0, 1) := by decide +kernel
theorem dX11_signIn_8 : decode cX11_signIn 8 = .ok (.getfield 63, 3) := by decide +kernel
theorem dX11_signIn_11 : decode cX11_signIn 11 = .ok (.invokevirtual 268, 3) := by decide +kernel
theorem dX11_signIn_14 : decode cX11_signIn 14 = .ok (.aload_n 0, 1) := by decide +kernel
theorem dX11_signIn_15 : decode cX11_signIn 15 = .ok (.iload_n 1, 1) := by decide +kernel
theorem dX11_signIn_16 : decode cX11_signIn 16 = .ok (.iload_n 3, 1) := by decide +kernel
theorem dX11_signIn_17 : decode cX11_signIn 17 = .ok (.aload_n 0, 1) := by decide +kernel
theorem dX11_signIn_18 : decode cX11_signIn 18 = .ok (.getfield 66, 3) := by decide +kernel
theorem dX11_signIn_21 : decode cX11_signIn 21 = .ok (.aload_n 0, 1) := by decide +kernel
theorem dX11_signIn_22 : decode cX11_signIn 22 = .ok (.getfield 69, 3) := by decide +kernel
theorem dX11_signIn_25 : decode cX11_signIn 25 = .ok (.invokevirtual 268, 3) := by decide +kernel
theorem dX11_signIn_28 : decode cX11_signIn 28 = .ok (.aload_n 0, 1) := by decide +kernel
theorem dX11_signIn_29 : decode cX11_signIn 29 = .ok (.invokevirtual 207, 3) := by decide +kernel
theorem dX11_signIn_32 : decode cX11_signIn 32 = .ok (.ireturn, 1) := by decide +kernel
theorem dX11_better_0 : decode cX11_better 0 = .ok (.aload_n 0, 1) := by decide +kernel
theorem dX11_better_1 : decode cX11_better 1 = .ok (.iload_n 2, 1) := by decide +kernel
theorem dX11_better_2 : decode cX11_better 2 = .ok (.invokevirtual 236, 3) := by decide +kernel
theorem dX11_better_5 : decode cX11_better 5 = .ok (.ifCond .eq 11, 3) := by decide +kernel
theorem dX11_better_8 : decode cX11_better 8 = .ok (.aload_n 0, 1) := by decide +kernel
theorem dX11_better_9 : decode cX11_better 9 = .ok (.iload_n 2, 1) := by decide +kernel
theorem dX11_better_10 : decode cX11_better 10 = .ok (.invokevirtual 272, 3) := by decide +kernel
theorem dX11_better_13 : decode cX11_better 13 = .ok (.ifCond .ne 5, 3) := by decide +kernel
theorem dX11_better_16 : decode cX11_better 16 = .ok (.iload_n 1, 1) := by decide +kernel
theorem dX11_better_17 : decode cX11_better 17 = .ok (.ireturn, 1) := by decide +kernel
theorem dX11_better_18 : decode cX11_better 18 = .ok (.iload_n 1, 1) := by decide +kernel
theorem dX11_better_19 : decode cX11_better 19 = .ok (.ifCond .ge 5, 3) := by decide +kernel
theorem dX11_better_22 : decode cX11_better 22 = .ok (.iload_n 2, 1) := by decide +kernel
theorem dX11_better_23 : decode cX11_better 23 = .ok (.ireturn, 1) := by decide +kernel
theorem dX11_better_24 : decode cX11_better 24 = .ok (.aload_n 0, 1) := by decide +kernel
theorem dX11_better_25 : decode cX11_better 25 = .ok (.iload_n 2, 1) := by decide +kernel
theorem dX11_better_26 : decode cX11_better 26 = .ok (.iload_n 1, 1) := by decide +kernel
theorem dX11_better_27 : decode cX11_better 27 = .ok (.invokevirtual 255, 3) := by decide +kernel
theorem dX11_better_30 : decode cX11_better 30 = .ok (.istore_n 3, 1) := by decide +kernel
theorem dX11_better_31 : decode cX11_better 31 = .ok (.iload_n 3, 1) := by decide +kernel
theorem dX11_better_32 : decode cX11_better 32 = .ok (.ifCond .gt 12, 3) := by decide +kernel
theorem dX11_better_35 : decode cX11_better 35 = .ok (.iload_n 3, 1) := by decide +kernel
theorem dX11_better_36 : decode cX11_better 36 = .ok (.ifCond .ne 12, 3) := by decide +kernel
theorem dX11_better_39 : decode cX11_better 39 = .ok (.iload_n 2, 1) := by decide +kernel
theorem dX11_better_40 : decode cX11_better 40 = .ok (.iload_n 1, 1) := by decide +kernel
theorem dX11_better_41 : decode cX11_better 41 = .ok (.if_icmp .ge 7, 3) := by decide +kernel
theorem dX11_better_44 : decode cX11_better 44 = .ok (.iload_n 2, 1) := by decide +kernel
theorem dX11_better_45 : decode cX11_better 45 = .ok (.goto 4, 3) := by decide +kernel
theorem dX11_better_48 : decode cX11_better 48 = .ok (.iload_n 1, 1) := by decide +kernel
theorem dX11_better_49 : decode cX11_better 49 = .ok (.ireturn, 1) := by decide +kernel
theorem dX11_climb_0 : decode cX11_climb 0 = .ok (.aload_n 0, 1) := by decide +kernel
theorem dX11_climb_1 : decode cX11_climb 1 = .ok (.iload_n 1, 1) := by decide +kernel
theorem dX11_climb_2 : decode cX11_climb 2 = .ok (.invokevirtual 236, 3) := by decide +kernel
theorem dX11_climb_5 : decode cX11_climb 5 = .ok (.ifCond .eq 21, 3) := by decide +kernel
theorem dX11_climb_8 : decode cX11_climb 8 = .ok (.aload_n 0, 1) := by decide +kernel
theorem dX11_climb_9 : decode cX11_climb 9 = .ok (.iload_n 1, 1) := by decide +kernel
theorem dX11_climb_10 : decode cX11_climb 10 = .ok (.invokevirtual 272, 3) := by decide +kernel
theorem dX11_climb_13 : decode cX11_climb 13 = .ok (.ifCond .eq 13, 3) := by decide +kernel
theorem dX11_climb_16 : decode cX11_climb 16 = .ok (.iload_n 2, 1) := by decide +kernel
theorem dX11_climb_17 : decode cX11_climb 17 = .ok (.ifCond .lt 9, 3) := by decide +kernel
theorem dX11_climb_20 : decode cX11_climb 20 = .ok (.iload_n 2, 1) := by decide +kernel
theorem dX11_climb_21 : decode cX11_climb 21 = .ok (.bipush 30, 2) := by decide +kernel
theorem dX11_climb_23 : decode cX11_climb 23 = .ok (.if_icmp .le 5, 3) := by decide +kernel
theorem dX11_climb_26 : decode cX11_climb 26 = .ok (.iconst (-1), 1) := by decide +kernel
theorem dX11_climb_27 : decode cX11_climb 27 = .ok (.ireturn, 1) := by decide +kernel
theorem dX11_climb_28 : decode cX11_climb 28 = .ok (.iload_n 1, 1) := by decide +kernel
theorem dX11_climb_29 : decode cX11_climb 29 = .ok (.istore_n 3, 1) := by decide +kernel
theorem dX11_climb_30 : decode cX11_climb 30 = .ok (.iconst 1, 1) := by decide +kernel
theorem dX11_climb_31 : decode cX11_climb 31 = .ok (.istore 4, 2) := by decide +kernel
theorem dX11_climb_33 : decode cX11_climb 33 = .ok (.iconst 0, 1) := by decide +kernel
theorem dX11_climb_34 : decode cX11_climb 34 = .ok (.istore 5, 2) := by decide +kernel
theorem dX11_climb_36 : decode cX11_climb 36 = .ok (.iload 5, 2) := by decide +kernel
theorem dX11_climb_38 : decode cX11_climb 38 = .ok (.iload_n 2, 1) := by decide +kernel
theorem dX11_climb_39 : decode cX11_climb 39 = .ok (.if_icmp .ge 155, 3) := by decide +kernel
theorem dX11_climb_42 : decode cX11_climb 42 = .ok (.iload 4, 2) := by decide +kernel
theorem dX11_climb_44 : decode cX11_climb 44 = .ok (.ifCond .eq 150, 3) := by decide +kernel
theorem dX11_climb_47 : decode cX11_climb 47 = .ok (.iconst (-1), 1) := by decide +kernel
theorem dX11_climb_48 : decode cX11_climb 48 = .ok (.istore 6, 2) := by decide +kernel
theorem dX11_climb_50 : decode cX11_climb 50 = .ok (.iconst 0, 1) := by decide +kernel
theorem dX11_climb_51 : decode cX11_climb 51 = .ok (.istore 7, 2) := by decide +kernel
theorem dX11_climb_53 : decode cX11_climb 53 = .ok (.iload 7, 2) := by decide +kernel
theorem dX11_climb_55 : decode cX11_climb 55 = .ok (.aload_n 0, 1) := by decide +kernel
theorem dX11_climb_56 : decode cX11_climb 56 = .ok (.getfield 160, 3) := by decide +kernel
theorem dX11_climb_59 : decode cX11_climb 59 = .ok (.if_icmp .ge 95, 3) := by decide +kernel
theorem dX11_climb_62 : decode cX11_climb 62 = .ok (.iconst 0, 1) := by decide +kernel
theorem dX11_climb_63 : decode cX11_climb 63 = .ok (.istore 8, 2) := by decide +kernel
theorem dX11_climb_65 : decode cX11_climb 65 = .ok (.iload 8, 2) := by decide +kernel
theorem dX11_climb_67 : decode cX11_climb 67 = .ok (.aload_n 0, 1) := by decide +kernel
theorem dX11_climb_68 : decode cX11_climb 68 = .ok (.getfield 160, 3) := by decide +kernel
theorem dX11_climb_71 : decode cX11_climb 71 = .ok (.if_icmp .ge 77, 3) := by decide +kernel
theorem dX11_climb_74 : decode cX11_climb 74 = .ok (.iconst 1, 1) := by decide +kernel
theorem dX11_climb_75 : decode cX11_climb 75 = .ok (.iconst 5, 1) := by decide +kernel
theorem dX11_climb_76 : decode cX11_climb 76 = .ok (.iload 7, 2) := by decide +kernel
theorem dX11_climb_78 : decode cX11_climb 78 = .ok (.imul, 1) := by decide +kernel
theorem dX11_climb_79 : decode cX11_climb 79 = .ok (.iload 8, 2) := by decide +kernel
theorem dX11_climb_81 : decode cX11_climb 81 = .ok (.iadd, 1) := by decide +kernel
theorem dX11_climb_82 : decode cX11_climb 82 = .ok (.ishl, 1) := by decide +kernel
theorem dX11_climb_83 : decode cX11_climb 83 = .ok (.istore 9, 2) := by decide +kernel
theorem dX11_climb_85 : decode cX11_climb 85 = .ok (.iconst 1, 1) := by decide +kernel
theorem dX11_climb_86 : decode cX11_climb 86 = .ok (.iconst 5, 1) := by decide +kernel
theorem dX11_climb_87 : decode cX11_climb 87 = .ok (.iload 8, 2) := by decide +kernel
theorem dX11_climb_89 : decode cX11_climb 89 = .ok (.imul, 1) := by decide +kernel
theorem dX11_climb_90 : decode cX11_climb 90 = .ok (.iload 7, 2) := by decide +kernel
theorem dX11_climb_92 : decode cX11_climb 92 = .ok (.iadd, 1) := by decide +kernel
theorem dX11_climb_93 : decode cX11_climb 93 = .ok (.ishl, 1) := by decide +kernel
theorem dX11_climb_94 : decode cX11_climb 94 = .ok (.istore 10, 2) := by decide +kernel
theorem dX11_climb_96 : decode cX11_climb 96 = .ok (.iload 7, 2) := by decide +kernel
theorem dX11_climb_98 : decode cX11_climb 98 = .ok (.iload 8, 2) := by decide +kernel
theorem dX11_climb_100 : decode cX11_climb 100 = .ok (.if_icmp .eq 42, 3) := by decide +kernel
theorem dX11_climb_103 : decode cX11_climb 103 = .ok (.aload_n 0, 1) := by decide +kernel
theorem dX11_climb_104 : decode cX11_climb 104 = .ok (.iload 6, 2) := by decide +kernel
theorem dX11_climb_106 : decode cX11_climb 106 = .ok (.iload_n 3, 1) := by decide +kernel
theorem dX11_climb_107 : decode cX11_climb 107 = .ok (.iload 9, 2) := by decide +kernel
theorem dX11_climb_109 : decode cX11_climb 109 = .ok (.ixor, 1) := by decide +kernel
theorem dX11_climb_110 : decode cX11_climb 110 = .ok (.invokevirtual 275, 3) := by decide +kernel
theorem dX11_climb_113 : decode cX11_climb 113 = .ok (.istore 6, 2) := by decide +kernel
theorem dX11_climb_115 : decode cX11_climb 115 = .ok (.iload_n 3, 1) := by decide +kernel
theorem dX11_climb_116 : decode cX11_climb 116 = .ok (.iload 9, 2) := by decide +kernel
theorem dX11_climb_118 : decode cX11_climb 118 = .ok (.iand, 1) := by decide +kernel
theorem dX11_climb_119 : decode cX11_climb 119 = .ok (.ifCond .eq 19, 3) := by decide +kernel
theorem dX11_climb_122 : decode cX11_climb 122 = .ok (.aload_n 0, 1) := by decide +kernel
theorem dX11_climb_123 : decode cX11_climb 123 = .ok (.iload 6, 2) := by decide +kernel
theorem dX11_climb_125 : decode cX11_climb 125 = .ok (.iload_n 3, 1) := by decide +kernel
theorem dX11_climb_126 : decode cX11_climb 126 = .ok (.iload 9, 2) := by decide +kernel
theorem dX11_climb_128 : decode cX11_climb 128 = .ok (.ixor, 1) := by decide +kernel
theorem dX11_climb_129 : decode cX11_climb 129 = .ok (.iload 10, 2) := by decide +kernel
theorem dX11_climb_131 : decode cX11_climb 131 = .ok (.ixor, 1) := by decide +kernel
theorem dX11_climb_132 : decode cX11_climb 132 = .ok (.invokevirtual 275, 3) := by decide +kernel
theorem dX11_climb_135 : decode cX11_climb 135 = .ok (.goto 5, 3) := by decide +kernel
theorem dX11_climb_138 : decode cX11_climb 138 = .ok (.iload 6, 2) := by decide +kernel
theorem dX11_climb_140 : decode cX11_climb 140 = .ok (.istore 6, 2) := by decide +kernel
theorem dX11_climb_142 : decode cX11_climb 142 = .ok (.iinc 8 1, 3) := by decide +kernel
theorem dX11_climb_145 : decode cX11_climb 145 = .ok (.goto (-80), 3) := by decide +kernel
theorem dX11_climb_148 : decode cX11_climb 148 = .ok (.iinc 7 1, 3) := by decide +kernel
theorem dX11_climb_151 : decode cX11_climb 151 = .ok (.goto (-98), 3) := by decide +kernel
theorem dX11_climb_154 : decode cX11_climb 154 = .ok (.iload 6, 2) := by decide +kernel
theorem dX11_climb_156 : decode cX11_climb 156 = .ok (.ifCond .lt 17, 3) := by decide +kernel
theorem dX11_climb_159 : decode cX11_climb 159 = .ok (.aload_n 0, 1) := by decide +kernel
theorem dX11_climb_160 : decode cX11_climb 160 = .ok (.iload 6, 2) := by decide +kernel
theorem dX11_climb_162 : decode cX11_climb 162 = .ok (.iload_n 3, 1) := by decide +kernel
theorem dX11_climb_163 : decode cX11_climb 163 = .ok (.invokevirtual 255, 3) := by decide +kernel
theorem dX11_climb_166 : decode cX11_climb 166 = .ok (.ifCond .le 7, 3) := by decide +kernel
theorem dX11_climb_169 : decode cX11_climb 169 = .ok (.iconst 1, 1) := by decide +kernel
theorem dX11_climb_170 : decode cX11_climb 170 = .ok (.goto 4, 3) := by decide +kernel
theorem dX11_climb_173 : decode cX11_climb 173 = .ok (.iconst 0, 1) := by decide +kernel
theorem dX11_climb_174 : decode cX11_climb 174 = .ok (.istore 4, 2) := by decide +kernel
theorem dX11_climb_176 : decode cX11_climb 176 = .ok (.iload 4, 2) := by decide +kernel
theorem dX11_climb_178 : decode cX11_climb 178 = .ok (.ifCond .eq 8, 3) := by decide +kernel
theorem dX11_climb_181 : decode cX11_climb 181 = .ok (.iload 6, 2) := by decide +kernel
theorem dX11_climb_183 : decode cX11_climb 183 = .ok (.goto 4, 3) := by decide +kernel
theorem dX11_climb_186 : decode cX11_climb 186 = .ok (.iload_n 3, 1) := by decide +kernel
theorem dX11_climb_187 : decode cX11_climb 187 = .ok (.istore_n 3, 1) := by decide +kernel
theorem dX11_climb_188 : decode cX11_climb 188 = .ok (.iinc 5 1, 3) := by decide +kernel
theorem dX11_climb_191 : decode cX11_climb 191 = .ok (.goto (-155), 3) := by decide +kernel
theorem dX11_climb_194 : decode cX11_climb 194 = .ok (.iload_n 3, 1) := by decide +kernel
theorem dX11_climb_195 : decode cX11_climb 195 = .ok (.ireturn, 1) := by decide +kernel
theorem dX11_alike_0 : decode cX11_alike 0 = .ok (.aload_n 0, 1) := by decide +kernel
theorem dX11_alike_1 : decode cX11_alike 1 = .ok (.iload_n 1, 1) := by decide +kernel
theorem dX11_alike_2 : decode cX11_alike 2 = .ok (.invokevirtual 236, 3) := by decide +kernel
theorem dX11_alike_5 : decode cX11_alike 5 = .ok (.ifCond .eq 11, 3) := by decide +kernel
theorem dX11_alike_8 : decode cX11_alike 8 = .ok (.aload_n 0, 1) := by decide +kernel
theorem dX11_alike_9 : decode cX11_alike 9 = .ok (.iload_n 2, 1) := by decide +kernel
theorem dX11_alike_10 : decode cX11_alike 10 = .ok (.invokevirtual 236, 3) := by decide +kernel
theorem dX11_alike_13 : decode cX11_alike 13 = .ok (.ifCond .ne 7, 3) := by decide +kernel
theorem dX11_alike_16 : decode cX11_alike 16 = .ok (.iconst (-1), 1) := by decide +kernel
theorem dX11_alike_17 : decode cX11_alike 17 = .ok (.goto 16, 3) := by decide +kernel
theorem dX11_alike_20 : decode cX11_alike 20 = .ok (.iload_n 1, 1) := by decide +kernel
theorem dX11_alike_21 : decode cX11_alike 21 = .ok (.iload_n 2, 1) := by decide +kernel
theorem dX11_alike_22 : decode cX11_alike 22 = .ok (.invokestatic 278, 3) := by decide +kernel
theorem dX11_alike_25 : decode cX11_alike 25 = .ok (.ifCond .eq 7, 3) := by decide +kernel
theorem dX11_alike_28 : decode cX11_alike 28 = .ok (.iconst 1, 1) := by decide +kernel
theorem dX11_alike_29 : decode cX11_alike 29 = .ok (.goto 4, 3) := by decide +kernel
theorem dX11_alike_32 : decode cX11_alike 32 = .ok (.iconst 0, 1) := by decide +kernel
theorem dX11_alike_33 : decode cX11_alike 33 = .ok (.ireturn, 1) := by decide +kernel
theorem dX11_kin_0 : decode cX11_kin 0 = .ok (.aload_n 0, 1) := by decide +kernel
theorem dX11_kin_1 : decode cX11_kin 1 = .ok (.iload_n 1, 1) := by decide +kernel
theorem dX11_kin_2 : decode cX11_kin 2 = .ok (.invokevirtual 236, 3) := by decide +kernel
theorem dX11_kin_5 : decode cX11_kin 5 = .ok (.ifCond .eq 12, 3) := by decide +kernel
theorem dX11_kin_8 : decode cX11_kin 8 = .ok (.iload_n 2, 1) := by decide +kernel
theorem dX11_kin_9 : decode cX11_kin 9 = .ok (.ifCond .lt 8, 3) := by decide +kernel
theorem dX11_kin_12 : decode cX11_kin 12 = .ok (.iload_n 2, 1) := by decide +kernel
theorem dX11_kin_13 : decode cX11_kin 13 = .ok (.iconst 3, 1) := by decide +kernel
theorem dX11_kin_14 : decode cX11_kin 14 = .ok (.if_icmp .le 5, 3) := by decide +kernel
theorem dX11_kin_17 : decode cX11_kin 17 = .ok (.iconst (-1), 1) := by decide +kernel
theorem dX11_kin_18 : decode cX11_kin 18 = .ok (.ireturn, 1) := by decide +kernel
theorem dX11_kin_19 : decode cX11_kin 19 = .ok (.iconst 0, 1) := by decide +kernel
theorem dX11_kin_20 : decode cX11_kin 20 = .ok (.istore_n 3, 1) := by decide +kernel
theorem dX11_kin_21 : decode cX11_kin 21 = .ok (.iconst 0, 1) := by decide +kernel
theorem dX11_kin_22 : decode cX11_kin 22 = .ok (.istore 4, 2) := by decide +kernel
theorem dX11_kin_24 : decode cX11_kin 24 = .ok (.iload 4, 2) := by decide +kernel
theorem dX11_kin_26 : decode cX11_kin 26 = .ok (.iconst 5, 1) := by decide +kernel
theorem dX11_kin_27 : decode cX11_kin 27 = .ok (.if_icmp .ge 57, 3) := by decide +kernel
theorem dX11_kin_30 : decode cX11_kin 30 = .ok (.iload 4, 2) := by decide +kernel
theorem dX11_kin_32 : decode cX11_kin 32 = .ok (.iconst 1, 1) := by decide +kernel
theorem dX11_kin_33 : decode cX11_kin 33 = .ok (.iadd, 1) := by decide +kernel
theorem dX11_kin_34 : decode cX11_kin 34 = .ok (.istore 5, 2) := by decide +kernel
theorem dX11_kin_36 : decode cX11_kin 36 = .ok (.iload 5, 2) := by decide +kernel
theorem dX11_kin_38 : decode cX11_kin 38 = .ok (.iconst 5, 1) := by decide +kernel
theorem dX11_kin_39 : decode cX11_kin 39 = .ok (.if_icmp .ge 39, 3) := by decide +kernel
theorem dX11_kin_42 : decode cX11_kin 42 = .ok (.iload_n 1, 1) := by decide +kernel
theorem dX11_kin_43 : decode cX11_kin 43 = .ok (.iload 4, 2) := by decide +kernel
theorem dX11_kin_45 : decode cX11_kin 45 = .ok (.iload 5, 2) := by decide +kernel
theorem dX11_kin_47 : decode cX11_kin 47 = .ok (.invokestatic 223, 3) := by decide +kernel
theorem dX11_kin_50 : decode cX11_kin 50 = .ok (.ifCond .eq 22, 3) := by decide +kernel
theorem dX11_kin_53 : decode cX11_kin 53 = .ok (.aload_n 0, 1) := by decide +kernel
theorem dX11_kin_54 : decode cX11_kin 54 = .ok (.getfield 87, 3) := by decide +kernel
theorem dX11_kin_57 : decode cX11_kin 57 = .ok (.iload_n 3, 1) := by decide +kernel
theorem dX11_kin_58 : decode cX11_kin 58 = .ok (.iload 4, 2) := by decide +kernel
theorem dX11_kin_60 : decode cX11_kin 60 = .ok (.iastore, 1) := by decide +kernel
theorem dX11_kin_61 : decode cX11_kin 61 = .ok (.aload_n 0, 1) := by decide +kernel
theorem dX11_kin_62 : decode cX11_kin 62 = .ok (.getfield 90, 3) := by decide +kernel
theorem dX11_kin_65 : decode cX11_kin 65 = .ok (.iload_n 3, 1) := by decide +kernel
theorem dX11_kin_66 : decode cX11_kin 66 = .ok (.iload 5, 2) := by decide +kernel
theorem dX11_kin_68 : decode cX11_kin 68 = .ok (.iastore, 1) := by decide +kernel
theorem dX11_kin_69 : decode cX11_kin 69 = .ok (.iinc 3 1, 3) := by decide +kernel
theorem dX11_kin_72 : decode cX11_kin 72 = .ok (.iinc 5 1, 3) := by decide +kernel
theorem dX11_kin_75 : decode cX11_kin 75 = .ok (.goto (-39), 3) := by decide +kernel
theorem dX11_kin_78 : decode cX11_kin 78 = .ok (.iinc 4 1, 3) := by decide +kernel
theorem dX11_kin_81 : decode cX11_kin 81 = .ok (.goto (-57), 3) := by decide +kernel
theorem dX11_kin_84 : decode cX11_kin 84 = .ok (.iconst 0, 1) := by decide +kernel
theorem dX11_kin_85 : decode cX11_kin 85 = .ok (.istore 4, 2) := by decide +kernel
theorem dX11_kin_87 : decode cX11_kin 87 = .ok (.ldc 211, 2) := by decide +kernel
theorem dX11_kin_89 : decode cX11_kin 89 = .ok (.istore 5, 2) := by decide +kernel
theorem dX11_kin_91 : decode cX11_kin 91 = .ok (.iconst 0, 1) := by decide +kernel
theorem dX11_kin_92 : decode cX11_kin 92 = .ok (.istore 6, 2) := by decide +kernel
theorem dX11_kin_94 : decode cX11_kin 94 = .ok (.ldc_w 281, 3) := by decide +kernel
theorem dX11_kin_97 : decode cX11_kin 97 = .ok (.istore 7, 2) := by decide +kernel
theorem dX11_kin_99 : decode cX11_kin 99 = .ok (.iconst 0, 1) := by decide +kernel
theorem dX11_kin_100 : decode cX11_kin 100 = .ok (.istore 8, 2) := by decide +kernel
theorem dX11_kin_102 : decode cX11_kin 102 = .ok (.iload 8, 2) := by decide +kernel
theorem dX11_kin_104 : decode cX11_kin 104 = .ok (.iconst 1, 1) := by decide +kernel
theorem dX11_kin_105 : decode cX11_kin 105 = .ok (.iload_n 3, 1) := by decide +kernel
theorem dX11_kin_106 : decode cX11_kin 106 = .ok (.ishl, 1) := by decide +kernel
theorem dX11_kin_107 : decode cX11_kin 107 = .ok (.if_icmp .ge 141, 3) := by decide +kernel
theorem dX11_kin_110 : decode cX11_kin 110 = .ok (.iconst 0, 1) := by decide +kernel
theorem dX11_kin_111 : decode cX11_kin 111 = .ok (.istore 9, 2) := by decide +kernel
theorem dX11_kin_113 : decode cX11_kin 113 = .ok (.iconst 0, 1) := by decide +kernel
theorem dX11_kin_114 : decode cX11_kin 114 = .ok (.istore 10, 2) := by decide +kernel
theorem dX11_kin_116 : decode cX11_kin 116 = .ok (.iload 10, 2) := by decide +kernel
theorem dX11_kin_118 : decode cX11_kin 118 = .ok (.iload_n 3, 1) := by decide +kernel
theorem dX11_kin_119 : decode cX11_kin 119 = .ok (.if_icmp .ge 63, 3) := by decide +kernel
theorem dX11_kin_122 : decode cX11_kin 122 = .ok (.iload 9, 2) := by decide +kernel
theorem dX11_kin_124 : decode cX11_kin 124 = .ok (.iconst 1, 1) := by decide +kernel
theorem dX11_kin_125 : decode cX11_kin 125 = .ok (.iload 8, 2) := by decide +kernel
theorem dX11_kin_127 : decode cX11_kin 127 = .ok (.iload 10, 2) := by decide +kernel
theorem dX11_kin_129 : decode cX11_kin 129 = .ok (.ishr, 1) := by decide +kernel
theorem dX11_kin_130 : decode cX11_kin 130 = .ok (.iconst 1, 1) := by decide +kernel
theorem dX11_kin_131 : decode cX11_kin 131 = .ok (.iand, 1) := by decide +kernel
theorem dX11_kin_132 : decode cX11_kin 132 = .ok (.ifCond .ne 23, 3) := by decide +kernel
theorem dX11_kin_135 : decode cX11_kin 135 = .ok (.iconst 5, 1) := by decide +kernel
theorem dX11_kin_136 : decode cX11_kin 136 = .ok (.aload_n 0, 1) := by decide +kernel
theorem dX11_kin_137 : decode cX11_kin 137 = .ok (.getfield 87, 3) := by decide +kernel
theorem dX11_kin_140 : decode cX11_kin 140 = .ok (.iload 10, 2) := by decide +kernel
theorem dX11_kin_142 : decode cX11_kin 142 = .ok (.iaload, 1) := by decide +kernel
theorem dX11_kin_143 : decode cX11_kin 143 = .ok (.imul, 1) := by decide +kernel
theorem dX11_kin_144 : decode cX11_kin 144 = .ok (.aload_n 0, 1) := by decide +kernel
theorem dX11_kin_145 : decode cX11_kin 145 = .ok (.getfield 90, 3) := by decide +kernel
theorem dX11_kin_148 : decode cX11_kin 148 = .ok (.iload 10, 2) := by decide +kernel
theorem dX11_kin_150 : decode cX11_kin 150 = .ok (.iaload, 1) := by decide +kernel
theorem dX11_kin_151 : decode cX11_kin 151 = .ok (.iadd, 1) := by decide +kernel
theorem dX11_kin_152 : decode cX11_kin 152 = .ok (.goto 20, 3) := by decide +kernel
theorem dX11_kin_155 : decode cX11_kin 155 = .ok (.iconst 5, 1) := by decide +kernel
theorem dX11_kin_156 : decode cX11_kin 156 = .ok (.aload_n 0, 1) := by decide +kernel
theorem dX11_kin_157 : decode cX11_kin 157 = .ok (.getfield 90, 3) := by decide +kernel
theorem dX11_kin_160 : decode cX11_kin 160 = .ok (.iload 10, 2) := by decide +kernel
theorem dX11_kin_162 : decode cX11_kin 162 = .ok (.iaload, 1) := by decide +kernel
theorem dX11_kin_163 : decode cX11_kin 163 = .ok (.imul, 1) := by decide +kernel
theorem dX11_kin_164 : decode cX11_kin 164 = .ok (.aload_n 0, 1) := by decide +kernel
theorem dX11_kin_165 : decode cX11_kin 165 = .ok (.getfield 87, 3) := by decide +kernel
theorem dX11_kin_168 : decode cX11_kin 168 = .ok (.iload 10, 2) := by decide +kernel
theorem dX11_kin_170 : decode cX11_kin 170 = .ok (.iaload, 1) := by decide +kernel
theorem dX11_kin_171 : decode cX11_kin 171 = .ok (.iadd, 1) := by decide +kernel
theorem dX11_kin_172 : decode cX11_kin 172 = .ok (.ishl, 1) := by decide +kernel
theorem dX11_kin_173 : decode cX11_kin 173 = .ok (.ior, 1) := by decide +kernel
theorem dX11_kin_174 : decode cX11_kin 174 = .ok (.istore 9, 2) := by decide +kernel
theorem dX11_kin_176 : decode cX11_kin 176 = .ok (.iinc 10 1, 3) := by decide +kernel
theorem dX11_kin_179 : decode cX11_kin 179 = .ok (.goto (-63), 3) := by decide +kernel
theorem dX11_kin_182 : decode cX11_kin 182 = .ok (.aload_n 0, 1) := by decide +kernel
theorem dX11_kin_183 : decode cX11_kin 183 = .ok (.iload 9, 2) := by decide +kernel
theorem dX11_kin_185 : decode cX11_kin 185 = .ok (.invokevirtual 236, 3) := by decide +kernel
theorem dX11_kin_188 : decode cX11_kin 188 = .ok (.ifCond .eq 54, 3) := by decide +kernel
theorem dX11_kin_191 : decode cX11_kin 191 = .ok (.iload_n 1, 1) := by decide +kernel
theorem dX11_kin_192 : decode cX11_kin 192 = .ok (.iload 9, 2) := by decide +kernel
theorem dX11_kin_194 : decode cX11_kin 194 = .ok (.invokestatic 278, 3) := by decide +kernel
theorem dX11_kin_197 : decode cX11_kin 197 = .ok (.ifCond .eq 45, 3) := by decide +kernel
theorem dX11_kin_200 : decode cX11_kin 200 = .ok (.iinc 4 1, 3) := by decide +kernel
theorem dX11_kin_203 : decode cX11_kin 203 = .ok (.iload 9, 2) := by decide +kernel
theorem dX11_kin_205 : decode cX11_kin 205 = .ok (.iload 5, 2) := by decide +kernel
theorem dX11_kin_207 : decode cX11_kin 207 = .ok (.if_icmp .ge 8, 3) := by decide +kernel
theorem dX11_kin_210 : decode cX11_kin 210 = .ok (.iload 9, 2) := by decide +kernel
theorem dX11_kin_212 : decode cX11_kin 212 = .ok (.goto 5, 3) := by decide +kernel
theorem dX11_kin_215 : decode cX11_kin 215 = .ok (.iload 5, 2) := by decide +kernel
theorem dX11_kin_217 : decode cX11_kin 217 = .ok (.istore 5, 2) := by decide +kernel
theorem dX11_kin_219 : decode cX11_kin 219 = .ok (.iload 9, 2) := by decide +kernel
theorem dX11_kin_221 : decode cX11_kin 221 = .ok (.iload 6, 2) := by decide +kernel
theorem dX11_kin_223 : decode cX11_kin 223 = .ok (.if_icmp .le 8, 3) := by decide +kernel
theorem dX11_kin_226 : decode cX11_kin 226 = .ok (.iload 9, 2) := by decide +kernel
theorem dX11_kin_228 : decode cX11_kin 228 = .ok (.goto 5, 3) := by decide +kernel
theorem dX11_kin_231 : decode cX11_kin 231 = .ok (.iload 6, 2) := by decide +kernel
theorem dX11_kin_233 : decode cX11_kin 233 = .ok (.istore 6, 2) := by decide +kernel
theorem dX11_kin_235 : decode cX11_kin 235 = .ok (.iload 7, 2) := by decide +kernel
theorem dX11_kin_237 : decode cX11_kin 237 = .ok (.iload 9, 2) := by decide +kernel
theorem dX11_kin_239 : decode cX11_kin 239 = .ok (.iand, 1) := by decide +kernel
theorem dX11_kin_240 : decode cX11_kin 240 = .ok (.istore 7, 2) := by decide +kernel
theorem dX11_kin_242 : decode cX11_kin 242 = .ok (.iinc 8 1, 3) := by decide +kernel
theorem dX11_kin_245 : decode cX11_kin 245 = .ok (.goto (-143), 3) := by decide +kernel
theorem dX11_kin_248 : decode cX11_kin 248 = .ok (.iload_n 2, 1) := by decide +kernel
theorem dX11_kin_249 : decode cX11_kin 249 = .ok (.ifCond .ne 8, 3) := by decide +kernel
theorem dX11_kin_252 : decode cX11_kin 252 = .ok (.iload 4, 2) := by decide +kernel
theorem dX11_kin_254 : decode cX11_kin 254 = .ok (.goto 25, 3) := by decide +kernel
theorem dX11_kin_257 : decode cX11_kin 257 = .ok (.iload_n 2, 1) := by decide +kernel
theorem dX11_kin_258 : decode cX11_kin 258 = .ok (.iconst 1, 1) := by decide +kernel
theorem dX11_kin_259 : decode cX11_kin 259 = .ok (.if_icmp .ne 8, 3) := by decide +kernel
theorem dX11_kin_262 : decode cX11_kin 262 = .ok (.iload 5, 2) := by decide +kernel
theorem dX11_kin_264 : decode cX11_kin 264 = .ok (.goto 15, 3) := by decide +kernel
theorem dX11_kin_267 : decode cX11_kin 267 = .ok (.iload_n 2, 1) := by decide +kernel
theorem dX11_kin_268 : decode cX11_kin 268 = .ok (.iconst 2, 1) := by decide +kernel
theorem dX11_kin_269 : decode cX11_kin 269 = .ok (.if_icmp .ne 8, 3) := by decide +kernel
theorem dX11_kin_272 : decode cX11_kin 272 = .ok (.iload 6, 2) := by decide +kernel
theorem dX11_kin_274 : decode cX11_kin 274 = .ok (.goto 5, 3) := by decide +kernel
theorem dX11_kin_277 : decode cX11_kin 277 = .ok (.iload 7, 2) := by decide +kernel
theorem dX11_kin_279 : decode cX11_kin 279 = .ok (.ireturn, 1) := by decide +kernel
theorem dX11_whole_0 : decode cX11_whole 0 = .ok (.aload_n 0, 1) := by decide +kernel
theorem dX11_whole_1 : decode cX11_whole 1 = .ok (.getfield 42, 3) := by decide +kernel
theorem dX11_whole_4 : decode cX11_whole 4 = .ok (.aload_n 0, 1) := by decide +kernel
theorem dX11_whole_5 : decode cX11_whole 5 = .ok (.iload_n 1, 1) := by decide +kernel
theorem dX11_whole_6 : decode cX11_whole 6 = .ok (.iload_n 2, 1) := by decide +kernel
theorem dX11_whole_7 : decode cX11_whole 7 = .ok (.invokevirtual 197, 3) := by decide +kernel
theorem dX11_whole_10 : decode cX11_whole 10 = .ok (.aload_n 0, 1) := by decide +kernel
theorem dX11_whole_11 : decode cX11_whole 11 = .ok (.getfield 102, 3) := by decide +kernel
theorem dX11_whole_14 : decode cX11_whole 14 = .ok (.invokestatic 171, 3) := by decide +kernel
theorem dX11_whole_17 : decode cX11_whole 17 = .ok (.iconst 0, 1) := by decide +kernel
theorem dX11_whole_18 : decode cX11_whole 18 = .ok (.istore_n 3, 1) := by decide +kernel
theorem dX11_whole_19 : decode cX11_whole 19 = .ok (.iload_n 3, 1) := by decide +kernel
theorem dX11_whole_20 : decode cX11_whole 20 = .ok (.iconst 1, 1) := by decide +kernel
theorem dX11_whole_21 : decode cX11_whole 21 = .ok (.aload_n 0, 1) := by decide +kernel
theorem dX11_whole_22 : decode cX11_whole 22 = .ok (.getfield 160, 3) := by decide +kernel
theorem dX11_whole_25 : decode cX11_whole 25 = .ok (.ishl, 1) := by decide +kernel
theorem dX11_whole_26 : decode cX11_whole 26 = .ok (.if_icmp .ge 40, 3) := by decide +kernel
theorem dX11_whole_29 : decode cX11_whole 29 = .ok (.iload_n 3, 1) := by decide +kernel
theorem dX11_whole_30 : decode cX11_whole 30 = .ok (.iload_n 2, 1) := by decide +kernel
theorem dX11_whole_31 : decode cX11_whole 31 = .ok (.if_icmp .eq 29, 3) := by decide +kernel
theorem dX11_whole_34 : decode cX11_whole 34 = .ok (.iload_n 3, 1) := by decide +kernel
theorem dX11_whole_35 : decode cX11_whole 35 = .ok (.iload_n 1, 1) := by decide +kernel
theorem dX11_whole_36 : decode cX11_whole 36 = .ok (.ishr, 1) := by decide +kernel
theorem dX11_whole_37 : decode cX11_whole 37 = .ok (.iconst 1, 1) := by decide +kernel
theorem dX11_whole_38 : decode cX11_whole 38 = .ok (.iand, 1) := by decide +kernel
theorem dX11_whole_39 : decode cX11_whole 39 = .ok (.ifCond .ne 21, 3) := by decide +kernel
theorem dX11_whole_42 : decode cX11_whole 42 = .ok (.aload_n 0, 1) := by decide +kernel
theorem dX11_whole_43 : decode cX11_whole 43 = .ok (.aload_n 0, 1) := by decide +kernel
theorem dX11_whole_44 : decode cX11_whole 44 = .ok (.getfield 102, 3) := by decide +kernel
theorem dX11_whole_47 : decode cX11_whole 47 = .ok (.aload_n 0, 1) := by decide +kernel
theorem dX11_whole_48 : decode cX11_whole 48 = .ok (.getfield 45, 3) := by decide +kernel
theorem dX11_whole_51 : decode cX11_whole 51 = .ok (.aload_n 0, 1) := by decide +kernel
theorem dX11_whole_52 : decode cX11_whole 52 = .ok (.iload_n 1, 1) := by decide +kernel
theorem dX11_whole_53 : decode cX11_whole 53 = .ok (.iload_n 3, 1) := by decide +kernel
theorem dX11_whole_54 : decode cX11_whole 54 = .ok (.invokevirtual 197, 3) := by decide +kernel
theorem dX11_whole_57 : decode cX11_whole 57 = .ok (.invokevirtual 200, 3) := by decide +kernel
theorem dX11_whole_60 : decode cX11_whole 60 = .ok (.iinc 3 1, 3) := by decide +kernel
theorem dX11_whole_63 : decode cX11_whole 63 = .ok (.goto (-44), 3) := by decide +kernel
theorem dX11_whole_66 : decode cX11_whole 66 = .ok (.aload_n 0, 1) := by decide +kernel
theorem dX11_whole_67 : decode cX11_whole 67 = .ok (.getfield 102, 3) := by decide +kernel
theorem dX11_whole_70 : decode cX11_whole 70 = .ok (.aload_n 0, 1) := by decide +kernel
theorem dX11_whole_71 : decode cX11_whole 71 = .ok (.getfield 96, 3) := by decide +kernel
theorem dX11_whole_74 : decode cX11_whole 74 = .ok (.bipush 16, 2) := by decide +kernel
theorem dX11_whole_76 : decode cX11_whole 76 = .ok (.iload_n 1, 1) := by decide +kernel
theorem dX11_whole_77 : decode cX11_whole 77 = .ok (.imul, 1) := by decide +kernel
theorem dX11_whole_78 : decode cX11_whole 78 = .ok (.iload_n 2, 1) := by decide +kernel
theorem dX11_whole_79 : decode cX11_whole 79 = .ok (.iadd, 1) := by decide +kernel
theorem dX11_whole_80 : decode cX11_whole 80 = .ok (.bipush 80, 2) := by decide +kernel
theorem dX11_whole_82 : decode cX11_whole 82 = .ok (.imul, 1) := by decide +kernel
theorem dX11_whole_83 : decode cX11_whole 83 = .ok (.invokestatic 175, 3) := by decide +kernel
theorem dX11_whole_86 : decode cX11_whole 86 = .ok (.return_, 1) := by decide +kernel
theorem dX11_sumUp_0 : decode cX11_sumUp 0 = .ok (.iconst 0, 1) := by decide +kernel
theorem dX11_sumUp_1 : decode cX11_sumUp 1 = .ok (.istore_n 3, 1) := by decide +kernel
theorem dX11_sumUp_2 : decode cX11_sumUp 2 = .ok (.iload_n 3, 1) := by decide +kernel
theorem dX11_sumUp_3 : decode cX11_sumUp 3 = .ok (.aload_n 0, 1) := by decide +kernel
theorem dX11_sumUp_4 : decode cX11_sumUp 4 = .ok (.getfield 160, 3) := by decide +kernel
theorem dX11_sumUp_7 : decode cX11_sumUp 7 = .ok (.if_icmp .ge 216, 3) := by decide +kernel
theorem dX11_sumUp_10 : decode cX11_sumUp 10 = .ok (.iconst 0, 1) := by decide +kernel
theorem dX11_sumUp_11 : decode cX11_sumUp 11 = .ok (.istore 4, 2) := by decide +kernel
theorem dX11_sumUp_13 : decode cX11_sumUp 13 = .ok (.iload 4, 2) := by decide +kernel
theorem dX11_sumUp_15 : decode cX11_sumUp 15 = .ok (.iconst 1, 1) := by decide +kernel
theorem dX11_sumUp_16 : decode cX11_sumUp 16 = .ok (.aload_n 0, 1) := by decide +kernel
theorem dX11_sumUp_17 : decode cX11_sumUp 17 = .ok (.getfield 160, 3) := by decide +kernel
theorem dX11_sumUp_20 : decode cX11_sumUp 20 = .ok (.ishl, 1) := by decide +kernel
theorem dX11_sumUp_21 : decode cX11_sumUp 21 = .ok (.if_icmp .ge 25, 3) := by decide +kernel
theorem dX11_sumUp_24 : decode cX11_sumUp 24 = .ok (.iload 4, 2) := by decide +kernel
theorem dX11_sumUp_26 : decode cX11_sumUp 26 = .ok (.iload_n 3, 1) := by decide +kernel
theorem dX11_sumUp_27 : decode cX11_sumUp 27 = .ok (.ishr, 1) := by decide +kernel
theorem dX11_sumUp_28 : decode cX11_sumUp 28 = .ok (.iconst 1, 1) := by decide +kernel
theorem dX11_sumUp_29 : decode cX11_sumUp 29 = .ok (.iand, 1) := by decide +kernel
theorem dX11_sumUp_30 : decode cX11_sumUp 30 = .ok (.ifCond .ne 10, 3) := by decide +kernel
theorem dX11_sumUp_33 : decode cX11_sumUp 33 = .ok (.aload_n 0, 1) := by decide +kernel
theorem dX11_sumUp_34 : decode cX11_sumUp 34 = .ok (.iload_n 3, 1) := by decide +kernel
theorem dX11_sumUp_35 : decode cX11_sumUp 35 = .ok (.iload 4, 2) := by decide +kernel
theorem dX11_sumUp_37 : decode cX11_sumUp 37 = .ok (.invokevirtual 282, 3) := by decide +kernel
theorem dX11_sumUp_40 : decode cX11_sumUp 40 = .ok (.iinc 4 1, 3) := by decide +kernel
theorem dX11_sumUp_43 : decode cX11_sumUp 43 = .ok (.goto (-30), 3) := by decide +kernel
theorem dX11_sumUp_46 : decode cX11_sumUp 46 = .ok (.iconst 0, 1) := by decide +kernel
theorem dX11_sumUp_47 : decode cX11_sumUp 47 = .ok (.istore 4, 2) := by decide +kernel
theorem dX11_sumUp_49 : decode cX11_sumUp 49 = .ok (.iload 4, 2) := by decide +kernel
theorem dX11_sumUp_51 : decode cX11_sumUp 51 = .ok (.iconst 1, 1) := by decide +kernel
theorem dX11_sumUp_52 : decode cX11_sumUp 52 = .ok (.aload_n 0, 1) := by decide +kernel
theorem dX11_sumUp_53 : decode cX11_sumUp 53 = .ok (.getfield 160, 3) := by decide +kernel
theorem dX11_sumUp_56 : decode cX11_sumUp 56 = .ok (.ishl, 1) := by decide +kernel
theorem dX11_sumUp_57 : decode cX11_sumUp 57 = .ok (.if_icmp .ge 160, 3) := by decide +kernel
theorem dX11_sumUp_60 : decode cX11_sumUp 60 = .ok (.aload_n 0, 1) := by decide +kernel
theorem dX11_sumUp_61 : decode cX11_sumUp 61 = .ok (.getfield 111, 3) := by decide +kernel
theorem dX11_sumUp_64 : decode cX11_sumUp 64 = .ok (.iconst 0, 1) := by decide +kernel
theorem dX11_sumUp_65 : decode cX11_sumUp 65 = .ok (.invokestatic 151, 3) := by decide +kernel
theorem dX11_sumUp_68 : decode cX11_sumUp 68 = .ok (.iconst 0, 1) := by decide +kernel
theorem dX11_sumUp_69 : decode cX11_sumUp 69 = .ok (.istore 5, 2) := by decide +kernel
theorem dX11_sumUp_71 : decode cX11_sumUp 71 = .ok (.iload 5, 2) := by decide +kernel
theorem dX11_sumUp_73 : decode cX11_sumUp 73 = .ok (.iload 4, 2) := by decide +kernel
theorem dX11_sumUp_75 : decode cX11_sumUp 75 = .ok (.if_icmp .gt 91, 3) := by decide +kernel
theorem dX11_sumUp_78 : decode cX11_sumUp 78 = .ok (.iload 5, 2) := by decide +kernel
theorem dX11_sumUp_80 : decode cX11_sumUp 80 = .ok (.iload 4, 2) := by decide +kernel
theorem dX11_sumUp_82 : decode cX11_sumUp 82 = .ok (.iconst (-1), 1) := by decide +kernel
theorem dX11_sumUp_83 : decode cX11_sumUp 83 = .ok (.ixor, 1) := by decide +kernel
theorem dX11_sumUp_84 : decode cX11_sumUp 84 = .ok (.iand, 1) := by decide +kernel
theorem dX11_sumUp_85 : decode cX11_sumUp 85 = .ok (.ifCond .ne 75, 3) := by decide +kernel
theorem dX11_sumUp_88 : decode cX11_sumUp 88 = .ok (.iload 5, 2) := by decide +kernel
theorem dX11_sumUp_90 : decode cX11_sumUp 90 = .ok (.iload_n 3, 1) := by decide +kernel
theorem dX11_sumUp_91 : decode cX11_sumUp 91 = .ok (.ishr, 1) := by decide +kernel
theorem dX11_sumUp_92 : decode cX11_sumUp 92 = .ok (.iconst 1, 1) := by decide +kernel
theorem dX11_sumUp_93 : decode cX11_sumUp 93 = .ok (.iand, 1) := by decide +kernel
theorem dX11_sumUp_94 : decode cX11_sumUp 94 = .ok (.ifCond .ne 66, 3) := by decide +kernel
theorem dX11_sumUp_97 : decode cX11_sumUp 97 = .ok (.iload 5, 2) := by decide +kernel
theorem dX11_sumUp_99 : decode cX11_sumUp 99 = .ok (.invokestatic 216, 3) := by decide +kernel
theorem dX11_sumUp_102 : decode cX11_sumUp 102 = .ok (.aload_n 0, 1) := by decide +kernel
theorem dX11_sumUp_103 : decode cX11_sumUp 103 = .ok (.getfield 20, 3) := by decide +kernel
theorem dX11_sumUp_106 : decode cX11_sumUp 106 = .ok (.if_icmp .gt 54, 3) := by decide +kernel
theorem dX11_sumUp_109 : decode cX11_sumUp 109 = .ok (.iload_n 3, 1) := by decide +kernel
theorem dX11_sumUp_110 : decode cX11_sumUp 110 = .ok (.iload_n 2, 1) := by decide +kernel
theorem dX11_sumUp_111 : decode cX11_sumUp 111 = .ok (.if_icmp .ne 17, 3) := by decide +kernel
theorem dX11_sumUp_114 : decode cX11_sumUp 114 = .ok (.iload_n 1, 1) := by decide +kernel
theorem dX11_sumUp_115 : decode cX11_sumUp 115 = .ok (.ifCond .lt 13, 3) := by decide +kernel
theorem dX11_sumUp_118 : decode cX11_sumUp 118 = .ok (.iload 5, 2) := by decide +kernel
theorem dX11_sumUp_120 : decode cX11_sumUp 120 = .ok (.iload_n 1, 1) := by decide +kernel
theorem dX11_sumUp_121 : decode cX11_sumUp 121 = .ok (.ishr, 1) := by decide +kernel
theorem dX11_sumUp_122 : decode cX11_sumUp 122 = .ok (.iconst 1, 1) := by decide +kernel
theorem dX11_sumUp_123 : decode cX11_sumUp 123 = .ok (.iand, 1) := by decide +kernel
theorem dX11_sumUp_124 : decode cX11_sumUp 124 = .ok (.iconst 1, 1) := by decide +kernel
theorem dX11_sumUp_125 : decode cX11_sumUp 125 = .ok (.if_icmp .ne 35, 3) := by decide +kernel
theorem dX11_sumUp_128 : decode cX11_sumUp 128 = .ok (.aload_n 0, 1) := by decide +kernel
theorem dX11_sumUp_129 : decode cX11_sumUp 129 = .ok (.getfield 96, 3) := by decide +kernel
theorem dX11_sumUp_132 : decode cX11_sumUp 132 = .ok (.bipush 16, 2) := by decide +kernel
theorem dX11_sumUp_134 : decode cX11_sumUp 134 = .ok (.iload_n 3, 1) := by decide +kernel
theorem dX11_sumUp_135 : decode cX11_sumUp 135 = .ok (.imul, 1) := by decide +kernel
theorem dX11_sumUp_136 : decode cX11_sumUp 136 = .ok (.iload 5, 2) := by decide +kernel
theorem dX11_sumUp_138 : decode cX11_sumUp 138 = .ok (.iadd, 1) := by decide +kernel
theorem dX11_sumUp_139 : decode cX11_sumUp 139 = .ok (.bipush 80, 2) := by decide +kernel
theorem dX11_sumUp_141 : decode cX11_sumUp 141 = .ok (.imul, 1) := by decide +kernel
theorem dX11_sumUp_142 : decode cX11_sumUp 142 = .ok (.aload_n 0, 1) := by decide +kernel
theorem dX11_sumUp_143 : decode cX11_sumUp 143 = .ok (.getfield 102, 3) := by decide +kernel
theorem dX11_sumUp_146 : decode cX11_sumUp 146 = .ok (.invokestatic 171, 3) := by decide +kernel
theorem dX11_sumUp_149 : decode cX11_sumUp 149 = .ok (.aload_n 0, 1) := by decide +kernel
theorem dX11_sumUp_150 : decode cX11_sumUp 150 = .ok (.getfield 111, 3) := by decide +kernel
theorem dX11_sumUp_153 : decode cX11_sumUp 153 = .ok (.aload_n 0, 1) := by decide +kernel
theorem dX11_sumUp_154 : decode cX11_sumUp 154 = .ok (.getfield 102, 3) := by decide +kernel
theorem dX11_sumUp_157 : decode cX11_sumUp 157 = .ok (.invokestatic 285, 3) := by decide +kernel
theorem dX11_sumUp_160 : decode cX11_sumUp 160 = .ok (.iinc 5 1, 3) := by decide +kernel
theorem dX11_sumUp_163 : decode cX11_sumUp 163 = .ok (.goto (-92), 3) := by decide +kernel
theorem dX11_sumUp_166 : decode cX11_sumUp 166 = .ok (.iconst 0, 1) := by decide +kernel
theorem dX11_sumUp_167 : decode cX11_sumUp 167 = .ok (.istore 5, 2) := by decide +kernel
theorem dX11_sumUp_169 : decode cX11_sumUp 169 = .ok (.iload 5, 2) := by decide +kernel
theorem dX11_sumUp_171 : decode cX11_sumUp 171 = .ok (.aload_n 0, 1) := by decide +kernel
theorem dX11_sumUp_172 : decode cX11_sumUp 172 = .ok (.getfield 111, 3) := by decide +kernel
theorem dX11_sumUp_175 : decode cX11_sumUp 175 = .ok (.iconst 0, 1) := by decide +kernel
theorem dX11_sumUp_176 : decode cX11_sumUp 176 = .ok (.iaload, 1) := by decide +kernel
theorem dX11_sumUp_177 : decode cX11_sumUp 177 = .ok (.if_icmp .gt 34, 3) := by decide +kernel
theorem dX11_sumUp_180 : decode cX11_sumUp 180 = .ok (.aload_n 0, 1) := by decide +kernel
theorem dX11_sumUp_181 : decode cX11_sumUp 181 = .ok (.getfield 93, 3) := by decide +kernel
theorem dX11_sumUp_184 : decode cX11_sumUp 184 = .ok (.bipush 16, 2) := by decide +kernel
theorem dX11_sumUp_186 : decode cX11_sumUp 186 = .ok (.iload_n 3, 1) := by decide +kernel
theorem dX11_sumUp_187 : decode cX11_sumUp 187 = .ok (.imul, 1) := by decide +kernel
theorem dX11_sumUp_188 : decode cX11_sumUp 188 = .ok (.iload 4, 2) := by decide +kernel
theorem dX11_sumUp_190 : decode cX11_sumUp 190 = .ok (.iadd, 1) := by decide +kernel
theorem dX11_sumUp_191 : decode cX11_sumUp 191 = .ok (.bipush 80, 2) := by decide +kernel
theorem dX11_sumUp_193 : decode cX11_sumUp 193 = .ok (.imul, 1) := by decide +kernel
theorem dX11_sumUp_194 : decode cX11_sumUp 194 = .ok (.iload 5, 2) := by decide +kernel
theorem dX11_sumUp_196 : decode cX11_sumUp 196 = .ok (.iadd, 1) := by decide +kernel
theorem dX11_sumUp_197 : decode cX11_sumUp 197 = .ok (.aload_n 0, 1) := by decide +kernel
theorem dX11_sumUp_198 : decode cX11_sumUp 198 = .ok (.getfield 111, 3) := by decide +kernel
theorem dX11_sumUp_201 : decode cX11_sumUp 201 = .ok (.iload 5, 2) := by decide +kernel
theorem dX11_sumUp_203 : decode cX11_sumUp 203 = .ok (.iaload, 1) := by decide +kernel
theorem dX11_sumUp_204 : decode cX11_sumUp 204 = .ok (.iastore, 1) := by decide +kernel
theorem dX11_sumUp_205 : decode cX11_sumUp 205 = .ok (.iinc 5 1, 3) := by decide +kernel
theorem dX11_sumUp_208 : decode cX11_sumUp 208 = .ok (.goto (-39), 3) := by decide +kernel
theorem dX11_sumUp_211 : decode cX11_sumUp 211 = .ok (.iinc 4 1, 3) := by decide +kernel
theorem dX11_sumUp_214 : decode cX11_sumUp 214 = .ok (.goto (-165), 3) := by decide +kernel
theorem dX11_sumUp_217 : decode cX11_sumUp 217 = .ok (.iinc 3 1, 3) := by decide +kernel
theorem dX11_sumUp_220 : decode cX11_sumUp 220 = .ok (.goto (-218), 3) := by decide +kernel
theorem dX11_sumUp_223 : decode cX11_sumUp 223 = .ok (.return_, 1) := by decide +kernel
theorem dX11_total_0 : decode cX11_total 0 = .ok (.aload_n 0, 1) := by decide +kernel
theorem dX11_total_1 : decode cX11_total 1 = .ok (.iload_n 1, 1) := by decide +kernel
theorem dX11_total_2 : decode cX11_total 2 = .ok (.iload_n 2, 1) := by decide +kernel
theorem dX11_total_3 : decode cX11_total 3 = .ok (.invokevirtual 288, 3) := by decide +kernel
theorem dX11_total_6 : decode cX11_total 6 = .ok (.aload_n 0, 1) := by decide +kernel
theorem dX11_total_7 : decode cX11_total 7 = .ok (.getfield 99, 3) := by decide +kernel
theorem dX11_total_10 : decode cX11_total 10 = .ok (.iconst 0, 1) := by decide +kernel
theorem dX11_total_11 : decode cX11_total 11 = .ok (.iconst 1, 1) := by decide +kernel
theorem dX11_total_12 : decode cX11_total 12 = .ok (.iastore, 1) := by decide +kernel
theorem dX11_total_13 : decode cX11_total 13 = .ok (.aload_n 0, 1) := by decide +kernel
theorem dX11_total_14 : decode cX11_total 14 = .ok (.getfield 99, 3) := by decide +kernel
theorem dX11_total_17 : decode cX11_total 17 = .ok (.iconst 1, 1) := by decide +kernel
theorem dX11_total_18 : decode cX11_total 18 = .ok (.iconst 1, 1) := by decide +kernel
theorem dX11_total_19 : decode cX11_total 19 = .ok (.iastore, 1) := by decide +kernel
theorem dX11_total_20 : decode cX11_total 20 = .ok (.iconst 1, 1) := by decide +kernel
theorem dX11_total_21 : decode cX11_total 21 = .ok (.istore 4, 2) := by decide +kernel
theorem dX11_total_23 : decode cX11_total 23 = .ok (.iload 4, 2) := by decide +kernel
theorem dX11_total_25 : decode cX11_total 25 = .ok (.iconst 1, 1) := by decide +kernel
theorem dX11_total_26 : decode cX11_total 26 = .ok (.aload_n 0, 1) := by decide +kernel
theorem dX11_total_27 : decode cX11_total 27 = .ok (.getfield 160, 3) := by decide +kernel
theorem dX11_total_30 : decode cX11_total 30 = .ok (.ishl, 1) := by decide +kernel
theorem dX11_total_31 : decode cX11_total 31 = .ok (.if_icmp .ge 210, 3) := by decide +kernel
theorem dX11_total_34 : decode cX11_total 34 = .ok (.aload_n 0, 1) := by decide +kernel
theorem dX11_total_35 : decode cX11_total 35 = .ok (.getfield 105, 3) := by decide +kernel
theorem dX11_total_38 : decode cX11_total 38 = .ok (.iconst 0, 1) := by decide +kernel
theorem dX11_total_39 : decode cX11_total 39 = .ok (.invokestatic 151, 3) := by decide +kernel
theorem dX11_total_42 : decode cX11_total 42 = .ok (.aload_n 0, 1) := by decide +kernel
theorem dX11_total_43 : decode cX11_total 43 = .ok (.getfield 108, 3) := by decide +kernel
theorem dX11_total_46 : decode cX11_total 46 = .ok (.iconst 0, 1) := by decide +kernel
theorem dX11_total_47 : decode cX11_total 47 = .ok (.invokestatic 151, 3) := by decide +kernel
theorem dX11_total_50 : decode cX11_total 50 = .ok (.iconst 1, 1) := by decide +kernel
theorem dX11_total_51 : decode cX11_total 51 = .ok (.istore 5, 2) := by decide +kernel
theorem dX11_total_53 : decode cX11_total 53 = .ok (.iload 5, 2) := by decide +kernel
theorem dX11_total_55 : decode cX11_total 55 = .ok (.iload 4, 2) := by decide +kernel
theorem dX11_total_57 : decode cX11_total 57 = .ok (.if_icmp .gt 126, 3) := by decide +kernel
theorem dX11_total_60 : decode cX11_total 60 = .ok (.iload 5, 2) := by decide +kernel
theorem dX11_total_62 : decode cX11_total 62 = .ok (.iload 4, 2) := by decide +kernel
theorem dX11_total_64 : decode cX11_total 64 = .ok (.iconst (-1), 1) := by decide +kernel
theorem dX11_total_65 : decode cX11_total 65 = .ok (.ixor, 1) := by decide +kernel
theorem dX11_total_66 : decode cX11_total 66 = .ok (.iand, 1) := by decide +kernel
theorem dX11_total_67 : decode cX11_total 67 = .ok (.ifCond .ne 110, 3) := by decide +kernel
theorem dX11_total_70 : decode cX11_total 70 = .ok (.iload 4, 2) := by decide +kernel
theorem dX11_total_72 : decode cX11_total 72 = .ok (.iload 5, 2) := by decide +kernel
theorem dX11_total_74 : decode cX11_total 74 = .ok (.iconst (-1), 1) := by decide +kernel
theorem dX11_total_75 : decode cX11_total 75 = .ok (.ixor, 1) := by decide +kernel
theorem dX11_total_76 : decode cX11_total 76 = .ok (.iand, 1) := by decide +kernel
theorem dX11_total_77 : decode cX11_total 77 = .ok (.istore 6, 2) := by decide +kernel
theorem dX11_total_79 : decode cX11_total 79 = .ok (.aload_n 0, 1) := by decide +kernel
theorem dX11_total_80 : decode cX11_total 80 = .ok (.getfield 99, 3) := by decide +kernel
theorem dX11_total_83 : decode cX11_total 83 = .ok (.iload 6, 2) := by decide +kernel
theorem dX11_total_85 : decode cX11_total 85 = .ok (.sipush 320, 3) := by decide +kernel
theorem dX11_total_88 : decode cX11_total 88 = .ok (.imul, 1) := by decide +kernel
theorem dX11_total_89 : decode cX11_total 89 = .ok (.aload_n 0, 1) := by decide +kernel
theorem dX11_total_90 : decode cX11_total 90 = .ok (.getfield 102, 3) := by decide +kernel
theorem dX11_total_93 : decode cX11_total 93 = .ok (.invokestatic 171, 3) := by decide +kernel
theorem dX11_total_96 : decode cX11_total 96 = .ok (.iconst 0, 1) := by decide +kernel
theorem dX11_total_97 : decode cX11_total 97 = .ok (.istore 7, 2) := by decide +kernel
theorem dX11_total_99 : decode cX11_total 99 = .ok (.iload 7, 2) := by decide +kernel
theorem dX11_total_101 : decode cX11_total 101 = .ok (.aload_n 0, 1) := by decide +kernel
theorem dX11_total_102 : decode cX11_total 102 = .ok (.getfield 160, 3) := by decide +kernel
theorem dX11_total_105 : decode cX11_total 105 = .ok (.if_icmp .ge 43, 3) := by decide +kernel
theorem dX11_total_108 : decode cX11_total 108 = .ok (.iload 5, 2) := by decide +kernel
theorem dX11_total_110 : decode cX11_total 110 = .ok (.iload 7, 2) := by decide +kernel
theorem dX11_total_112 : decode cX11_total 112 = .ok (.ishr, 1) := by decide +kernel
theorem dX11_total_113 : decode cX11_total 113 = .ok (.iconst 1, 1) := by decide +kernel
theorem dX11_total_114 : decode cX11_total 114 = .ok (.iand, 1) := by decide +kernel
theorem dX11_total_115 : decode cX11_total 115 = .ok (.iconst 1, 1) := by decide +kernel
theorem dX11_total_116 : decode cX11_total 116 = .ok (.if_icmp .ne 26, 3) := by decide +kernel
theorem dX11_total_119 : decode cX11_total 119 = .ok (.aload_n 0, 1) := by decide +kernel
theorem dX11_total_120 : decode cX11_total 120 = .ok (.aload_n 0, 1) := by decide +kernel
theorem dX11_total_121 : decode cX11_total 121 = .ok (.getfield 102, 3) := by decide +kernel
theorem dX11_total_124 : decode cX11_total 124 = .ok (.aload_n 0, 1) := by decide +kernel
theorem dX11_total_125 : decode cX11_total 125 = .ok (.getfield 93, 3) := by decide +kernel
theorem dX11_total_128 : decode cX11_total 128 = .ok (.bipush 16, 2) := by decide +kernel
theorem dX11_total_130 : decode cX11_total 130 = .ok (.iload 7, 2) := by decide +kernel
theorem dX11_total_132 : decode cX11_total 132 = .ok (.imul, 1) := by decide +kernel
theorem dX11_total_133 : decode cX11_total 133 = .ok (.iload 6, 2) := by decide +kernel
theorem dX11_total_135 : decode cX11_total 135 = .ok (.iadd, 1) := by decide +kernel
theorem dX11_total_136 : decode cX11_total 136 = .ok (.bipush 80, 2) := by decide +kernel
theorem dX11_total_138 : decode cX11_total 138 = .ok (.imul, 1) := by decide +kernel
theorem dX11_total_139 : decode cX11_total 139 = .ok (.invokevirtual 200, 3) := by decide +kernel
theorem dX11_total_142 : decode cX11_total 142 = .ok (.iinc 7 1, 3) := by decide +kernel
theorem dX11_total_145 : decode cX11_total 145 = .ok (.goto (-46), 3) := by decide +kernel
theorem dX11_total_148 : decode cX11_total 148 = .ok (.iload 5, 2) := by decide +kernel
theorem dX11_total_150 : decode cX11_total 150 = .ok (.invokestatic 216, 3) := by decide +kernel
theorem dX11_total_153 : decode cX11_total 153 = .ok (.iconst 2, 1) := by decide +kernel
theorem dX11_total_154 : decode cX11_total 154 = .ok (.irem, 1) := by decide +kernel
theorem dX11_total_155 : decode cX11_total 155 = .ok (.iconst 1, 1) := by decide +kernel
theorem dX11_total_156 : decode cX11_total 156 = .ok (.if_icmp .ne 10, 3) := by decide +kernel
theorem dX11_total_159 : decode cX11_total 159 = .ok (.aload_n 0, 1) := by decide +kernel
theorem dX11_total_160 : decode cX11_total 160 = .ok (.getfield 105, 3) := by decide +kernel
theorem dX11_total_163 : decode cX11_total 163 = .ok (.goto 7, 3) := by decide +kernel
theorem dX11_total_166 : decode cX11_total 166 = .ok (.aload_n 0, 1) := by decide +kernel
theorem dX11_total_167 : decode cX11_total 167 = .ok (.getfield 108, 3) := by decide +kernel
theorem dX11_total_170 : decode cX11_total 170 = .ok (.aload_n 0, 1) := by decide +kernel
theorem dX11_total_171 : decode cX11_total 171 = .ok (.getfield 102, 3) := by decide +kernel
theorem dX11_total_174 : decode cX11_total 174 = .ok (.invokestatic 285, 3) := by decide +kernel
theorem dX11_total_177 : decode cX11_total 177 = .ok (.iinc 5 1, 3) := by decide +kernel
theorem dX11_total_180 : decode cX11_total 180 = .ok (.goto (-127), 3) := by decide +kernel
theorem dX11_total_183 : decode cX11_total 183 = .ok (.aload_n 0, 1) := by decide +kernel
theorem dX11_total_184 : decode cX11_total 184 = .ok (.getfield 105, 3) := by decide +kernel
theorem dX11_total_187 : decode cX11_total 187 = .ok (.aload_n 0, 1) := by decide +kernel
theorem dX11_total_188 : decode cX11_total 188 = .ok (.getfield 108, 3) := by decide +kernel
theorem dX11_total_191 : decode cX11_total 191 = .ok (.invokestatic 145, 3) := by decide +kernel
theorem dX11_total_194 : decode cX11_total 194 = .ok (.iconst 0, 1) := by decide +kernel
theorem dX11_total_195 : decode cX11_total 195 = .ok (.istore 5, 2) := by decide +kernel
theorem dX11_total_197 : decode cX11_total 197 = .ok (.iload 5, 2) := by decide +kernel
theorem dX11_total_199 : decode cX11_total 199 = .ok (.aload_n 0, 1) := by decide +kernel
theorem dX11_total_200 : decode cX11_total 200 = .ok (.getfield 105, 3) := by decide +kernel
theorem dX11_total_203 : decode cX11_total 203 = .ok (.iconst 0, 1) := by decide +kernel
theorem dX11_total_204 : decode cX11_total 204 = .ok (.iaload, 1) := by decide +kernel
theorem dX11_total_205 : decode cX11_total 205 = .ok (.if_icmp .gt 30, 3) := by decide +kernel
theorem dX11_total_208 : decode cX11_total 208 = .ok (.aload_n 0, 1) := by decide +kernel
theorem dX11_total_209 : decode cX11_total 209 = .ok (.getfield 99, 3) := by decide +kernel
theorem dX11_total_212 : decode cX11_total 212 = .ok (.iload 4, 2) := by decide +kernel
theorem dX11_total_214 : decode cX11_total 214 = .ok (.sipush 320, 3) := by decide +kernel
theorem dX11_total_217 : decode cX11_total 217 = .ok (.imul, 1) := by decide +kernel
theorem dX11_total_218 : decode cX11_total 218 = .ok (.iload 5, 2) := by decide +kernel
theorem dX11_total_220 : decode cX11_total 220 = .ok (.iadd, 1) := by decide +kernel
theorem dX11_total_221 : decode cX11_total 221 = .ok (.aload_n 0, 1) := by decide +kernel
theorem dX11_total_222 : decode cX11_total 222 = .ok (.getfield 105, 3) := by decide +kernel
theorem dX11_total_225 : decode cX11_total 225 = .ok (.iload 5, 2) := by decide +kernel
theorem dX11_total_227 : decode cX11_total 227 = .ok (.iaload, 1) := by decide +kernel
theorem dX11_total_228 : decode cX11_total 228 = .ok (.iastore, 1) := by decide +kernel
theorem dX11_total_229 : decode cX11_total 229 = .ok (.iinc 5 1, 3) := by decide +kernel
theorem dX11_total_232 : decode cX11_total 232 = .ok (.goto (-35), 3) := by decide +kernel
theorem dX11_total_235 : decode cX11_total 235 = .ok (.iinc 4 1, 3) := by decide +kernel
theorem dX11_total_238 : decode cX11_total 238 = .ok (.goto (-215), 3) := by decide +kernel
theorem dX11_total_241 : decode cX11_total 241 = .ok (.aload_n 0, 1) := by decide +kernel
theorem dX11_total_242 : decode cX11_total 242 = .ok (.getfield 99, 3) := by decide +kernel
theorem dX11_total_245 : decode cX11_total 245 = .ok (.iconst 1, 1) := by decide +kernel
theorem dX11_total_246 : decode cX11_total 246 = .ok (.aload_n 0, 1) := by decide +kernel
theorem dX11_total_247 : decode cX11_total 247 = .ok (.getfield 160, 3) := by decide +kernel
theorem dX11_total_250 : decode cX11_total 250 = .ok (.ishl, 1) := by decide +kernel
theorem dX11_total_251 : decode cX11_total 251 = .ok (.iconst 1, 1) := by decide +kernel
theorem dX11_total_252 : decode cX11_total 252 = .ok (.isub, 1) := by decide +kernel
theorem dX11_total_253 : decode cX11_total 253 = .ok (.sipush 320, 3) := by decide +kernel
theorem dX11_total_256 : decode cX11_total 256 = .ok (.imul, 1) := by decide +kernel
theorem dX11_total_257 : decode cX11_total 257 = .ok (.aload_n 3, 1) := by decide +kernel
theorem dX11_total_258 : decode cX11_total 258 = .ok (.invokestatic 171, 3) := by decide +kernel
theorem dX11_total_261 : decode cX11_total 261 = .ok (.return_, 1) := by decide +kernel
theorem dX11_tellShare_0 : decode cX11_tellShare 0 = .ok (.aload_n 0, 1) := by decide +kernel
theorem dX11_tellShare_1 : decode cX11_tellShare 1 = .ok (.getfield 81, 3) := by decide +kernel
theorem dX11_tellShare_4 : decode cX11_tellShare 4 = .ok (.iconst 5, 1) := by decide +kernel
theorem dX11_tellShare_5 : decode cX11_tellShare 5 = .ok (.iload_n 1, 1) := by decide +kernel
theorem dX11_tellShare_6 : decode cX11_tellShare 6 = .ok (.imul, 1) := by decide +kernel
theorem dX11_tellShare_7 : decode cX11_tellShare 7 = .ok (.iload_n 2, 1) := by decide +kernel
theorem dX11_tellShare_8 : decode cX11_tellShare 8 = .ok (.iadd, 1) := by decide +kernel
theorem dX11_tellShare_9 : decode cX11_tellShare 9 = .ok (.if_icmp .eq 41, 3) := by decide +kernel
theorem dX11_tellShare_12 : decode cX11_tellShare 12 = .ok (.aload_n 0, 1) := by decide +kernel
theorem dX11_tellShare_13 : decode cX11_tellShare 13 = .ok (.iload_n 1, 1) := by decide +kernel
theorem dX11_tellShare_14 : decode cX11_tellShare 14 = .ok (.iload_n 2, 1) := by decide +kernel
theorem dX11_tellShare_15 : decode cX11_tellShare 15 = .ok (.aload_n 0, 1) := by decide +kernel
theorem dX11_tellShare_16 : decode cX11_tellShare 16 = .ok (.getfield 32, 3) := by decide +kernel
theorem dX11_tellShare_19 : decode cX11_tellShare 19 = .ok (.invokevirtual 291, 3) := by decide +kernel
theorem dX11_tellShare_22 : decode cX11_tellShare 22 = .ok (.aload_n 0, 1) := by decide +kernel
theorem dX11_tellShare_23 : decode cX11_tellShare 23 = .ok (.iconst (-1), 1) := by decide +kernel
theorem dX11_tellShare_24 : decode cX11_tellShare 24 = .ok (.iload_n 2, 1) := by decide +kernel
theorem dX11_tellShare_25 : decode cX11_tellShare 25 = .ok (.aload_n 0, 1) := by decide +kernel
theorem dX11_tellShare_26 : decode cX11_tellShare 26 = .ok (.getfield 35, 3) := by decide +kernel
theorem dX11_tellShare_29 : decode cX11_tellShare 29 = .ok (.invokevirtual 291, 3) := by decide +kernel
theorem dX11_tellShare_32 : decode cX11_tellShare 32 = .ok (.aload_n 0, 1) := by decide +kernel
theorem dX11_tellShare_33 : decode cX11_tellShare 33 = .ok (.invokevirtual 239, 3) := by decide +kernel
theorem dX11_tellShare_36 : decode cX11_tellShare 36 = .ok (.aload_n 0, 1) := by decide +kernel
theorem dX11_tellShare_37 : decode cX11_tellShare 37 = .ok (.iconst 5, 1) := by decide +kernel
theorem dX11_tellShare_38 : decode cX11_tellShare 38 = .ok (.iload_n 1, 1) := by decide +kernel
theorem dX11_tellShare_39 : decode cX11_tellShare 39 = .ok (.imul, 1) := by decide +kernel
theorem dX11_tellShare_40 : decode cX11_tellShare 40 = .ok (.iload_n 2, 1) := by decide +kernel
theorem dX11_tellShare_41 : decode cX11_tellShare 41 = .ok (.iadd, 1) := by decide +kernel
theorem dX11_tellShare_42 : decode cX11_tellShare 42 = .ok (.putfield 81, 3) := by decide +kernel
theorem dX11_tellShare_45 : decode cX11_tellShare 45 = .ok (.aload_n 0, 1) := by decide +kernel
theorem dX11_tellShare_46 : decode cX11_tellShare 46 = .ok (.iconst (-1), 1) := by decide +kernel
theorem dX11_tellShare_47 : decode cX11_tellShare 47 = .ok (.putfield 78, 3) := by decide +kernel
theorem dX11_tellShare_50 : decode cX11_tellShare 50 = .ok (.return_, 1) := by decide +kernel
theorem dX11_shareFault_0 : decode cX11_shareFault 0 = .ok (.aload_n 0, 1) := by decide +kernel
theorem dX11_shareFault_1 : decode cX11_shareFault 1 = .ok (.iload_n 1, 1) := by decide +kernel
theorem dX11_shareFault_2 : decode cX11_shareFault 2 = .ok (.invokevirtual 233, 3) := by decide +kernel
theorem dX11_shareFault_5 : decode cX11_shareFault 5 = .ok (.ifCond .eq 23, 3) := by decide +kernel
theorem dX11_shareFault_8 : decode cX11_shareFault 8 = .ok (.aload_n 0, 1) := by decide +kernel
theorem dX11_shareFault_9 : decode cX11_shareFault 9 = .ok (.iload_n 2, 1) := by decide +kernel
theorem dX11_shareFault_10 : decode cX11_shareFault 10 = .ok (.invokevirtual 233, 3) := by decide +kernel
theorem dX11_shareFault_13 : decode cX11_shareFault 13 = .ok (.ifCond .eq 15, 3) := by decide +kernel
theorem dX11_shareFault_16 : decode cX11_shareFault 16 = .ok (.iload_n 1, 1) := by decide +kernel
theorem dX11_shareFault_17 : decode cX11_shareFault 17 = .ok (.iload_n 2, 1) := by decide +kernel
theorem dX11_shareFault_18 : decode cX11_shareFault 18 = .ok (.if_icmp .eq 10, 3) := by decide +kernel
theorem dX11_shareFault_21 : decode cX11_shareFault 21 = .ok (.iload_n 3, 1) := by decide +kernel
theorem dX11_shareFault_22 : decode cX11_shareFault 22 = .ok (.invokestatic 244, 3) := by decide +kernel
theorem dX11_shareFault_25 : decode cX11_shareFault 25 = .ok (.ifCond .ne 5, 3) := by decide +kernel
theorem dX11_shareFault_28 : decode cX11_shareFault 28 = .ok (.iconst (-1), 1) := by decide +kernel
theorem dX11_shareFault_29 : decode cX11_shareFault 29 = .ok (.ireturn, 1) := by decide +kernel
theorem dX11_shareFault_30 : decode cX11_shareFault 30 = .ok (.aload_n 0, 1) := by decide +kernel
theorem dX11_shareFault_31 : decode cX11_shareFault 31 = .ok (.getfield 160, 3) := by decide +kernel
theorem dX11_shareFault_34 : decode cX11_shareFault 34 = .ok (.iconst 5, 1) := by decide +kernel
theorem dX11_shareFault_35 : decode cX11_shareFault 35 = .ok (.if_icmp .ne 8, 3) := by decide +kernel
theorem dX11_shareFault_38 : decode cX11_shareFault 38 = .ok (.bipush (-2), 2) := by decide +kernel
theorem dX11_shareFault_40 : decode cX11_shareFault 40 = .ok (.goto 4, 3) := by decide +kernel
theorem dX11_shareFault_43 : decode cX11_shareFault 43 = .ok (.iconst 0, 1) := by decide +kernel
theorem dX11_shareFault_44 : decode cX11_shareFault 44 = .ok (.ireturn, 1) := by decide +kernel
theorem dX11_shareSize_0 : decode cX11_shareSize 0 = .ok (.aload_n 0, 1) := by decide +kernel
theorem dX11_shareSize_1 : decode cX11_shareSize 1 = .ok (.iload_n 1, 1) := by decide +kernel
theorem dX11_shareSize_2 : decode cX11_shareSize 2 = .ok (.iload_n 2, 1) := by decide +kernel
theorem dX11_shareSize_3 : decode cX11_shareSize 3 = .ok (.iload_n 3, 1) := by decide +kernel
theorem dX11_shareSize_4 : decode cX11_shareSize 4 = .ok (.invokevirtual 295, 3) := by decide +kernel
theorem dX11_shareSize_7 : decode cX11_shareSize 7 = .ok (.istore 4, 2) := by decide +kernel
theorem dX11_shareSize_9 : decode cX11_shareSize 9 = .ok (.iload 4, 2) := by decide +kernel
theorem dX11_shareSize_11 : decode cX11_shareSize 11 = .ok (.ifCond .ge 6, 3) := by decide +kernel
theorem dX11_shareSize_14 : decode cX11_shareSize 14 = .ok (.iload 4, 2) := by decide +kernel
theorem dX11_shareSize_16 : decode cX11_shareSize 16 = .ok (.ireturn, 1) := by decide +kernel
theorem dX11_shareSize_17 : decode cX11_shareSize 17 = .ok (.aload_n 0, 1) := by decide +kernel
theorem dX11_shareSize_18 : decode cX11_shareSize 18 = .ok (.iload_n 1, 1) := by decide +kernel
theorem dX11_shareSize_19 : decode cX11_shareSize 19 = .ok (.iload_n 2, 1) := by decide +kernel
theorem dX11_shareSize_20 : decode cX11_shareSize 20 = .ok (.invokevirtual 298, 3) := by decide +kernel
theorem dX11_shareSize_23 : decode cX11_shareSize 23 = .ok (.iload_n 3, 1) := by decide +kernel
theorem dX11_shareSize_24 : decode cX11_shareSize 24 = .ok (.ifCond .ne 12, 3) := by decide +kernel
theorem dX11_shareSize_27 : decode cX11_shareSize 27 = .ok (.aload_n 0, 1) := by decide +kernel
theorem dX11_shareSize_28 : decode cX11_shareSize 28 = .ok (.getfield 32, 3) := by decide +kernel
theorem dX11_shareSize_31 : decode cX11_shareSize 31 = .ok (.iconst 0, 1) := by decide +kernel
theorem dX11_shareSize_32 : decode cX11_shareSize 32 = .ok (.iaload, 1) := by decide +kernel
theorem dX11_shareSize_33 : decode cX11_shareSize 33 = .ok (.goto 9, 3) := by decide +kernel
theorem dX11_shareSize_36 : decode cX11_shareSize 36 = .ok (.aload_n 0, 1) := by decide +kernel
theorem dX11_shareSize_37 : decode cX11_shareSize 37 = .ok (.getfield 35, 3) := by decide +kernel
theorem dX11_shareSize_40 : decode cX11_shareSize 40 = .ok (.iconst 0, 1) := by decide +kernel
theorem dX11_shareSize_41 : decode cX11_shareSize 41 = .ok (.iaload, 1) := by decide +kernel
theorem dX11_shareSize_42 : decode cX11_shareSize 42 = .ok (.ireturn, 1) := by decide +kernel
theorem dX11_shareWord_0 : decode cX11_shareWord 0 = .ok (.aload_n 0, 1) := by decide +kernel
theorem dX11_shareWord_1 : decode cX11_shareWord 1 = .ok (.iload_n 1, 1) := by decide +kernel
theorem dX11_shareWord_2 : decode cX11_shareWord 2 = .ok (.iload_n 2, 1) := by decide +kernel
theorem dX11_shareWord_3 : decode cX11_shareWord 3 = .ok (.iload_n 3, 1) := by decide +kernel
theorem dX11_shareWord_4 : decode cX11_shareWord 4 = .ok (.invokevirtual 295, 3) := by decide +kernel
theorem dX11_shareWord_7 : decode cX11_shareWord 7 = .ok (.istore 5, 2) := by decide +kernel
theorem dX11_shareWord_9 : decode cX11_shareWord 9 = .ok (.iload 5, 2) := by decide +kernel
theorem dX11_shareWord_11 : decode cX11_shareWord 11 = .ok (.ifCond .ge 7, 3) := by decide +kernel
theorem dX11_shareWord_14 : decode cX11_shareWord 14 = .ok (.iload 5, 2) := by decide +kernel
theorem dX11_shareWord_16 : decode cX11_shareWord 16 = .ok (.i2l, 1) := by decide +kernel
theorem dX11_shareWord_17 : decode cX11_shareWord 17 = .ok (.lreturn, 1) := by decide +kernel
theorem dX11_shareWord_18 : decode cX11_shareWord 18 = .ok (.aload_n 0, 1) := by decide +kernel
theorem dX11_shareWord_19 : decode cX11_shareWord 19 = .ok (.iload_n 1, 1) := by decide +kernel
theorem dX11_shareWord_20 : decode cX11_shareWord 20 = .ok (.iload_n 2, 1) := by decide +kernel
theorem dX11_shareWord_21 : decode cX11_shareWord 21 = .ok (.invokevirtual 298, 3) := by decide +kernel
theorem dX11_shareWord_24 : decode cX11_shareWord 24 = .ok (.aload_n 0, 1) := by decide +kernel
theorem dX11_shareWord_25 : decode cX11_shareWord 25 = .ok (.iload_n 3, 1) := by decide +kernel
theorem dX11_shareWord_26 : decode cX11_shareWord 26 = .ok (.iload 4, 2) := by decide +kernel
theorem dX11_shareWord_28 : decode cX11_shareWord 28 = .ok (.invokevirtual 251, 3) := by decide +kernel
theorem dX11_shareWord_31 : decode cX11_shareWord 31 = .ok (.lreturn, 1) := by decide +kernel
theorem dX11_lesser_0 : decode cX11_lesser 0 = .ok (.iload_n 0, 1) := by decide +kernel
theorem dX11_lesser_1 : decode cX11_lesser 1 = .ok (.iload_n 1, 1) := by decide +kernel
theorem dX11_lesser_2 : decode cX11_lesser 2 = .ok (.if_icmp .ge 7, 3) := by decide +kernel
theorem dX11_lesser_5 : decode cX11_lesser 5 = .ok (.iload_n 0, 1) := by decide +kernel
theorem dX11_lesser_6 : decode cX11_lesser 6 = .ok (.goto 4, 3) := by decide +kernel
theorem dX11_lesser_9 : decode cX11_lesser 9 = .ok (.iload_n 1, 1) := by decide +kernel
theorem dX11_lesser_10 : decode cX11_lesser 10 = .ok (.ireturn, 1) := by decide +kernel
theorem dX11_choose_0 : decode cX11_choose 0 = .ok (.lconst 1, 1) := by decide +kernel
theorem dX11_choose_1 : decode cX11_choose 1 = .ok (.lstore_n 2, 1) := by decide +kernel
theorem dX11_choose_2 : decode cX11_choose 2 = .ok (.iconst 1, 1) := by decide +kernel
theorem dX11_choose_3 : decode cX11_choose 3 = .ok (.istore 4, 2) := by decide +kernel
theorem dX11_choose_5 : decode cX11_choose 5 = .ok (.iload 4, 2) := by decide +kernel
theorem dX11_choose_7 : decode cX11_choose 7 = .ok (.iload_n 1, 1) := by decide +kernel
theorem dX11_choose_8 : decode cX11_choose 8 = .ok (.if_icmp .gt 23, 3) := by decide +kernel
theorem dX11_choose_11 : decode cX11_choose 11 = .ok (.lload_n 2, 1) := by decide +kernel
theorem dX11_choose_12 : decode cX11_choose 12 = .ok (.iload_n 0, 1) := by decide +kernel
theorem dX11_choose_13 : decode cX11_choose 13 = .ok (.iload_n 1, 1) := by decide +kernel
theorem dX11_choose_14 : decode cX11_choose 14 = .ok (.isub, 1) := by decide +kernel
theorem dX11_choose_15 : decode cX11_choose 15 = .ok (.iload 4, 2) := by decide +kernel
theorem dX11_choose_17 : decode cX11_choose 17 = .ok (.iadd, 1) := by decide +kernel
theorem dX11_choose_18 : decode cX11_choose 18 = .ok (.i2l, 1) := by decide +kernel
theorem dX11_choose_19 : decode cX11_choose 19 = .ok (.lmul, 1) := by decide +kernel
theorem dX11_choose_20 : decode cX11_choose 20 = .ok (.iload 4, 2) := by decide +kernel
theorem dX11_choose_22 : decode cX11_choose 22 = .ok (.i2l, 1) := by decide +kernel
theorem dX11_choose_23 : decode cX11_choose 23 = .ok (.ldiv, 1) := by decide +kernel
theorem dX11_choose_24 : decode cX11_choose 24 = .ok (.lstore_n 2, 1) := by decide +kernel
theorem dX11_choose_25 : decode cX11_choose 25 = .ok (.iinc 4 1, 3) := by decide +kernel
theorem dX11_choose_28 : decode cX11_choose 28 = .ok (.goto (-23), 3) := by decide +kernel
theorem dX11_choose_31 : decode cX11_choose 31 = .ok (.lload_n 2, 1) := by decide +kernel
theorem dX11_choose_32 : decode cX11_choose 32 = .ok (.lreturn, 1) := by decide +kernel
theorem dX11_ways_0 : decode cX11_ways 0 = .ok (.iload_n 0, 1) := by decide +kernel
theorem dX11_ways_1 : decode cX11_ways 1 = .ok (.iload_n 1, 1) := by decide +kernel
theorem dX11_ways_2 : decode cX11_ways 2 = .ok (.iadd, 1) := by decide +kernel
theorem dX11_ways_3 : decode cX11_ways 3 = .ok (.iload_n 2, 1) := by decide +kernel
theorem dX11_ways_4 : decode cX11_ways 4 = .ok (.iadd, 1) := by decide +kernel
theorem dX11_ways_5 : decode cX11_ways 5 = .ok (.iload_n 0, 1) := by decide +kernel
theorem dX11_ways_6 : decode cX11_ways 6 = .ok (.invokestatic 301, 3) := by decide +kernel
theorem dX11_ways_9 : decode cX11_ways 9 = .ok (.iload_n 1, 1) := by decide +kernel
theorem dX11_ways_10 : decode cX11_ways 10 = .ok (.iload_n 2, 1) := by decide +kernel
theorem dX11_ways_11 : decode cX11_ways 11 = .ok (.iadd, 1) := by decide +kernel
theorem dX11_ways_12 : decode cX11_ways 12 = .ok (.iload_n 1, 1) := by decide +kernel
theorem dX11_ways_13 : decode cX11_ways 13 = .ok (.invokestatic 301, 3) := by decide +kernel
theorem dX11_ways_16 : decode cX11_ways 16 = .ok (.lmul, 1) := by decide +kernel
theorem dX11_ways_17 : decode cX11_ways 17 = .ok (.lreturn, 1) := by decide +kernel
theorem dX11_test_0 : decode cX11_test 0 = .ok (.aload_n 0, 1) := by decide +kernel
theorem dX11_test_1 : decode cX11_test 1 = .ok (.iload_n 1, 1) := by decide +kernel
theorem dX11_test_2 : decode cX11_test 2 = .ok (.invokevirtual 233, 3) := by decide +kernel
theorem dX11_test_5 : decode cX11_test 5 = .ok (.ifCond .eq 24, 3) := by decide +kernel
theorem dX11_test_8 : decode cX11_test 8 = .ok (.aload_n 0, 1) := by decide +kernel
theorem dX11_test_9 : decode cX11_test 9 = .ok (.iload_n 2, 1) := by decide +kernel
theorem dX11_test_10 : decode cX11_test 10 = .ok (.invokevirtual 233, 3) := by decide +kernel
theorem dX11_test_13 : decode cX11_test 13 = .ok (.ifCond .eq 16, 3) := by decide +kernel
theorem dX11_test_16 : decode cX11_test 16 = .ok (.iload_n 1, 1) := by decide +kernel
theorem dX11_test_17 : decode cX11_test 17 = .ok (.iload_n 2, 1) := by decide +kernel
theorem dX11_test_18 : decode cX11_test 18 = .ok (.if_icmp .eq 11, 3) := by decide +kernel
theorem dX11_test_21 : decode cX11_test 21 = .ok (.iload 5, 2) := by decide +kernel
theorem dX11_test_23 : decode cX11_test 23 = .ok (.invokestatic 244, 3) := by decide +kernel
theorem dX11_test_26 : decode cX11_test 26 = .ok (.ifCond .ne 7, 3) := by decide +kernel
theorem dX11_test_29 : decode cX11_test 29 = .ok (.ldc2_w 242, 3) := by decide +kernel
theorem dX11_test_32 : decode cX11_test 32 = .ok (.lreturn, 1) := by decide +kernel
theorem dX11_test_33 : decode cX11_test 33 = .ok (.iload_n 3, 1) := by decide +kernel
theorem dX11_test_34 : decode cX11_test 34 = .ok (.iconst (-1), 1) := by decide +kernel
theorem dX11_test_35 : decode cX11_test 35 = .ok (.if_icmp .eq 41, 3) := by decide +kernel
theorem dX11_test_38 : decode cX11_test 38 = .ok (.aload_n 0, 1) := by decide +kernel
theorem dX11_test_39 : decode cX11_test 39 = .ok (.iload_n 3, 1) := by decide +kernel
theorem dX11_test_40 : decode cX11_test 40 = .ok (.invokevirtual 233, 3) := by decide +kernel
theorem dX11_test_43 : decode cX11_test 43 = .ok (.ifCond .eq 29, 3) := by decide +kernel
theorem dX11_test_46 : decode cX11_test 46 = .ok (.iload_n 3, 1) := by decide +kernel
theorem dX11_test_47 : decode cX11_test 47 = .ok (.iload_n 1, 1) := by decide +kernel
theorem dX11_test_48 : decode cX11_test 48 = .ok (.if_icmp .eq 24, 3) := by decide +kernel
theorem dX11_test_51 : decode cX11_test 51 = .ok (.iload_n 3, 1) := by decide +kernel
theorem dX11_test_52 : decode cX11_test 52 = .ok (.iload_n 2, 1) := by decide +kernel
theorem dX11_test_53 : decode cX11_test 53 = .ok (.if_icmp .eq 19, 3) := by decide +kernel
theorem dX11_test_56 : decode cX11_test 56 = .ok (.iload 4, 2) := by decide +kernel
theorem dX11_test_58 : decode cX11_test 58 = .ok (.ifCond .lt 14, 3) := by decide +kernel
theorem dX11_test_61 : decode cX11_test 61 = .ok (.iload 4, 2) := by decide +kernel
theorem dX11_test_63 : decode cX11_test 63 = .ok (.aload_n 0, 1) := by decide +kernel
theorem dX11_test_64 : decode cX11_test 64 = .ok (.getfield 7, 3) := by decide +kernel
theorem dX11_test_67 : decode cX11_test 67 = .ok (.iload_n 3, 1) := by decide +kernel
theorem dX11_test_68 : decode cX11_test 68 = .ok (.iaload, 1) := by decide +kernel
theorem dX11_test_69 : decode cX11_test 69 = .ok (.if_icmp .lt 7, 3) := by decide +kernel
theorem dX11_test_72 : decode cX11_test 72 = .ok (.ldc2_w 242, 3) := by decide +kernel
theorem dX11_test_75 : decode cX11_test 75 = .ok (.lreturn, 1) := by decide +kernel
theorem dX11_test_76 : decode cX11_test 76 = .ok (.iconst 0, 1) := by decide +kernel
theorem dX11_test_77 : decode cX11_test 77 = .ok (.istore 6, 2) := by decide +kernel
theorem dX11_test_79 : decode cX11_test 79 = .ok (.iload 6, 2) := by decide +kernel
theorem dX11_test_81 : decode cX11_test 81 = .ok (.bipush 9, 2) := by decide +kernel
theorem dX11_test_83 : decode cX11_test 83 = .ok (.if_icmp .ge 37, 3) := by decide +kernel
theorem dX11_test_86 : decode cX11_test 86 = .ok (.aload_n 0, 1) := by decide +kernel
theorem dX11_test_87 : decode cX11_test 87 = .ok (.getfield 114, 3) := by decide +kernel
theorem dX11_test_90 : decode cX11_test 90 = .ok (.iload 6, 2) := by decide +kernel
theorem dX11_test_92 : decode cX11_test 92 = .ok (.iconst 3, 1) := by decide +kernel
theorem dX11_test_93 : decode cX11_test 93 = .ok (.irem, 1) := by decide +kernel
theorem dX11_test_94 : decode cX11_test 94 = .ok (.iconst 0, 1) := by decide +kernel
theorem dX11_test_95 : decode cX11_test 95 = .ok (.iastore, 1) := by decide +kernel
theorem dX11_test_96 : decode cX11_test 96 = .ok (.aload_n 0, 1) := by decide +kernel
theorem dX11_test_97 : decode cX11_test 97 = .ok (.getfield 117, 3) := by decide +kernel
theorem dX11_test_100 : decode cX11_test 100 = .ok (.iload 6, 2) := by decide +kernel
theorem dX11_test_102 : decode cX11_test 102 = .ok (.iconst 3, 1) := by decide +kernel
theorem dX11_test_103 : decode cX11_test 103 = .ok (.irem, 1) := by decide +kernel
theorem dX11_test_104 : decode cX11_test 104 = .ok (.iconst 0, 1) := by decide +kernel
theorem dX11_test_105 : decode cX11_test 105 = .ok (.iastore, 1) := by decide +kernel
theorem dX11_test_106 : decode cX11_test 106 = .ok (.aload_n 0, 1) := by decide +kernel
theorem dX11_test_107 : decode cX11_test 107 = .ok (.getfield 120, 3) := by decide +kernel
theorem dX11_test_110 : decode cX11_test 110 = .ok (.iload 6, 2) := by decide +kernel
theorem dX11_test_112 : decode cX11_test 112 = .ok (.iconst 0, 1) := by decide +kernel
theorem dX11_test_113 : decode cX11_test 113 = .ok (.iastore, 1) := by decide +kernel
theorem dX11_test_114 : decode cX11_test 114 = .ok (.iinc 6 1, 3) := by decide +kernel
theorem dX11_test_117 : decode cX11_test 117 = .ok (.goto (-38), 3) := by decide +kernel
theorem dX11_test_120 : decode cX11_test 120 = .ok (.iconst 0, 1) := by decide +kernel
theorem dX11_test_121 : decode cX11_test 121 = .ok (.istore 6, 2) := by decide +kernel
theorem dX11_test_123 : decode cX11_test 123 = .ok (.iload 6, 2) := by decide +kernel
theorem dX11_test_125 : decode cX11_test 125 = .ok (.aload_n 0, 1) := by decide +kernel
theorem dX11_test_126 : decode cX11_test 126 = .ok (.getfield 179, 3) := by decide +kernel
theorem dX11_test_129 : decode cX11_test 129 = .ok (.if_icmp .ge 94, 3) := by decide +kernel
theorem dX11_test_132 : decode cX11_test 132 = .ok (.iload_n 3, 1) := by decide +kernel
theorem dX11_test_133 : decode cX11_test 133 = .ok (.iconst (-1), 1) := by decide +kernel
theorem dX11_test_134 : decode cX11_test 134 = .ok (.if_icmp .eq 19, 3) := by decide +kernel
theorem dX11_test_137 : decode cX11_test 137 = .ok (.aload_n 0, 1) := by decide +kernel
theorem dX11_test_138 : decode cX11_test 138 = .ok (.getfield 13, 3) := by decide +kernel
theorem dX11_test_141 : decode cX11_test 141 = .ok (.iconst 5, 1) := by decide +kernel
theorem dX11_test_142 : decode cX11_test 142 = .ok (.iload 6, 2) := by decide +kernel
theorem dX11_test_144 : decode cX11_test 144 = .ok (.imul, 1) := by decide +kernel
theorem dX11_test_145 : decode cX11_test 145 = .ok (.iload_n 3, 1) := by decide +kernel
theorem dX11_test_146 : decode cX11_test 146 = .ok (.iadd, 1) := by decide +kernel
theorem dX11_test_147 : decode cX11_test 147 = .ok (.iaload, 1) := by decide +kernel
theorem dX11_test_148 : decode cX11_test 148 = .ok (.iload 4, 2) := by decide +kernel
theorem dX11_test_150 : decode cX11_test 150 = .ok (.if_icmp .ne 67, 3) := by decide +kernel
theorem dX11_test_153 : decode cX11_test 153 = .ok (.aload_n 0, 1) := by decide +kernel
theorem dX11_test_154 : decode cX11_test 154 = .ok (.getfield 13, 3) := by decide +kernel
theorem dX11_test_157 : decode cX11_test 157 = .ok (.iconst 5, 1) := by decide +kernel
theorem dX11_test_158 : decode cX11_test 158 = .ok (.iload 6, 2) := by decide +kernel
theorem dX11_test_160 : decode cX11_test 160 = .ok (.imul, 1) := by decide +kernel
theorem dX11_test_161 : decode cX11_test 161 = .ok (.iload_n 1, 1) := by decide +kernel
theorem dX11_test_162 : decode cX11_test 162 = .ok (.iadd, 1) := by decide +kernel
theorem dX11_test_163 : decode cX11_test 163 = .ok (.iaload, 1) := by decide +kernel
theorem dX11_test_164 : decode cX11_test 164 = .ok (.istore 7, 2) := by decide +kernel
theorem dX11_test_166 : decode cX11_test 166 = .ok (.aload_n 0, 1) := by decide +kernel
theorem dX11_test_167 : decode cX11_test 167 = .ok (.getfield 13, 3) := by decide +kernel
theorem dX11_test_170 : decode cX11_test 170 = .ok (.iconst 5, 1) := by decide +kernel
theorem dX11_test_171 : decode cX11_test 171 = .ok (.iload 6, 2) := by decide +kernel
theorem dX11_test_173 : decode cX11_test 173 = .ok (.imul, 1) := by decide +kernel
theorem dX11_test_174 : decode cX11_test 174 = .ok (.iload_n 2, 1) := by decide +kernel
theorem dX11_test_175 : decode cX11_test 175 = .ok (.iadd, 1) := by decide +kernel
theorem dX11_test_176 : decode cX11_test 176 = .ok (.iaload, 1) := by decide +kernel
theorem dX11_test_177 : decode cX11_test 177 = .ok (.istore 8, 2) := by decide +kernel
theorem dX11_test_179 : decode cX11_test 179 = .ok (.aload_n 0, 1) := by decide +kernel
theorem dX11_test_180 : decode cX11_test 180 = .ok (.getfield 114, 3) := by decide +kernel
theorem dX11_test_183 : decode cX11_test 183 = .ok (.iload 7, 2) := by decide +kernel
theorem dX11_test_185 : decode cX11_test 185 = .ok (.dup2, 1) := by decide +kernel
theorem dX11_test_186 : decode cX11_test 186 = .ok (.iaload, 1) := by decide +kernel
theorem dX11_test_187 : decode cX11_test 187 = .ok (.iconst 1, 1) := by decide +kernel
theorem dX11_test_188 : decode cX11_test 188 = .ok (.iadd, 1) := by decide +kernel
theorem dX11_test_189 : decode cX11_test 189 = .ok (.iastore, 1) := by decide +kernel
theorem dX11_test_190 : decode cX11_test 190 = .ok (.aload_n 0, 1) := by decide +kernel
theorem dX11_test_191 : decode cX11_test 191 = .ok (.getfield 117, 3) := by decide +kernel
theorem dX11_test_194 : decode cX11_test 194 = .ok (.iload 8, 2) := by decide +kernel
theorem dX11_test_196 : decode cX11_test 196 = .ok (.dup2, 1) := by decide +kernel
theorem dX11_test_197 : decode cX11_test 197 = .ok (.iaload, 1) := by decide +kernel
theorem dX11_test_198 : decode cX11_test 198 = .ok (.iconst 1, 1) := by decide +kernel
theorem dX11_test_199 : decode cX11_test 199 = .ok (.iadd, 1) := by decide +kernel
theorem dX11_test_200 : decode cX11_test 200 = .ok (.iastore, 1) := by decide +kernel
theorem dX11_test_201 : decode cX11_test 201 = .ok (.aload_n 0, 1) := by decide +kernel
theorem dX11_test_202 : decode cX11_test 202 = .ok (.getfield 120, 3) := by decide +kernel
theorem dX11_test_205 : decode cX11_test 205 = .ok (.iconst 3, 1) := by decide +kernel
theorem dX11_test_206 : decode cX11_test 206 = .ok (.iload 7, 2) := by decide +kernel
theorem dX11_test_208 : decode cX11_test 208 = .ok (.imul, 1) := by decide +kernel
theorem dX11_test_209 : decode cX11_test 209 = .ok (.iload 8, 2) := by decide +kernel
theorem dX11_test_211 : decode cX11_test 211 = .ok (.iadd, 1) := by decide +kernel
theorem dX11_test_212 : decode cX11_test 212 = .ok (.dup2, 1) := by decide +kernel
theorem dX11_test_213 : decode cX11_test 213 = .ok (.iaload, 1) := by decide +kernel
theorem dX11_test_214 : decode cX11_test 214 = .ok (.iconst 1, 1) := by decide +kernel
theorem dX11_test_215 : decode cX11_test 215 = .ok (.iadd, 1) := by decide +kernel
theorem dX11_test_216 : decode cX11_test 216 = .ok (.iastore, 1) := by decide +kernel
theorem dX11_test_217 : decode cX11_test 217 = .ok (.iinc 6 1, 3) := by decide +kernel
theorem dX11_test_220 : decode cX11_test 220 = .ok (.goto (-97), 3) := by decide +kernel
theorem dX11_test_223 : decode cX11_test 223 = .ok (.iload 5, 2) := by decide +kernel
theorem dX11_test_225 : decode cX11_test 225 = .ok (.iconst 1, 1) := by decide +kernel
theorem dX11_test_226 : decode cX11_test 226 = .ok (.if_icmp .ne 25, 3) := by decide +kernel
theorem dX11_test_229 : decode cX11_test 229 = .ok (.aload_n 0, 1) := by decide +kernel
theorem dX11_test_230 : decode cX11_test 230 = .ok (.getfield 117, 3) := by decide +kernel
theorem dX11_test_233 : decode cX11_test 233 = .ok (.iconst 0, 1) := by decide +kernel
theorem dX11_test_234 : decode cX11_test 234 = .ok (.iaload, 1) := by decide +kernel
theorem dX11_test_235 : decode cX11_test 235 = .ok (.aload_n 0, 1) := by decide +kernel
theorem dX11_test_236 : decode cX11_test 236 = .ok (.getfield 117, 3) := by decide +kernel
theorem dX11_test_239 : decode cX11_test 239 = .ok (.iconst 1, 1) := by decide +kernel
theorem dX11_test_240 : decode cX11_test 240 = .ok (.iaload, 1) := by decide +kernel
theorem dX11_test_241 : decode cX11_test 241 = .ok (.aload_n 0, 1) := by decide +kernel
theorem dX11_test_242 : decode cX11_test 242 = .ok (.getfield 117, 3) := by decide +kernel
theorem dX11_test_245 : decode cX11_test 245 = .ok (.iconst 2, 1) := by decide +kernel
theorem dX11_test_246 : decode cX11_test 246 = .ok (.iaload, 1) := by decide +kernel
theorem dX11_test_247 : decode cX11_test 247 = .ok (.invokestatic 304, 3) := by decide +kernel
theorem dX11_test_250 : decode cX11_test 250 = .ok (.lreturn, 1) := by decide +kernel
theorem dX11_test_251 : decode cX11_test 251 = .ok (.aload_n 0, 1) := by decide +kernel
theorem dX11_test_252 : decode cX11_test 252 = .ok (.getfield 120, 3) := by decide +kernel
theorem dX11_test_255 : decode cX11_test 255 = .ok (.iconst 0, 1) := by decide +kernel
theorem dX11_test_256 : decode cX11_test 256 = .ok (.iaload, 1) := by decide +kernel
theorem dX11_test_257 : decode cX11_test 257 = .ok (.aload_n 0, 1) := by decide +kernel
theorem dX11_test_258 : decode cX11_test 258 = .ok (.getfield 120, 3) := by decide +kernel
theorem dX11_test_261 : decode cX11_test 261 = .ok (.iconst 1, 1) := by decide +kernel
theorem dX11_test_262 : decode cX11_test 262 = .ok (.iaload, 1) := by decide +kernel
theorem dX11_test_263 : decode cX11_test 263 = .ok (.aload_n 0, 1) := by decide +kernel
theorem dX11_test_264 : decode cX11_test 264 = .ok (.getfield 120, 3) := by decide +kernel
theorem dX11_test_267 : decode cX11_test 267 = .ok (.iconst 2, 1) := by decide +kernel
theorem dX11_test_268 : decode cX11_test 268 = .ok (.iaload, 1) := by decide +kernel
theorem dX11_test_269 : decode cX11_test 269 = .ok (.invokestatic 304, 3) := by decide +kernel
theorem dX11_test_272 : decode cX11_test 272 = .ok (.aload_n 0, 1) := by decide +kernel
theorem dX11_test_273 : decode cX11_test 273 = .ok (.getfield 120, 3) := by decide +kernel
theorem dX11_test_276 : decode cX11_test 276 = .ok (.iconst 3, 1) := by decide +kernel
theorem dX11_test_277 : decode cX11_test 277 = .ok (.iaload, 1) := by decide +kernel
theorem dX11_test_278 : decode cX11_test 278 = .ok (.aload_n 0, 1) := by decide +kernel
theorem dX11_test_279 : decode cX11_test 279 = .ok (.getfield 120, 3) := by decide +kernel
theorem dX11_test_282 : decode cX11_test 282 = .ok (.iconst 4, 1) := by decide +kernel
theorem dX11_test_283 : decode cX11_test 283 = .ok (.iaload, 1) := by decide +kernel
theorem dX11_test_284 : decode cX11_test 284 = .ok (.aload_n 0, 1) := by decide +kernel
theorem dX11_test_285 : decode cX11_test 285 = .ok (.getfield 120, 3) := by decide +kernel
theorem dX11_test_288 : decode cX11_test 288 = .ok (.iconst 5, 1) := by decide +kernel
theorem dX11_test_289 : decode cX11_test 289 = .ok (.iaload, 1) := by decide +kernel
theorem dX11_test_290 : decode cX11_test 290 = .ok (.invokestatic 304, 3) := by decide +kernel
theorem dX11_test_293 : decode cX11_test 293 = .ok (.lmul, 1) := by decide +kernel
theorem dX11_test_294 : decode cX11_test 294 = .ok (.aload_n 0, 1) := by decide +kernel
theorem dX11_test_295 : decode cX11_test 295 = .ok (.getfield 120, 3) := by decide +kernel
theorem dX11_test_298 : decode cX11_test 298 = .ok (.bipush 6, 2) := by decide +kernel
theorem dX11_test_300 : decode cX11_test 300 = .ok (.iaload, 1) := by decide +kernel
theorem dX11_test_301 : decode cX11_test 301 = .ok (.aload_n 0, 1) := by decide +kernel
theorem dX11_test_302 : decode cX11_test 302 = .ok (.getfield 120, 3) := by decide +kernel
theorem dX11_test_305 : decode cX11_test 305 = .ok (.bipush 7, 2) := by decide +kernel
theorem dX11_test_307 : decode cX11_test 307 = .ok (.iaload, 1) := by decide +kernel
theorem dX11_test_308 : decode cX11_test 308 = .ok (.aload_n 0, 1) := by decide +kernel
theorem dX11_test_309 : decode cX11_test 309 = .ok (.getfield 120, 3) := by decide +kernel
theorem dX11_test_312 : decode cX11_test 312 = .ok (.bipush 8, 2) := by decide +kernel
theorem dX11_test_314 : decode cX11_test 314 = .ok (.iaload, 1) := by decide +kernel
theorem dX11_test_315 : decode cX11_test 315 = .ok (.invokestatic 304, 3) := by decide +kernel
theorem dX11_test_318 : decode cX11_test 318 = .ok (.lmul, 1) := by decide +kernel
theorem dX11_test_319 : decode cX11_test 319 = .ok (.lstore 6, 2) := by decide +kernel
theorem dX11_test_321 : decode cX11_test 321 = .ok (.lconst 0, 1) := by decide +kernel
theorem dX11_test_322 : decode cX11_test 322 = .ok (.lstore 8, 2) := by decide +kernel
theorem dX11_test_324 : decode cX11_test 324 = .ok (.iconst 0, 1) := by decide +kernel
theorem dX11_test_325 : decode cX11_test 325 = .ok (.istore 10, 2) := by decide +kernel
theorem dX11_test_327 : decode cX11_test 327 = .ok (.iload 10, 2) := by decide +kernel
theorem dX11_test_329 : decode cX11_test 329 = .ok (.aload_n 0, 1) := by decide +kernel
theorem dX11_test_330 : decode cX11_test 330 = .ok (.getfield 114, 3) := by decide +kernel
theorem dX11_test_333 : decode cX11_test 333 = .ok (.iconst 0, 1) := by decide +kernel
theorem dX11_test_334 : decode cX11_test 334 = .ok (.iaload, 1) := by decide +kernel
theorem dX11_test_335 : decode cX11_test 335 = .ok (.aload_n 0, 1) := by decide +kernel
theorem dX11_test_336 : decode cX11_test 336 = .ok (.getfield 117, 3) := by decide +kernel
theorem dX11_test_339 : decode cX11_test 339 = .ok (.iconst 0, 1) := by decide +kernel
theorem dX11_test_340 : decode cX11_test 340 = .ok (.iaload, 1) := by decide +kernel
theorem dX11_test_341 : decode cX11_test 341 = .ok (.invokestatic 308, 3) := by decide +kernel
theorem dX11_test_344 : decode cX11_test 344 = .ok (.if_icmp .gt 241, 3) := by decide +kernel
theorem dX11_test_347 : decode cX11_test 347 = .ok (.iconst 0, 1) := by decide +kernel
theorem dX11_test_348 : decode cX11_test 348 = .ok (.istore 11, 2) := by decide +kernel
theorem dX11_test_350 : decode cX11_test 350 = .ok (.iload 11, 2) := by decide +kernel
theorem dX11_test_352 : decode cX11_test 352 = .ok (.aload_n 0, 1) := by decide +kernel
theorem dX11_test_353 : decode cX11_test 353 = .ok (.getfield 114, 3) := by decide +kernel
theorem dX11_test_356 : decode cX11_test 356 = .ok (.iconst 0, 1) := by decide +kernel
theorem dX11_test_357 : decode cX11_test 357 = .ok (.iaload, 1) := by decide +kernel
theorem dX11_test_358 : decode cX11_test 358 = .ok (.iload 10, 2) := by decide +kernel
theorem dX11_test_360 : decode cX11_test 360 = .ok (.isub, 1) := by decide +kernel
theorem dX11_test_361 : decode cX11_test 361 = .ok (.aload_n 0, 1) := by decide +kernel
theorem dX11_test_362 : decode cX11_test 362 = .ok (.getfield 117, 3) := by decide +kernel
theorem dX11_test_365 : decode cX11_test 365 = .ok (.iconst 1, 1) := by decide +kernel
theorem dX11_test_366 : decode cX11_test 366 = .ok (.iaload, 1) := by decide +kernel
theorem dX11_test_367 : decode cX11_test 367 = .ok (.invokestatic 308, 3) := by decide +kernel
theorem dX11_test_370 : decode cX11_test 370 = .ok (.if_icmp .gt 209, 3) := by decide +kernel
theorem dX11_test_373 : decode cX11_test 373 = .ok (.aload_n 0, 1) := by decide +kernel
theorem dX11_test_374 : decode cX11_test 374 = .ok (.getfield 114, 3) := by decide +kernel
theorem dX11_test_377 : decode cX11_test 377 = .ok (.iconst 0, 1) := by decide +kernel
theorem dX11_test_378 : decode cX11_test 378 = .ok (.iaload, 1) := by decide +kernel
theorem dX11_test_379 : decode cX11_test 379 = .ok (.iload 10, 2) := by decide +kernel
theorem dX11_test_381 : decode cX11_test 381 = .ok (.isub, 1) := by decide +kernel
theorem dX11_test_382 : decode cX11_test 382 = .ok (.iload 11, 2) := by decide +kernel
theorem dX11_test_384 : decode cX11_test 384 = .ok (.isub, 1) := by decide +kernel
theorem dX11_test_385 : decode cX11_test 385 = .ok (.istore 12, 2) := by decide +kernel
theorem dX11_test_387 : decode cX11_test 387 = .ok (.iconst 0, 1) := by decide +kernel
theorem dX11_test_388 : decode cX11_test 388 = .ok (.istore 13, 2) := by decide +kernel
theorem dX11_test_390 : decode cX11_test 390 = .ok (.iload 12, 2) := by decide +kernel
theorem dX11_test_392 : decode cX11_test 392 = .ok (.aload_n 0, 1) := by decide +kernel
theorem dX11_test_393 : decode cX11_test 393 = .ok (.getfield 117, 3) := by decide +kernel
theorem dX11_test_396 : decode cX11_test 396 = .ok (.iconst 2, 1) := by decide +kernel
theorem dX11_test_397 : decode cX11_test 397 = .ok (.iaload, 1) := by decide +kernel
theorem dX11_test_398 : decode cX11_test 398 = .ok (.if_icmp .gt 175, 3) := by decide +kernel
theorem dX11_test_401 : decode cX11_test 401 = .ok (.iload 13, 2) := by decide +kernel
theorem dX11_test_403 : decode cX11_test 403 = .ok (.aload_n 0, 1) := by decide +kernel
theorem dX11_test_404 : decode cX11_test 404 = .ok (.getfield 114, 3) := by decide +kernel
theorem dX11_test_407 : decode cX11_test 407 = .ok (.iconst 1, 1) := by decide +kernel
theorem dX11_test_408 : decode cX11_test 408 = .ok (.iaload, 1) := by decide +kernel
theorem dX11_test_409 : decode cX11_test 409 = .ok (.aload_n 0, 1) := by decide +kernel
theorem dX11_test_410 : decode cX11_test 410 = .ok (.getfield 117, 3) := by decide +kernel
theorem dX11_test_413 : decode cX11_test 413 = .ok (.iconst 0, 1) := by decide +kernel
theorem dX11_test_414 : decode cX11_test 414 = .ok (.iaload, 1) := by decide +kernel
theorem dX11_test_415 : decode cX11_test 415 = .ok (.iload 10, 2) := by decide +kernel
theorem dX11_test_417 : decode cX11_test 417 = .ok (.isub, 1) := by decide +kernel
theorem dX11_test_418 : decode cX11_test 418 = .ok (.invokestatic 308, 3) := by decide +kernel
theorem dX11_test_421 : decode cX11_test 421 = .ok (.if_icmp .gt 152, 3) := by decide +kernel
theorem dX11_test_424 : decode cX11_test 424 = .ok (.iconst 0, 1) := by decide +kernel
theorem dX11_test_425 : decode cX11_test 425 = .ok (.istore 14, 2) := by decide +kernel
theorem dX11_test_427 : decode cX11_test 427 = .ok (.iload 14, 2) := by decide +kernel
theorem dX11_test_429 : decode cX11_test 429 = .ok (.aload_n 0, 1) := by decide +kernel
theorem dX11_test_430 : decode cX11_test 430 = .ok (.getfield 114, 3) := by decide +kernel
theorem dX11_test_433 : decode cX11_test 433 = .ok (.iconst 1, 1) := by decide +kernel
theorem dX11_test_434 : decode cX11_test 434 = .ok (.iaload, 1) := by decide +kernel
theorem dX11_test_435 : decode cX11_test 435 = .ok (.iload 13, 2) := by decide +kernel
theorem dX11_test_437 : decode cX11_test 437 = .ok (.isub, 1) := by decide +kernel
theorem dX11_test_438 : decode cX11_test 438 = .ok (.aload_n 0, 1) := by decide +kernel
theorem dX11_test_439 : decode cX11_test 439 = .ok (.getfield 117, 3) := by decide +kernel
theorem dX11_test_442 : decode cX11_test 442 = .ok (.iconst 1, 1) := by decide +kernel
theorem dX11_test_443 : decode cX11_test 443 = .ok (.iaload, 1) := by decide +kernel
theorem dX11_test_444 : decode cX11_test 444 = .ok (.iload 11, 2) := by decide +kernel
theorem dX11_test_446 : decode cX11_test 446 = .ok (.isub, 1) := by decide +kernel
theorem dX11_test_447 : decode cX11_test 447 = .ok (.invokestatic 308, 3) := by decide +kernel
theorem dX11_test_450 : decode cX11_test 450 = .ok (.if_icmp .gt 117, 3) := by decide +kernel
theorem dX11_test_453 : decode cX11_test 453 = .ok (.aload_n 0, 1) := by decide +kernel
theorem dX11_test_454 : decode cX11_test 454 = .ok (.getfield 114, 3) := by decide +kernel
theorem dX11_test_457 : decode cX11_test 457 = .ok (.iconst 1, 1) := by decide +kernel
theorem dX11_test_458 : decode cX11_test 458 = .ok (.iaload, 1) := by decide +kernel
theorem dX11_test_459 : decode cX11_test 459 = .ok (.iload 13, 2) := by decide +kernel
theorem dX11_test_461 : decode cX11_test 461 = .ok (.isub, 1) := by decide +kernel
theorem dX11_test_462 : decode cX11_test 462 = .ok (.iload 14, 2) := by decide +kernel
theorem dX11_test_464 : decode cX11_test 464 = .ok (.isub, 1) := by decide +kernel
theorem dX11_test_465 : decode cX11_test 465 = .ok (.istore 15, 2) := by decide +kernel
theorem dX11_test_467 : decode cX11_test 467 = .ok (.iload 15, 2) := by decide +kernel
theorem dX11_test_469 : decode cX11_test 469 = .ok (.aload_n 0, 1) := by decide +kernel
theorem dX11_test_470 : decode cX11_test 470 = .ok (.getfield 117, 3) := by decide +kernel
theorem dX11_test_473 : decode cX11_test 473 = .ok (.iconst 2, 1) := by decide +kernel
theorem dX11_test_474 : decode cX11_test 474 = .ok (.iaload, 1) := by decide +kernel
theorem dX11_test_475 : decode cX11_test 475 = .ok (.iload 12, 2) := by decide +kernel
theorem dX11_test_477 : decode cX11_test 477 = .ok (.isub, 1) := by decide +kernel
theorem dX11_test_478 : decode cX11_test 478 = .ok (.if_icmp .gt 83, 3) := by decide +kernel
theorem dX11_test_481 : decode cX11_test 481 = .ok (.iload 10, 2) := by decide +kernel
theorem dX11_test_483 : decode cX11_test 483 = .ok (.iload 11, 2) := by decide +kernel
theorem dX11_test_485 : decode cX11_test 485 = .ok (.iload 12, 2) := by decide +kernel
theorem dX11_test_487 : decode cX11_test 487 = .ok (.invokestatic 304, 3) := by decide +kernel
theorem dX11_test_490 : decode cX11_test 490 = .ok (.iload 13, 2) := by decide +kernel
theorem dX11_test_492 : decode cX11_test 492 = .ok (.iload 14, 2) := by decide +kernel
theorem dX11_test_494 : decode cX11_test 494 = .ok (.iload 15, 2) := by decide +kernel
theorem dX11_test_496 : decode cX11_test 496 = .ok (.invokestatic 304, 3) := by decide +kernel
theorem dX11_test_499 : decode cX11_test 499 = .ok (.lmul, 1) := by decide +kernel
theorem dX11_test_500 : decode cX11_test 500 = .ok (.aload_n 0, 1) := by decide +kernel
theorem dX11_test_501 : decode cX11_test 501 = .ok (.getfield 117, 3) := by decide +kernel
theorem dX11_test_504 : decode cX11_test 504 = .ok (.iconst 0, 1) := by decide +kernel
theorem dX11_test_505 : decode cX11_test 505 = .ok (.iaload, 1) := by decide +kernel
theorem dX11_test_506 : decode cX11_test 506 = .ok (.iload 10, 2) := by decide +kernel
theorem dX11_test_508 : decode cX11_test 508 = .ok (.isub, 1) := by decide +kernel
theorem dX11_test_509 : decode cX11_test 509 = .ok (.iload 13, 2) := by decide +kernel
theorem dX11_test_511 : decode cX11_test 511 = .ok (.isub, 1) := by decide +kernel
theorem dX11_test_512 : decode cX11_test 512 = .ok (.aload_n 0, 1) := by decide +kernel
theorem dX11_test_513 : decode cX11_test 513 = .ok (.getfield 117, 3) := by decide +kernel
theorem dX11_test_516 : decode cX11_test 516 = .ok (.iconst 1, 1) := by decide +kernel
theorem dX11_test_517 : decode cX11_test 517 = .ok (.iaload, 1) := by decide +kernel
theorem dX11_test_518 : decode cX11_test 518 = .ok (.iload 11, 2) := by decide +kernel
theorem dX11_test_520 : decode cX11_test 520 = .ok (.isub, 1) := by decide +kernel
theorem dX11_test_521 : decode cX11_test 521 = .ok (.iload 14, 2) := by decide +kernel
theorem dX11_test_523 : decode cX11_test 523 = .ok (.isub, 1) := by decide +kernel
theorem dX11_test_524 : decode cX11_test 524 = .ok (.aload_n 0, 1) := by decide +kernel
theorem dX11_test_525 : decode cX11_test 525 = .ok (.getfield 117, 3) := by decide +kernel
theorem dX11_test_528 : decode cX11_test 528 = .ok (.iconst 2, 1) := by decide +kernel
theorem dX11_test_529 : decode cX11_test 529 = .ok (.iaload, 1) := by decide +kernel
theorem dX11_test_530 : decode cX11_test 530 = .ok (.iload 12, 2) := by decide +kernel
theorem dX11_test_532 : decode cX11_test 532 = .ok (.isub, 1) := by decide +kernel
theorem dX11_test_533 : decode cX11_test 533 = .ok (.iload 15, 2) := by decide +kernel
theorem dX11_test_535 : decode cX11_test 535 = .ok (.isub, 1) := by decide +kernel
theorem dX11_test_536 : decode cX11_test 536 = .ok (.invokestatic 304, 3) := by decide +kernel
theorem dX11_test_539 : decode cX11_test 539 = .ok (.lmul, 1) := by decide +kernel
theorem dX11_test_540 : decode cX11_test 540 = .ok (.lstore 16, 2) := by decide +kernel
theorem dX11_test_542 : decode cX11_test 542 = .ok (.lload 8, 2) := by decide +kernel
theorem dX11_test_544 : decode cX11_test 544 = .ok (.lload 16, 2) := by decide +kernel
theorem dX11_test_546 : decode cX11_test 546 = .ok (.lload 6, 2) := by decide +kernel
theorem dX11_test_548 : decode cX11_test 548 = .ok (.lcmp, 1) := by decide +kernel
theorem dX11_test_549 : decode cX11_test 549 = .ok (.ifCond .gt 8, 3) := by decide +kernel
theorem dX11_test_552 : decode cX11_test 552 = .ok (.lload 16, 2) := by decide +kernel
theorem dX11_test_554 : decode cX11_test 554 = .ok (.goto 4, 3) := by decide +kernel
theorem dX11_test_557 : decode cX11_test 557 = .ok (.lconst 0, 1) := by decide +kernel
theorem dX11_test_558 : decode cX11_test 558 = .ok (.ladd, 1) := by decide +kernel
theorem dX11_test_559 : decode cX11_test 559 = .ok (.lstore 8, 2) := by decide +kernel
theorem dX11_test_561 : decode cX11_test 561 = .ok (.iinc 14 1, 3) := by decide +kernel
theorem dX11_test_564 : decode cX11_test 564 = .ok (.goto (-137), 3) := by decide +kernel
theorem dX11_test_567 : decode cX11_test 567 = .ok (.iinc 13 1, 3) := by decide +kernel
theorem dX11_test_570 : decode cX11_test 570 = .ok (.goto (-180), 3) := by decide +kernel
theorem dX11_test_573 : decode cX11_test 573 = .ok (.iinc 11 1, 3) := by decide +kernel
theorem dX11_test_576 : decode cX11_test 576 = .ok (.goto (-226), 3) := by decide +kernel
theorem dX11_test_579 : decode cX11_test 579 = .ok (.iinc 10 1, 3) := by decide +kernel
theorem dX11_test_582 : decode cX11_test 582 = .ok (.goto (-255), 3) := by decide +kernel
theorem dX11_test_585 : decode cX11_test 585 = .ok (.lload 8, 2) := by decide +kernel
theorem dX11_test_587 : decode cX11_test 587 = .ok (.lreturn, 1) := by decide +kernel
theorem dJ6_bitCount_0f7a4_0 : decode cJ6_bitCount_0f7a4 0 = .ok (.iload_n 0, 1) := by decide +kernel
theorem dJ6_bitCount_0f7a4_1 : decode cJ6_bitCount_0f7a4 1 = .ok (.iload_n 0, 1) := by decide +kernel
theorem dJ6_bitCount_0f7a4_2 : decode cJ6_bitCount_0f7a4 2 = .ok (.iconst 1, 1) := by decide +kernel
theorem dJ6_bitCount_0f7a4_3 : decode cJ6_bitCount_0f7a4 3 = .ok (.iushr, 1) := by decide +kernel
theorem dJ6_bitCount_0f7a4_4 : decode cJ6_bitCount_0f7a4 4 = .ok (.ldc_w 265, 3) := by decide +kernel
theorem dJ6_bitCount_0f7a4_7 : decode cJ6_bitCount_0f7a4 7 = .ok (.iand, 1) := by decide +kernel
theorem dJ6_bitCount_0f7a4_8 : decode cJ6_bitCount_0f7a4 8 = .ok (.isub, 1) := by decide +kernel
theorem dJ6_bitCount_0f7a4_9 : decode cJ6_bitCount_0f7a4 9 = .ok (.istore_n 0, 1) := by decide +kernel
theorem dJ6_bitCount_0f7a4_10 : decode cJ6_bitCount_0f7a4 10 = .ok (.iload_n 0, 1) := by decide +kernel
theorem dJ6_bitCount_0f7a4_11 : decode cJ6_bitCount_0f7a4 11 = .ok (.ldc_w 266, 3) := by decide +kernel
theorem dJ6_bitCount_0f7a4_14 : decode cJ6_bitCount_0f7a4 14 = .ok (.iand, 1) := by decide +kernel
theorem dJ6_bitCount_0f7a4_15 : decode cJ6_bitCount_0f7a4 15 = .ok (.iload_n 0, 1) := by decide +kernel
theorem dJ6_bitCount_0f7a4_16 : decode cJ6_bitCount_0f7a4 16 = .ok (.iconst 2, 1) := by decide +kernel
theorem dJ6_bitCount_0f7a4_17 : decode cJ6_bitCount_0f7a4 17 = .ok (.iushr, 1) := by decide +kernel
theorem dJ6_bitCount_0f7a4_18 : decode cJ6_bitCount_0f7a4 18 = .ok (.ldc_w 266, 3) := by decide +kernel
theorem dJ6_bitCount_0f7a4_21 : decode cJ6_bitCount_0f7a4 21 = .ok (.iand, 1) := by decide +kernel
theorem dJ6_bitCount_0f7a4_22 : decode cJ6_bitCount_0f7a4 22 = .ok (.iadd, 1) := by decide +kernel
theorem dJ6_bitCount_0f7a4_23 : decode cJ6_bitCount_0f7a4 23 = .ok (.istore_n 0, 1) := by decide +kernel
theorem dJ6_bitCount_0f7a4_24 : decode cJ6_bitCount_0f7a4 24 = .ok (.iload_n 0, 1) := by decide +kernel
theorem dJ6_bitCount_0f7a4_25 : decode cJ6_bitCount_0f7a4 25 = .ok (.iload_n 0, 1) := by decide +kernel
theorem dJ6_bitCount_0f7a4_26 : decode cJ6_bitCount_0f7a4 26 = .ok (.iconst 4, 1) := by decide +kernel
theorem dJ6_bitCount_0f7a4_27 : decode cJ6_bitCount_0f7a4 27 = .ok (.iushr, 1) := by decide +kernel
theorem dJ6_bitCount_0f7a4_28 : decode cJ6_bitCount_0f7a4 28 = .ok (.iadd, 1) := by decide +kernel
theorem dJ6_bitCount_0f7a4_29 : decode cJ6_bitCount_0f7a4 29 = .ok (.ldc_w 267, 3) := by decide +kernel
theorem dJ6_bitCount_0f7a4_32 : decode cJ6_bitCount_0f7a4 32 = .ok (.iand, 1) := by decide +kernel
theorem dJ6_bitCount_0f7a4_33 : decode cJ6_bitCount_0f7a4 33 = .ok (.istore_n 0, 1) := by decide +kernel
theorem dJ6_bitCount_0f7a4_34 : decode cJ6_bitCount_0f7a4 34 = .ok (.iload_n 0, 1) := by decide +kernel
theorem dJ6_bitCount_0f7a4_35 : decode cJ6_bitCount_0f7a4 35 = .ok (.iload_n 0, 1) := by decide +kernel
theorem dJ6_bitCount_0f7a4_36 : decode cJ6_bitCount_0f7a4 36 = .ok (.bipush 8, 2) := by decide +kernel
theorem dJ6_bitCount_0f7a4_38 : decode cJ6_bitCount_0f7a4 38 = .ok (.iushr, 1) := by decide +kernel
theorem dJ6_bitCount_0f7a4_39 : decode cJ6_bitCount_0f7a4 39 = .ok (.iadd, 1) := by decide +kernel
theorem dJ6_bitCount_0f7a4_40 : decode cJ6_bitCount_0f7a4 40 = .ok (.istore_n 0, 1) := by decide +kernel
theorem dJ6_bitCount_0f7a4_41 : decode cJ6_bitCount_0f7a4 41 = .ok (.iload_n 0, 1) := by decide +kernel
theorem dJ6_bitCount_0f7a4_42 : decode cJ6_bitCount_0f7a4 42 = .ok (.iload_n 0, 1) := by decide +kernel
theorem dJ6_bitCount_0f7a4_43 : decode cJ6_bitCount_0f7a4 43 = .ok (.bipush 16, 2) := by decide +kernel
theorem dJ6_bitCount_0f7a4_45 : decode cJ6_bitCount_0f7a4 45 = .ok (.iushr, 1) := by decide +kernel
theorem dJ6_bitCount_0f7a4_46 : decode cJ6_bitCount_0f7a4 46 = .ok (.iadd, 1) := by decide +kernel
theorem dJ6_bitCount_0f7a4_47 : decode cJ6_bitCount_0f7a4 47 = .ok (.istore_n 0, 1) := by decide +kernel
theorem dJ6_bitCount_0f7a4_48 : decode cJ6_bitCount_0f7a4 48 = .ok (.iload_n 0, 1) := by decide +kernel
theorem dJ6_bitCount_0f7a4_49 : decode cJ6_bitCount_0f7a4 49 = .ok (.bipush 63, 2) := by decide +kernel
theorem dJ6_bitCount_0f7a4_51 : decode cJ6_bitCount_0f7a4 51 = .ok (.iand, 1) := by decide +kernel
theorem dJ6_bitCount_0f7a4_52 : decode cJ6_bitCount_0f7a4 52 = .ok (.ireturn, 1) := by decide +kernel
theorem dJ13_bitCount_95d88_0 : decode cJ13_bitCount_95d88 0 = .ok (.lload_n 0, 1) := by decide +kernel
theorem dJ13_bitCount_95d88_1 : decode cJ13_bitCount_95d88 1 = .ok (.lload_n 0, 1) := by decide +kernel
theorem dJ13_bitCount_95d88_2 : decode cJ13_bitCount_95d88 2 = .ok (.iconst 1, 1) := by decide +kernel
theorem dJ13_bitCount_95d88_3 : decode cJ13_bitCount_95d88 3 = .ok (.lushr, 1) := by decide +kernel
theorem dJ13_bitCount_95d88_4 : decode cJ13_bitCount_95d88 4 = .ok (.ldc2_w 314, 3) := by decide +kernel
theorem dJ13_bitCount_95d88_7 : decode cJ13_bitCount_95d88 7 = .ok (.land, 1) := by decide +kernel
theorem dJ13_bitCount_95d88_8 : decode cJ13_bitCount_95d88 8 = .ok (.lsub, 1) := by decide +kernel
theorem dJ13_bitCount_95d88_9 : decode cJ13_bitCount_95d88 9 = .ok (.lstore_n 0, 1) := by decide +kernel
theorem dJ13_bitCount_95d88_10 : decode cJ13_bitCount_95d88 10 = .ok (.lload_n 0, 1) := by decide +kernel
theorem dJ13_bitCount_95d88_11 : decode cJ13_bitCount_95d88 11 = .ok (.ldc2_w 316, 3) := by decide +kernel
theorem dJ13_bitCount_95d88_14 : decode cJ13_bitCount_95d88 14 = .ok (.land, 1) := by decide +kernel
theorem dJ13_bitCount_95d88_15 : decode cJ13_bitCount_95d88 15 = .ok (.lload_n 0, 1) := by decide +kernel
theorem dJ13_bitCount_95d88_16 : decode cJ13_bitCount_95d88 16 = .ok (.iconst 2, 1) := by decide +kernel
theorem dJ13_bitCount_95d88_17 : decode cJ13_bitCount_95d88 17 = .ok (.lushr, 1) := by decide +kernel
theorem dJ13_bitCount_95d88_18 : decode cJ13_bitCount_95d88 18 = .ok (.ldc2_w 316, 3) := by decide +kernel
theorem dJ13_bitCount_95d88_21 : decode cJ13_bitCount_95d88 21 = .ok (.land, 1) := by decide +kernel
theorem dJ13_bitCount_95d88_22 : decode cJ13_bitCount_95d88 22 = .ok (.ladd, 1) := by decide +kernel
theorem dJ13_bitCount_95d88_23 : decode cJ13_bitCount_95d88 23 = .ok (.lstore_n 0, 1) := by decide +kernel
theorem dJ13_bitCount_95d88_24 : decode cJ13_bitCount_95d88 24 = .ok (.lload_n 0, 1) := by decide +kernel
theorem dJ13_bitCount_95d88_25 : decode cJ13_bitCount_95d88 25 = .ok (.lload_n 0, 1) := by decide +kernel
theorem dJ13_bitCount_95d88_26 : decode cJ13_bitCount_95d88 26 = .ok (.iconst 4, 1) := by decide +kernel
theorem dJ13_bitCount_95d88_27 : decode cJ13_bitCount_95d88 27 = .ok (.lushr, 1) := by decide +kernel
theorem dJ13_bitCount_95d88_28 : decode cJ13_bitCount_95d88 28 = .ok (.ladd, 1) := by decide +kernel
theorem dJ13_bitCount_95d88_29 : decode cJ13_bitCount_95d88 29 = .ok (.ldc2_w 318, 3) := by decide +kernel
theorem dJ13_bitCount_95d88_32 : decode cJ13_bitCount_95d88 32 = .ok (.land, 1) := by decide +kernel
theorem dJ13_bitCount_95d88_33 : decode cJ13_bitCount_95d88 33 = .ok (.lstore_n 0, 1) := by decide +kernel
theorem dJ13_bitCount_95d88_34 : decode cJ13_bitCount_95d88 34 = .ok (.lload_n 0, 1) := by decide +kernel
theorem dJ13_bitCount_95d88_35 : decode cJ13_bitCount_95d88 35 = .ok (.lload_n 0, 1) := by decide +kernel
theorem dJ13_bitCount_95d88_36 : decode cJ13_bitCount_95d88 36 = .ok (.bipush 8, 2) := by decide +kernel
theorem dJ13_bitCount_95d88_38 : decode cJ13_bitCount_95d88 38 = .ok (.lushr, 1) := by decide +kernel
theorem dJ13_bitCount_95d88_39 : decode cJ13_bitCount_95d88 39 = .ok (.ladd, 1) := by decide +kernel
theorem dJ13_bitCount_95d88_40 : decode cJ13_bitCount_95d88 40 = .ok (.lstore_n 0, 1) := by decide +kernel
theorem dJ13_bitCount_95d88_41 : decode cJ13_bitCount_95d88 41 = .ok (.lload_n 0, 1) := by decide +kernel
theorem dJ13_bitCount_95d88_42 : decode cJ13_bitCount_95d88 42 = .ok (.lload_n 0, 1) := by decide +kernel
theorem dJ13_bitCount_95d88_43 : decode cJ13_bitCount_95d88 43 = .ok (.bipush 16, 2) := by decide +kernel
theorem dJ13_bitCount_95d88_45 : decode cJ13_bitCount_95d88 45 = .ok (.lushr, 1) := by decide +kernel
theorem dJ13_bitCount_95d88_46 : decode cJ13_bitCount_95d88 46 = .ok (.ladd, 1) := by decide +kernel
theorem dJ13_bitCount_95d88_47 : decode cJ13_bitCount_95d88 47 = .ok (.lstore_n 0, 1) := by decide +kernel
theorem dJ13_bitCount_95d88_48 : decode cJ13_bitCount_95d88 48 = .ok (.lload_n 0, 1) := by decide +kernel
theorem dJ13_bitCount_95d88_49 : decode cJ13_bitCount_95d88 49 = .ok (.lload_n 0, 1) := by decide +kernel
theorem dJ13_bitCount_95d88_50 : decode cJ13_bitCount_95d88 50 = .ok (.bipush 32, 2) := by decide +kernel
theorem dJ13_bitCount_95d88_52 : decode cJ13_bitCount_95d88 52 = .ok (.lushr, 1) := by decide +kernel
theorem dJ13_bitCount_95d88_53 : decode cJ13_bitCount_95d88 53 = .ok (.ladd, 1) := by decide +kernel
theorem dJ13_bitCount_95d88_54 : decode cJ13_bitCount_95d88 54 = .ok (.lstore_n 0, 1) := by decide +kernel
theorem dJ13_bitCount_95d88_55 : decode cJ13_bitCount_95d88 55 = .ok (.lload_n 0, 1) := by decide +kernel
theorem dJ13_bitCount_95d88_56 : decode cJ13_bitCount_95d88 56 = .ok (.l2i, 1) := by decide +kernel
theorem dJ13_bitCount_95d88_57 : decode cJ13_bitCount_95d88 57 = .ok (.bipush 127, 2) := by decide +kernel
theorem dJ13_bitCount_95d88_59 : decode cJ13_bitCount_95d88 59 = .ok (.iand, 1) := by decide +kernel
theorem dJ13_bitCount_95d88_60 : decode cJ13_bitCount_95d88 60 = .ok (.ireturn, 1) := by decide +kernel
theorem dJ9_max_7cf53_0 : decode cJ9_max_7cf53 0 = .ok (.iload_n 0, 1) := by decide +kernel
theorem dJ9_max_7cf53_1 : decode cJ9_max_7cf53 1 = .ok (.iload_n 1, 1) := by decide +kernel
theorem dJ9_max_7cf53_2 : decode cJ9_max_7cf53 2 = .ok (.if_icmp .lt 7, 3) := by decide +kernel
theorem dJ9_max_7cf53_5 : decode cJ9_max_7cf53 5 = .ok (.iload_n 0, 1) := by decide +kernel
theorem dJ9_max_7cf53_6 : decode cJ9_max_7cf53 6 = .ok (.goto 4, 3) := by decide +kernel
theorem dJ9_max_7cf53_9 : decode cJ9_max_7cf53 9 = .ok (.iload_n 1, 1) := by decide +kernel
theorem dJ9_max_7cf53_10 : decode cJ9_max_7cf53 10 = .ok (.ireturn, 1) := by decide +kernel
theorem dJ9_max_f86c9_0 : decode cJ9_max_f86c9 0 = .ok (.lload_n 0, 1) := by decide +kernel
theorem dJ9_max_f86c9_1 : decode cJ9_max_f86c9 1 = .ok (.lload_n 2, 1) := by decide +kernel
theorem dJ9_max_f86c9_2 : decode cJ9_max_f86c9 2 = .ok (.lcmp, 1) := by decide +kernel
theorem dJ9_max_f86c9_3 : decode cJ9_max_f86c9 3 = .ok (.ifCond .lt 7, 3) := by decide +kernel
theorem dJ9_max_f86c9_6 : decode cJ9_max_f86c9 6 = .ok (.lload_n 0, 1) := by decide +kernel
theorem dJ9_max_f86c9_7 : decode cJ9_max_f86c9 7 = .ok (.goto 4, 3) := by decide +kernel
theorem dJ9_max_f86c9_10 : decode cJ9_max_f86c9 10 = .ok (.lload_n 2, 1) := by decide +kernel
theorem dJ9_max_f86c9_11 : decode cJ9_max_f86c9 11 = .ok (.lreturn, 1) := by decide +kernel
theorem dJ9_min_7cf53_0 : decode cJ9_min_7cf53 0 = .ok (.iload_n 0, 1) := by decide +kernel
theorem dJ9_min_7cf53_1 : decode cJ9_min_7cf53 1 = .ok (.iload_n 1, 1) := by decide +kernel
theorem dJ9_min_7cf53_2 : decode cJ9_min_7cf53 2 = .ok (.if_icmp .gt 7, 3) := by decide +kernel
theorem dJ9_min_7cf53_5 : decode cJ9_min_7cf53 5 = .ok (.iload_n 0, 1) := by decide +kernel
theorem dJ9_min_7cf53_6 : decode cJ9_min_7cf53 6 = .ok (.goto 4, 3) := by decide +kernel
theorem dJ9_min_7cf53_9 : decode cJ9_min_7cf53 9 = .ok (.iload_n 1, 1) := by decide +kernel
theorem dJ9_min_7cf53_10 : decode cJ9_min_7cf53 10 = .ok (.ireturn, 1) := by decide +kernel
theorem dJ9_min_f86c9_0 : decode cJ9_min_f86c9 0 = .ok (.lload_n 0, 1) := by decide +kernel
theorem dJ9_min_f86c9_1 : decode cJ9_min_f86c9 1 = .ok (.lload_n 2, 1) := by decide +kernel
theorem dJ9_min_f86c9_2 : decode cJ9_min_f86c9 2 = .ok (.lcmp, 1) := by decide +kernel
theorem dJ9_min_f86c9_3 : decode cJ9_min_f86c9 3 = .ok (.ifCond .gt 7, 3) := by decide +kernel
theorem dJ9_min_f86c9_6 : decode cJ9_min_f86c9 6 = .ok (.lload_n 0, 1) := by decide +kernel
theorem dJ9_min_f86c9_7 : decode cJ9_min_f86c9 7 = .ok (.goto 4, 3) := by decide +kernel
theorem dJ9_min_f86c9_10 : decode cJ9_min_f86c9 10 = .ok (.lload_n 2, 1) := by decide +kernel
theorem dJ9_min_f86c9_11 : decode cJ9_min_f86c9 11 = .ok (.lreturn, 1) := by decide +kernel
