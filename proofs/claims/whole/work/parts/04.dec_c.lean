set_option maxRecDepth 20000 in
theorem ggX10_init_X8_init : GoodIn wsX10_init wsX8_init := goodIn_r _ [27, 28, 2, 3, 29, 30, 31, 32, 33, 34, 6, 35, 36, 37, 38, 39, 99, 100, 101, 102, 103, 104] (by decide +kernel) (by decide +kernel)
set_option maxRecDepth 20000 in
theorem gX10_init_X8_init : GoodIn wsX10_init (wsX8_init) := ggX10_init_X8_init
set_option maxRecDepth 20000 in
theorem ggX10_init_X5_init : GoodIn wsX10_init wsX5_init := goodIn_r _ [42, 43, 2, 3, 29, 44, 45, 111, 112] (by decide +kernel) (by decide +kernel)
set_option maxRecDepth 20000 in
theorem gX10_init_X5_init : GoodIn wsX10_init (wsX5_init) := ggX10_init_X5_init
set_option maxRecDepth 20000 in
theorem ggX10_init_X2_init : GoodIn wsX10_init wsX2_init := goodIn_r _ [48, 49, 2, 3, 50, 51, 52, 53, 54, 55, 56, 57, 58, 59, 60, 61, 62, 63, 64, 65, 66, 67, 68, 69, 70, 71, 72, 73, 74, 75, 76, 77, 78, 79, 80, 81, 82, 83, 113, 114, 115, 116, 117, 118, 119, 120, 128, 129, 130, 131, 132] (by decide +kernel) (by decide +kernel)
set_option maxRecDepth 20000 in
theorem gX10_init_X2_init : GoodIn wsX10_init (wsX2_init) := ggX10_init_X2_init
set_option maxRecDepth 20000 in
theorem ggX10_init_X6_init : GoodIn wsX10_init wsX6_init := goodIn_r _ [86, 87, 2, 3, 88, 89, 29, 90, 121, 122, 123] (by decide +kernel) (by decide +kernel)
set_option maxRecDepth 20000 in
theorem gX10_init_X6_init : GoodIn wsX10_init (wsX6_init) := ggX10_init_X6_init
set_option maxRecDepth 20000 in
theorem ggX10_init_X9_init : GoodIn wsX10_init wsX9_init := goodIn_r _ [93, 94, 2, 3, 95, 29, 96, 97, 98, 124, 125, 126, 127] (by decide +kernel) (by decide +kernel)
set_option maxRecDepth 20000 in
theorem gX10_init_X9_init : GoodIn wsX10_init (wsX9_init) := ggX10_init_X9_init
theorem dX10_init_0 : decode cX10_init 0 = .ok (.aload_n 0, 1) := by decide +kernel
theorem dX10_init_1 : decode cX10_init 1 = .ok (.invokespecial 3, 3) := by decide +kernel
theorem dX10_init_4 : decode cX10_init 4 = .ok (.aload_n 0, 1) := by decide +kernel
theorem dX10_init_5 : decode cX10_init 5 = .ok (.new 9, 3) := by decide +kernel
theorem dX10_init_8 : decode cX10_init 8 = .ok (.dup, 1) := by decide +kernel
theorem dX10_init_9 : decode cX10_init 9 = .ok (.invokespecial 11, 3) := by decide +kernel
theorem dX10_init_12 : decode cX10_init 12 = .ok (.putfield 12, 3) := by decide +kernel
theorem dX10_init_15 : decode cX10_init 15 = .ok (.aload_n 0, 1) := by decide +kernel
theorem dX10_init_16 : decode cX10_init 16 = .ok (.new 16, 3) := by decide +kernel
theorem dX10_init_19 : decode cX10_init 19 = .ok (.dup, 1) := by decide +kernel
theorem dX10_init_20 : decode cX10_init 20 = .ok (.invokespecial 18, 3) := by decide +kernel
theorem dX10_init_23 : decode cX10_init 23 = .ok (.putfield 19, 3) := by decide +kernel
theorem dX10_init_26 : decode cX10_init 26 = .ok (.aload_n 0, 1) := by decide +kernel
theorem dX10_init_27 : decode cX10_init 27 = .ok (.new 23, 3) := by decide +kernel
theorem dX10_init_30 : decode cX10_init 30 = .ok (.dup, 1) := by decide +kernel
theorem dX10_init_31 : decode cX10_init 31 = .ok (.aload_n 0, 1) := by decide +kernel
theorem dX10_init_32 : decode cX10_init 32 = .ok (.getfield 12, 3) := by decide +kernel
theorem dX10_init_35 : decode cX10_init 35 = .ok (.aload_n 0, 1) := by decide +kernel
theorem dX10_init_36 : decode cX10_init 36 = .ok (.getfield 19, 3) := by decide +kernel
theorem dX10_init_39 : decode cX10_init 39 = .ok (.invokespecial 25, 3) := by decide +kernel
theorem dX10_init_42 : decode cX10_init 42 = .ok (.putfield 28, 3) := by decide +kernel
theorem dX10_init_45 : decode cX10_init 45 = .ok (.aload_n 0, 1) := by decide +kernel
theorem dX10_init_46 : decode cX10_init 46 = .ok (.new 32, 3) := by decide +kernel
theorem dX10_init_49 : decode cX10_init 49 = .ok (.dup, 1) := by decide +kernel
theorem dX10_init_50 : decode cX10_init 50 = .ok (.aload_n 0, 1) := by decide +kernel
theorem dX10_init_51 : decode cX10_init 51 = .ok (.getfield 12, 3) := by decide +kernel
theorem dX10_init_54 : decode cX10_init 54 = .ok (.aload_n 0, 1) := by decide +kernel
theorem dX10_init_55 : decode cX10_init 55 = .ok (.getfield 28, 3) := by decide +kernel
theorem dX10_init_58 : decode cX10_init 58 = .ok (.invokespecial 34, 3) := by decide +kernel
theorem dX10_init_61 : decode cX10_init 61 = .ok (.putfield 37, 3) := by decide +kernel
theorem dX10_init_64 : decode cX10_init 64 = .ok (.aload_n 0, 1) := by decide +kernel
theorem dX10_init_65 : decode cX10_init 65 = .ok (.new 41, 3) := by decide +kernel
theorem dX10_init_68 : decode cX10_init 68 = .ok (.dup, 1) := by decide +kernel
theorem dX10_init_69 : decode cX10_init 69 = .ok (.aload_n 0, 1) := by decide +kernel
theorem dX10_init_70 : decode cX10_init 70 = .ok (.getfield 12, 3) := by decide +kernel
theorem dX10_init_73 : decode cX10_init 73 = .ok (.invokespecial 43, 3) := by decide +kernel
theorem dX10_init_76 : decode cX10_init 76 = .ok (.putfield 46, 3) := by decide +kernel
theorem dX10_init_79 : decode cX10_init 79 = .ok (.aload_n 0, 1) := by decide +kernel
theorem dX10_init_80 : decode cX10_init 80 = .ok (.aconst_null, 1) := by decide +kernel
theorem dX10_init_81 : decode cX10_init 81 = .ok (.putfield 50, 3) := by decide +kernel
theorem dX10_init_84 : decode cX10_init 84 = .ok (.return_, 1) := by decide +kernel
set_option maxRecDepth 20000 in
theorem ggX10_clear_X8_startAnew : GoodIn wsX10_clear wsX8_startAnew := goodIn_r _ [7, 8, 9, 10, 11, 44, 45, 46, 47, 48, 49] (by decide +kernel) (by decide +kernel)
set_option maxRecDepth 20000 in
theorem gX10_clear_X8_startAnew : GoodIn wsX10_clear (wsV RX10 58 RX8 yX8_startAnew wsX8_startAnew) := goodIn_app (goodIn_of _ (by decide +kernel)) ggX10_clear_X8_startAnew
set_option maxRecDepth 20000 in
theorem ggX10_clear_X10_forgetFits : GoodIn wsX10_clear wsX10_forgetFits := goodIn_r _ [16, 17, 18, 19, 20, 21, 22, 23, 24, 25, 26, 27, 28, 15, 29, 30, 31, 32, 33, 34, 35, 36, 37, 38, 39, 40, 41, 42, 43, 50, 51, 52, 53, 54, 55, 56, 57, 58, 59, 60, 61, 62, 63, 64, 65, 66, 67, 68, 69, 70, 71, 72] (by decide +kernel) (by decide +kernel)
set_option maxRecDepth 20000 in
theorem gX10_clear_X10_forgetFits : GoodIn wsX10_clear (wsV RX10 61 RX10 yX10_forgetFits wsX10_forgetFits) := goodIn_app (goodIn_of _ (by decide +kernel)) ggX10_clear_X10_forgetFits
theorem dX10_clear_0 : decode cX10_clear 0 = .ok (.aload_n 0, 1) := by decide +kernel
theorem dX10_clear_1 : decode cX10_clear 1 = .ok (.getfield 12, 3) := by decide +kernel
theorem dX10_clear_4 : decode cX10_clear 4 = .ok (.getfield 54, 3) := by decide +kernel
theorem dX10_clear_7 : decode cX10_clear 7 = .ok (.istore_n 1, 1) := by decide +kernel
theorem dX10_clear_8 : decode cX10_clear 8 = .ok (.aload_n 0, 1) := by decide +kernel
theorem dX10_clear_9 : decode cX10_clear 9 = .ok (.getfield 12, 3) := by decide +kernel
theorem dX10_clear_12 : decode cX10_clear 12 = .ok (.invokevirtual 58, 3) := by decide +kernel
theorem dX10_clear_15 : decode cX10_clear 15 = .ok (.aload_n 0, 1) := by decide +kernel
theorem dX10_clear_16 : decode cX10_clear 16 = .ok (.invokevirtual 61, 3) := by decide +kernel
theorem dX10_clear_19 : decode cX10_clear 19 = .ok (.iload_n 1, 1) := by decide +kernel
theorem dX10_clear_20 : decode cX10_clear 20 = .ok (.ireturn, 1) := by decide +kernel
set_option maxRecDepth 20000 in
theorem ggX10_name_X10_forgetFits : GoodIn wsX10_name wsX10_forgetFits := goodIn_r _ [8, 9, 10, 11, 12, 13, 14, 15, 16, 17, 18, 19, 20, 7, 21, 22, 23, 24, 25, 26, 27, 28, 29, 37, 38, 39, 40, 41, 42, 49, 50, 51, 52, 53, 54, 55, 56, 57, 58, 59, 60, 61, 62, 63, 64, 65, 66, 67, 68, 69, 70, 71] (by decide +kernel) (by decide +kernel)
set_option maxRecDepth 20000 in
theorem gX10_name_X10_forgetFits : GoodIn wsX10_name (wsV RX10 61 RX10 yX10_forgetFits wsX10_forgetFits) := goodIn_app (goodIn_of _ (by decide +kernel)) ggX10_name_X10_forgetFits
set_option maxRecDepth 20000 in
theorem ggX10_name_X8_addName : GoodIn wsX10_name wsX8_addName := goodIn_r _ [34, 35, 36, 43, 44, 45, 46, 47, 48] (by decide +kernel) (by decide +kernel)
set_option maxRecDepth 20000 in
theorem gX10_name_X8_addName : GoodIn wsX10_name (wsV RX10 67 RX8 yX8_addName wsX8_addName) := goodIn_app (goodIn_of _ (by decide +kernel)) ggX10_name_X8_addName
theorem dX10_name_0 : decode cX10_name 0 = .ok (.iload_n 1, 1) := by decide +kernel
theorem dX10_name_1 : decode cX10_name 1 = .ok (.iconst 2, 1) := by decide +kernel
theorem dX10_name_2 : decode cX10_name 2 = .ok (.if_icmp .eq 10, 3) := by decide +kernel
theorem dX10_name_5 : decode cX10_name 5 = .ok (.iload_n 1, 1) := by decide +kernel
theorem dX10_name_6 : decode cX10_name 6 = .ok (.iconst 3, 1) := by decide +kernel
theorem dX10_name_7 : decode cX10_name 7 = .ok (.if_icmp .eq 5, 3) := by decide +kernel
theorem dX10_name_10 : decode cX10_name 10 = .ok (.iconst (-1), 1) := by decide +kernel
theorem dX10_name_11 : decode cX10_name 11 = .ok (.ireturn, 1) := by decide +kernel
theorem dX10_name_12 : decode cX10_name 12 = .ok (.aload_n 0, 1) := by decide +kernel
theorem dX10_name_13 : decode cX10_name 13 = .ok (.getfield 12, 3) := by decide +kernel
theorem dX10_name_16 : decode cX10_name 16 = .ok (.getfield 54, 3) := by decide +kernel
theorem dX10_name_19 : decode cX10_name 19 = .ok (.ifCond .le 6, 3) := by decide +kernel
theorem dX10_name_22 : decode cX10_name 22 = .ok (.bipush (-2), 2) := by decide +kernel
theorem dX10_name_24 : decode cX10_name 24 = .ok (.ireturn, 1) := by decide +kernel
theorem dX10_name_25 : decode cX10_name 25 = .ok (.aload_n 0, 1) := by decide +kernel
theorem dX10_name_26 : decode cX10_name 26 = .ok (.getfield 12, 3) := by decide +kernel
theorem dX10_name_29 : decode cX10_name 29 = .ok (.getfield 64, 3) := by decide +kernel
theorem dX10_name_32 : decode cX10_name 32 = .ok (.iconst 5, 1) := by decide +kernel
theorem dX10_name_33 : decode cX10_name 33 = .ok (.if_icmp .lt 6, 3) := by decide +kernel
theorem dX10_name_36 : decode cX10_name 36 = .ok (.bipush (-3), 2) := by decide +kernel
theorem dX10_name_38 : decode cX10_name 38 = .ok (.ireturn, 1) := by decide +kernel
theorem dX10_name_39 : decode cX10_name 39 = .ok (.aload_n 0, 1) := by decide +kernel
theorem dX10_name_40 : decode cX10_name 40 = .ok (.invokevirtual 61, 3) := by decide +kernel
theorem dX10_name_43 : decode cX10_name 43 = .ok (.aload_n 0, 1) := by decide +kernel
theorem dX10_name_44 : decode cX10_name 44 = .ok (.getfield 12, 3) := by decide +kernel
theorem dX10_name_47 : decode cX10_name 47 = .ok (.iload_n 1, 1) := by decide +kernel
theorem dX10_name_48 : decode cX10_name 48 = .ok (.invokevirtual 67, 3) := by decide +kernel
theorem dX10_name_51 : decode cX10_name 51 = .ok (.ireturn, 1) := by decide +kernel
set_option maxRecDepth 20000 in
theorem ggX10_row_X10_fitsName : GoodIn wsX10_row wsX10_fitsName := goodIn_r _ [8, 9, 10, 11, 7, 12, 1, 2, 13, 14, 15, 16, 17, 18, 19, 20, 21, 22, 23, 59, 60, 61, 62, 63, 64, 65, 66, 67, 68, 69, 70] (by decide +kernel) (by decide +kernel)
set_option maxRecDepth 20000 in
theorem gX10_row_X10_fitsName : GoodIn wsX10_row (wsV RX10 71 RX10 yX10_fitsName wsX10_fitsName) := goodIn_app (goodIn_of _ (by decide +kernel)) ggX10_row_X10_fitsName
set_option maxRecDepth 20000 in
theorem ggX10_row_X10_forgetFits : GoodIn wsX10_row wsX10_forgetFits := goodIn_r _ [27, 28, 29, 30, 31, 32, 33, 34, 35, 36, 37, 38, 39, 7, 40, 41, 42, 43, 44, 45, 46, 47, 48, 59, 60, 61, 62, 63, 64, 71, 72, 73, 74, 75, 76, 77, 78, 79, 80, 81, 82, 83, 84, 85, 86, 87, 88, 89, 90, 91, 92, 93] (by decide +kernel) (by decide +kernel)
set_option maxRecDepth 20000 in
theorem gX10_row_X10_forgetFits : GoodIn wsX10_row (wsV RX10 61 RX10 yX10_forgetFits wsX10_forgetFits) := goodIn_app (goodIn_of _ (by decide +kernel)) ggX10_row_X10_forgetFits
set_option maxRecDepth 20000 in
theorem ggX10_row_X10_coded : GoodIn wsX10_row wsX10_coded := goodIn_r _ [52, 9, 10, 11, 7, 12, 1, 2, 59, 60, 61, 62, 63, 64, 65, 66, 67, 68, 69, 70] (by decide +kernel) (by decide +kernel)
set_option maxRecDepth 20000 in
theorem gX10_row_X10_coded : GoodIn wsX10_row (wsV RX10 75 RX10 yX10_coded wsX10_coded) := goodIn_app (goodIn_of _ (by decide +kernel)) ggX10_row_X10_coded
set_option maxRecDepth 20000 in
theorem ggX10_row_X8_addRow : GoodIn wsX10_row wsX8_addRow := goodIn_r _ [56, 57, 58, 65, 66, 67, 68, 69, 70] (by decide +kernel) (by decide +kernel)
set_option maxRecDepth 20000 in
theorem gX10_row_X8_addRow : GoodIn wsX10_row (wsV RX10 79 RX8 yX8_addRow wsX8_addRow) := goodIn_app (goodIn_of _ (by decide +kernel)) ggX10_row_X8_addRow
theorem dX10_row_0 : decode cX10_row 0 = .ok (.aload_n 0, 1) := by decide +kernel
theorem dX10_row_1 : decode cX10_row 1 = .ok (.iconst 0, 1) := by decide +kernel
theorem dX10_row_2 : decode cX10_row 2 = .ok (.iload_n 1, 1) := by decide +kernel
theorem dX10_row_3 : decode cX10_row 3 = .ok (.invokevirtual 71, 3) := by decide +kernel
theorem dX10_row_6 : decode cX10_row 6 = .ok (.ifCond .eq 41, 3) := by decide +kernel
theorem dX10_row_9 : decode cX10_row 9 = .ok (.aload_n 0, 1) := by decide +kernel
theorem dX10_row_10 : decode cX10_row 10 = .ok (.iconst 1, 1) := by decide +kernel
theorem dX10_row_11 : decode cX10_row 11 = .ok (.iload_n 2, 1) := by decide +kernel
theorem dX10_row_12 : decode cX10_row 12 = .ok (.invokevirtual 71, 3) := by decide +kernel
theorem dX10_row_15 : decode cX10_row 15 = .ok (.ifCond .eq 32, 3) := by decide +kernel
theorem dX10_row_18 : decode cX10_row 18 = .ok (.aload_n 0, 1) := by decide +kernel
theorem dX10_row_19 : decode cX10_row 19 = .ok (.iconst 2, 1) := by decide +kernel
theorem dX10_row_20 : decode cX10_row 20 = .ok (.iload_n 3, 1) := by decide +kernel
theorem dX10_row_21 : decode cX10_row 21 = .ok (.invokevirtual 71, 3) := by decide +kernel
theorem dX10_row_24 : decode cX10_row 24 = .ok (.ifCond .eq 23, 3) := by decide +kernel
theorem dX10_row_27 : decode cX10_row 27 = .ok (.aload_n 0, 1) := by decide +kernel
theorem dX10_row_28 : decode cX10_row 28 = .ok (.iconst 3, 1) := by decide +kernel
theorem dX10_row_29 : decode cX10_row 29 = .ok (.iload 4, 2) := by decide +kernel
theorem dX10_row_31 : decode cX10_row 31 = .ok (.invokevirtual 71, 3) := by decide +kernel
theorem dX10_row_34 : decode cX10_row 34 = .ok (.ifCond .eq 13, 3) := by decide +kernel
theorem dX10_row_37 : decode cX10_row 37 = .ok (.aload_n 0, 1) := by decide +kernel
theorem dX10_row_38 : decode cX10_row 38 = .ok (.iconst 4, 1) := by decide +kernel
theorem dX10_row_39 : decode cX10_row 39 = .ok (.iload 5, 2) := by decide +kernel
theorem dX10_row_41 : decode cX10_row 41 = .ok (.invokevirtual 71, 3) := by decide +kernel
theorem dX10_row_44 : decode cX10_row 44 = .ok (.ifCond .ne 5, 3) := by decide +kernel
theorem dX10_row_47 : decode cX10_row 47 = .ok (.iconst (-1), 1) := by decide +kernel
theorem dX10_row_48 : decode cX10_row 48 = .ok (.ireturn, 1) := by decide +kernel
theorem dX10_row_49 : decode cX10_row 49 = .ok (.aload_n 0, 1) := by decide +kernel
theorem dX10_row_50 : decode cX10_row 50 = .ok (.getfield 12, 3) := by decide +kernel
theorem dX10_row_53 : decode cX10_row 53 = .ok (.getfield 64, 3) := by decide +kernel
theorem dX10_row_56 : decode cX10_row 56 = .ok (.ifCond .ne 6, 3) := by decide +kernel
theorem dX10_row_59 : decode cX10_row 59 = .ok (.bipush (-2), 2) := by decide +kernel
theorem dX10_row_61 : decode cX10_row 61 = .ok (.ireturn, 1) := by decide +kernel
theorem dX10_row_62 : decode cX10_row 62 = .ok (.aload_n 0, 1) := by decide +kernel
theorem dX10_row_63 : decode cX10_row 63 = .ok (.getfield 12, 3) := by decide +kernel
theorem dX10_row_66 : decode cX10_row 66 = .ok (.getfield 54, 3) := by decide +kernel
theorem dX10_row_69 : decode cX10_row 69 = .ok (.bipush 16, 2) := by decide +kernel
theorem dX10_row_71 : decode cX10_row 71 = .ok (.if_icmp .lt 6, 3) := by decide +kernel
theorem dX10_row_74 : decode cX10_row 74 = .ok (.bipush (-3), 2) := by decide +kernel
theorem dX10_row_76 : decode cX10_row 76 = .ok (.ireturn, 1) := by decide +kernel
theorem dX10_row_77 : decode cX10_row 77 = .ok (.aload_n 0, 1) := by decide +kernel
theorem dX10_row_78 : decode cX10_row 78 = .ok (.invokevirtual 61, 3) := by decide +kernel
theorem dX10_row_81 : decode cX10_row 81 = .ok (.aload_n 0, 1) := by decide +kernel
theorem dX10_row_82 : decode cX10_row 82 = .ok (.iconst 0, 1) := by decide +kernel
theorem dX10_row_83 : decode cX10_row 83 = .ok (.iload_n 1, 1) := by decide +kernel
theorem dX10_row_84 : decode cX10_row 84 = .ok (.invokevirtual 75, 3) := by decide +kernel
theorem dX10_row_87 : decode cX10_row 87 = .ok (.aload_n 0, 1) := by decide +kernel
theorem dX10_row_88 : decode cX10_row 88 = .ok (.iconst 1, 1) := by decide +kernel
theorem dX10_row_89 : decode cX10_row 89 = .ok (.iload_n 2, 1) := by decide +kernel
theorem dX10_row_90 : decode cX10_row 90 = .ok (.invokevirtual 75, 3) := by decide +kernel
theorem dX10_row_93 : decode cX10_row 93 = .ok (.ior, 1) := by decide +kernel
theorem dX10_row_94 : decode cX10_row 94 = .ok (.aload_n 0, 1) := by decide +kernel
theorem dX10_row_95 : decode cX10_row 95 = .ok (.iconst 2, 1) := by decide +kernel
theorem dX10_row_96 : decode cX10_row 96 = .ok (.iload_n 3, 1) := by decide +kernel
theorem dX10_row_97 : decode cX10_row 97 = .ok (.invokevirtual 75, 3) := by decide +kernel
theorem dX10_row_100 : decode cX10_row 100 = .ok (.ior, 1) := by decide +kernel
theorem dX10_row_101 : decode cX10_row 101 = .ok (.aload_n 0, 1) := by decide +kernel
theorem dX10_row_102 : decode cX10_row 102 = .ok (.iconst 3, 1) := by decide +kernel
theorem dX10_row_103 : decode cX10_row 103 = .ok (.iload 4, 2) := by decide +kernel
theorem dX10_row_105 : decode cX10_row 105 = .ok (.invokevirtual 75, 3) := by decide +kernel
theorem dX10_row_108 : decode cX10_row 108 = .ok (.ior, 1) := by decide +kernel
theorem dX10_row_109 : decode cX10_row 109 = .ok (.aload_n 0, 1) := by decide +kernel
theorem dX10_row_110 : decode cX10_row 110 = .ok (.iconst 4, 1) := by decide +kernel
theorem dX10_row_111 : decode cX10_row 111 = .ok (.iload 5, 2) := by decide +kernel
theorem dX10_row_113 : decode cX10_row 113 = .ok (.invokevirtual 75, 3) := by decide +kernel
theorem dX10_row_116 : decode cX10_row 116 = .ok (.ior, 1) := by decide +kernel
theorem dX10_row_117 : decode cX10_row 117 = .ok (.istore 6, 2) := by decide +kernel
theorem dX10_row_119 : decode cX10_row 119 = .ok (.aload_n 0, 1) := by decide +kernel
theorem dX10_row_120 : decode cX10_row 120 = .ok (.getfield 12, 3) := by decide +kernel
theorem dX10_row_123 : decode cX10_row 123 = .ok (.iload 6, 2) := by decide +kernel
theorem dX10_row_125 : decode cX10_row 125 = .ok (.invokevirtual 79, 3) := by decide +kernel
theorem dX10_row_128 : decode cX10_row 128 = .ok (.ireturn, 1) := by decide +kernel
set_option maxRecDepth 20000 in
theorem ggX10_drop_X10_isRow : GoodIn wsX10_drop wsX10_isRow := goodIn_r _ [6, 1, 7, 40, 41, 42, 43, 44, 45, 46, 47, 48, 49, 50, 51] (by decide +kernel) (by decide +kernel)
set_option maxRecDepth 20000 in
theorem gX10_drop_X10_isRow : GoodIn wsX10_drop (wsV RX10 82 RX10 yX10_isRow wsX10_isRow) := goodIn_app (goodIn_of _ (by decide +kernel)) ggX10_drop_X10_isRow
set_option maxRecDepth 20000 in
theorem ggX10_drop_X10_forgetFits : GoodIn wsX10_drop wsX10_forgetFits := goodIn_r _ [11, 12, 13, 14, 15, 16, 17, 18, 19, 20, 21, 22, 23, 5, 24, 25, 26, 27, 28, 29, 30, 31, 32, 40, 41, 42, 43, 44, 45, 52, 53, 54, 55, 56, 57, 58, 59, 60, 61, 62, 63, 64, 65, 66, 67, 68, 69, 70, 71, 72, 73, 74] (by decide +kernel) (by decide +kernel)
set_option maxRecDepth 20000 in
theorem gX10_drop_X10_forgetFits : GoodIn wsX10_drop (wsV RX10 61 RX10 yX10_forgetFits wsX10_forgetFits) := goodIn_app (goodIn_of _ (by decide +kernel)) ggX10_drop_X10_forgetFits
set_option maxRecDepth 20000 in
theorem ggX10_drop_X8_removeRow : GoodIn wsX10_drop wsX8_removeRow := goodIn_r _ [37, 38, 39, 46, 47, 48, 49, 50, 51] (by decide +kernel) (by decide +kernel)
set_option maxRecDepth 20000 in
theorem gX10_drop_X8_removeRow : GoodIn wsX10_drop (wsV RX10 86 RX8 yX8_removeRow wsX8_removeRow) := goodIn_app (goodIn_of _ (by decide +kernel)) ggX10_drop_X8_removeRow
theorem dX10_drop_0 : decode cX10_drop 0 = .ok (.aload_n 0, 1) := by decide +kernel
theorem dX10_drop_1 : decode cX10_drop 1 = .ok (.iload_n 1, 1) := by decide +kernel
theorem dX10_drop_2 : decode cX10_drop 2 = .ok (.invokevirtual 82, 3) := by decide +kernel
theorem dX10_drop_5 : decode cX10_drop 5 = .ok (.ifCond .ne 5, 3) := by decide +kernel
theorem dX10_drop_8 : decode cX10_drop 8 = .ok (.iconst (-1), 1) := by decide +kernel
theorem dX10_drop_9 : decode cX10_drop 9 = .ok (.ireturn, 1) := by decide +kernel
theorem dX10_drop_10 : decode cX10_drop 10 = .ok (.aload_n 0, 1) := by decide +kernel
theorem dX10_drop_11 : decode cX10_drop 11 = .ok (.invokevirtual 61, 3) := by decide +kernel
theorem dX10_drop_14 : decode cX10_drop 14 = .ok (.aload_n 0, 1) := by decide +kernel
theorem dX10_drop_15 : decode cX10_drop 15 = .ok (.getfield 12, 3) := by decide +kernel
theorem dX10_drop_18 : decode cX10_drop 18 = .ok (.iload_n 1, 1) := by decide +kernel
theorem dX10_drop_19 : decode cX10_drop 19 = .ok (.invokevirtual 86, 3) := by decide +kernel
theorem dX10_drop_22 : decode cX10_drop 22 = .ok (.ireturn, 1) := by decide +kernel
set_option maxRecDepth 20000 in
theorem ggX10_value_X10_isRow : GoodIn wsX10_value wsX10_isRow := goodIn_r _ [6, 1, 7, 24, 25, 26, 27, 28, 29, 30, 31, 32, 33, 34, 35] (by decide +kernel) (by decide +kernel)
set_option maxRecDepth 20000 in
theorem gX10_value_X10_isRow : GoodIn wsX10_value (wsV RX10 82 RX10 yX10_isRow wsX10_isRow) := goodIn_app (goodIn_of _ (by decide +kernel)) ggX10_value_X10_isRow
set_option maxRecDepth 20000 in
theorem ggX10_value_X10_isName : GoodIn wsX10_value wsX10_isName := goodIn_r _ [11, 1, 12, 24, 25, 26, 27, 28, 29, 30, 31, 32, 33, 34, 35] (by decide +kernel) (by decide +kernel)
set_option maxRecDepth 20000 in
theorem gX10_value_X10_isName : GoodIn wsX10_value (wsV RX10 89 RX10 yX10_isName wsX10_isName) := goodIn_app (goodIn_of _ (by decide +kernel)) ggX10_value_X10_isName
set_option maxRecDepth 20000 in
theorem ggX10_value_X8_valueIn : GoodIn wsX10_value wsX8_valueIn := goodIn_r _ [17, 18, 19, 20, 16, 21, 22, 23, 30, 31, 32, 33, 34, 35] (by decide +kernel) (by decide +kernel)
set_option maxRecDepth 20000 in
theorem gX10_value_X8_valueIn : GoodIn wsX10_value (wsV RX10 92 RX8 yX8_valueIn wsX8_valueIn) := goodIn_app (goodIn_of _ (by decide +kernel)) ggX10_value_X8_valueIn
theorem dX10_value_0 : decode cX10_value 0 = .ok (.aload_n 0, 1) := by decide +kernel
theorem dX10_value_1 : decode cX10_value 1 = .ok (.iload_n 1, 1) := by decide +kernel
theorem dX10_value_2 : decode cX10_value 2 = .ok (.invokevirtual 82, 3) := by decide +kernel
theorem dX10_value_5 : decode cX10_value 5 = .ok (.ifCond .eq 23, 3) := by decide +kernel
theorem dX10_value_8 : decode cX10_value 8 = .ok (.aload_n 0, 1) := by decide +kernel
theorem dX10_value_9 : decode cX10_value 9 = .ok (.iload_n 2, 1) := by decide +kernel
theorem dX10_value_10 : decode cX10_value 10 = .ok (.invokevirtual 89, 3) := by decide +kernel
theorem dX10_value_13 : decode cX10_value 13 = .ok (.ifCond .eq 15, 3) := by decide +kernel
theorem dX10_value_16 : decode cX10_value 16 = .ok (.aload_n 0, 1) := by decide +kernel
theorem dX10_value_17 : decode cX10_value 17 = .ok (.getfield 12, 3) := by decide +kernel
theorem dX10_value_20 : decode cX10_value 20 = .ok (.iload_n 1, 1) := by decide +kernel
theorem dX10_value_21 : decode cX10_value 21 = .ok (.iload_n 2, 1) := by decide +kernel
theorem dX10_value_22 : decode cX10_value 22 = .ok (.invokevirtual 92, 3) := by decide +kernel
theorem dX10_value_25 : decode cX10_value 25 = .ok (.goto 4, 3) := by decide +kernel
theorem dX10_value_28 : decode cX10_value 28 = .ok (.iconst (-1), 1) := by decide +kernel
theorem dX10_value_29 : decode cX10_value 29 = .ok (.ireturn, 1) := by decide +kernel
set_option maxRecDepth 20000 in
theorem ggX10_set_X10_forgetFits : GoodIn wsX10_set wsX10_forgetFits := goodIn_r _ [8, 9, 10, 11, 12, 13, 14, 15, 16, 17, 18, 19, 20, 7, 21, 22, 23, 24, 25, 26, 27, 28, 29, 30, 31, 32, 33, 34, 35, 42, 43, 44, 45, 46, 47, 48, 49, 50, 51, 52, 53, 54, 55, 56, 57, 58, 59, 60, 61, 62, 63, 64] (by decide +kernel) (by decide +kernel)
set_option maxRecDepth 20000 in
theorem gX10_set_X10_forgetFits : GoodIn wsX10_set (wsV RX10 61 RX10 yX10_forgetFits wsX10_forgetFits) := goodIn_app (goodIn_of _ (by decide +kernel)) ggX10_set_X10_forgetFits
set_option maxRecDepth 20000 in
theorem ggX10_set_X10_forgetShares : GoodIn wsX10_set wsX10_forgetShares := goodIn_r _ [21, 22, 23, 24, 25, 26, 27, 28, 29, 30, 31, 32, 33, 34, 35, 53, 54, 55, 56, 57, 58, 59, 60, 61, 62, 63, 64, 50, 51, 52] (by decide +kernel) (by decide +kernel)
set_option maxRecDepth 20000 in
theorem gX10_set_X10_forgetShares : GoodIn wsX10_set (wsV RX10 101 RX10 yX10_forgetShares wsX10_forgetShares) := goodIn_app (goodIn_of _ (by decide +kernel)) ggX10_set_X10_forgetShares
theorem dX10_set_0 : decode cX10_set 0 = .ok (.iload_n 1, 1) := by decide +kernel
theorem dX10_set_1 : decode cX10_set 1 = .ok (.ifCond .ne 36, 3) := by decide +kernel
theorem dX10_set_4 : decode cX10_set 4 = .ok (.iload_n 2, 1) := by decide +kernel
theorem dX10_set_5 : decode cX10_set 5 = .ok (.iconst 1, 1) := by decide +kernel
theorem dX10_set_6 : decode cX10_set 6 = .ok (.if_icmp .lt 31, 3) := by decide +kernel
theorem dX10_set_9 : decode cX10_set 9 = .ok (.iload_n 2, 1) := by decide +kernel
theorem dX10_set_10 : decode cX10_set 10 = .ok (.bipush 9, 2) := by decide +kernel
theorem dX10_set_12 : decode cX10_set 12 = .ok (.if_icmp .gt 25, 3) := by decide +kernel
theorem dX10_set_15 : decode cX10_set 15 = .ok (.aload_n 0, 1) := by decide +kernel
theorem dX10_set_16 : decode cX10_set 16 = .ok (.getfield 12, 3) := by decide +kernel
theorem dX10_set_19 : decode cX10_set 19 = .ok (.getfield 95, 3) := by decide +kernel
theorem dX10_set_22 : decode cX10_set 22 = .ok (.istore_n 3, 1) := by decide +kernel
theorem dX10_set_23 : decode cX10_set 23 = .ok (.aload_n 0, 1) := by decide +kernel
theorem dX10_set_24 : decode cX10_set 24 = .ok (.getfield 12, 3) := by decide +kernel
theorem dX10_set_27 : decode cX10_set 27 = .ok (.iload_n 2, 1) := by decide +kernel
theorem dX10_set_28 : decode cX10_set 28 = .ok (.putfield 95, 3) := by decide +kernel
theorem dX10_set_31 : decode cX10_set 31 = .ok (.aload_n 0, 1) := by decide +kernel
theorem dX10_set_32 : decode cX10_set 32 = .ok (.invokevirtual 61, 3) := by decide +kernel
theorem dX10_set_35 : decode cX10_set 35 = .ok (.iload_n 3, 1) := by decide +kernel
theorem dX10_set_36 : decode cX10_set 36 = .ok (.ireturn, 1) := by decide +kernel
theorem dX10_set_37 : decode cX10_set 37 = .ok (.iload_n 1, 1) := by decide +kernel
theorem dX10_set_38 : decode cX10_set 38 = .ok (.iconst 1, 1) := by decide +kernel
theorem dX10_set_39 : decode cX10_set 39 = .ok (.if_icmp .ne 34, 3) := by decide +kernel
theorem dX10_set_42 : decode cX10_set 42 = .ok (.iload_n 2, 1) := by decide +kernel
theorem dX10_set_43 : decode cX10_set 43 = .ok (.ifCond .lt 30, 3) := by decide +kernel
theorem dX10_set_46 : decode cX10_set 46 = .ok (.iload_n 2, 1) := by decide +kernel
theorem dX10_set_47 : decode cX10_set 47 = .ok (.iconst 4, 1) := by decide +kernel
theorem dX10_set_48 : decode cX10_set 48 = .ok (.if_icmp .gt 25, 3) := by decide +kernel
theorem dX10_set_51 : decode cX10_set 51 = .ok (.aload_n 0, 1) := by decide +kernel
theorem dX10_set_52 : decode cX10_set 52 = .ok (.getfield 12, 3) := by decide +kernel
theorem dX10_set_55 : decode cX10_set 55 = .ok (.getfield 98, 3) := by decide +kernel
theorem dX10_set_58 : decode cX10_set 58 = .ok (.istore_n 3, 1) := by decide +kernel
theorem dX10_set_59 : decode cX10_set 59 = .ok (.aload_n 0, 1) := by decide +kernel
theorem dX10_set_60 : decode cX10_set 60 = .ok (.getfield 12, 3) := by decide +kernel
theorem dX10_set_63 : decode cX10_set 63 = .ok (.iload_n 2, 1) := by decide +kernel
theorem dX10_set_64 : decode cX10_set 64 = .ok (.putfield 98, 3) := by decide +kernel
theorem dX10_set_67 : decode cX10_set 67 = .ok (.aload_n 0, 1) := by decide +kernel
theorem dX10_set_68 : decode cX10_set 68 = .ok (.invokevirtual 101, 3) := by decide +kernel
theorem dX10_set_71 : decode cX10_set 71 = .ok (.iload_n 3, 1) := by decide +kernel
theorem dX10_set_72 : decode cX10_set 72 = .ok (.ireturn, 1) := by decide +kernel
theorem dX10_set_73 : decode cX10_set 73 = .ok (.iconst (-1), 1) := by decide +kernel
theorem dX10_set_74 : decode cX10_set 74 = .ok (.ireturn, 1) := by decide +kernel
set_option maxRecDepth 20000 in
theorem ggX10_about_X10_isName : GoodIn wsX10_about wsX10_isName := goodIn_r _ [10, 1, 2, 18, 19, 20, 21, 22, 23, 24, 25, 26, 27, 28, 29] (by decide +kernel) (by decide +kernel)
set_option maxRecDepth 20000 in
theorem gX10_about_X10_isName : GoodIn wsX10_about (wsV RX10 89 RX10 yX10_isName wsX10_isName) := goodIn_app (goodIn_of _ (by decide +kernel)) ggX10_about_X10_isName
set_option maxRecDepth 20000 in
theorem ggX10_about_X8_valuesOf : GoodIn wsX10_about wsX8_valuesOf := goodIn_r _ [15, 16, 17, 24, 25, 26, 27, 28, 29] (by decide +kernel) (by decide +kernel)
set_option maxRecDepth 20000 in
theorem gX10_about_X8_valuesOf : GoodIn wsX10_about (wsV RX10 104 RX8 yX8_valuesOf wsX8_valuesOf) := goodIn_app (goodIn_of _ (by decide +kernel)) ggX10_about_X8_valuesOf
theorem dX10_about_0 : decode cX10_about 0 = .ok (.iload_n 1, 1) := by decide +kernel
theorem dX10_about_1 : decode cX10_about 1 = .ok (.tableswitch 63 0 3 #[31, 39, 47, 55], 31) := by decide +kernel
theorem dX10_about_32 : decode cX10_about 32 = .ok (.aload_n 0, 1) := by decide +kernel
theorem dX10_about_33 : decode cX10_about 33 = .ok (.getfield 12, 3) := by decide +kernel
theorem dX10_about_36 : decode cX10_about 36 = .ok (.getfield 64, 3) := by decide +kernel
theorem dX10_about_39 : decode cX10_about 39 = .ok (.ireturn, 1) := by decide +kernel
theorem dX10_about_40 : decode cX10_about 40 = .ok (.aload_n 0, 1) := by decide +kernel
theorem dX10_about_41 : decode cX10_about 41 = .ok (.getfield 12, 3) := by decide +kernel
theorem dX10_about_44 : decode cX10_about 44 = .ok (.getfield 54, 3) := by decide +kernel
theorem dX10_about_47 : decode cX10_about 47 = .ok (.ireturn, 1) := by decide +kernel
theorem dX10_about_48 : decode cX10_about 48 = .ok (.aload_n 0, 1) := by decide +kernel
theorem dX10_about_49 : decode cX10_about 49 = .ok (.getfield 12, 3) := by decide +kernel
theorem dX10_about_52 : decode cX10_about 52 = .ok (.getfield 95, 3) := by decide +kernel
theorem dX10_about_55 : decode cX10_about 55 = .ok (.ireturn, 1) := by decide +kernel
theorem dX10_about_56 : decode cX10_about 56 = .ok (.aload_n 0, 1) := by decide +kernel
theorem dX10_about_57 : decode cX10_about 57 = .ok (.getfield 12, 3) := by decide +kernel
theorem dX10_about_60 : decode cX10_about 60 = .ok (.getfield 98, 3) := by decide +kernel
theorem dX10_about_63 : decode cX10_about 63 = .ok (.ireturn, 1) := by decide +kernel
theorem dX10_about_64 : decode cX10_about 64 = .ok (.iload_n 1, 1) := by decide +kernel
theorem dX10_about_65 : decode cX10_about 65 = .ok (.iconst 4, 1) := by decide +kernel
theorem dX10_about_66 : decode cX10_about 66 = .ok (.if_icmp .lt 26, 3) := by decide +kernel
theorem dX10_about_69 : decode cX10_about 69 = .ok (.aload_n 0, 1) := by decide +kernel
theorem dX10_about_70 : decode cX10_about 70 = .ok (.iload_n 1, 1) := by decide +kernel
theorem dX10_about_71 : decode cX10_about 71 = .ok (.iconst 4, 1) := by decide +kernel
theorem dX10_about_72 : decode cX10_about 72 = .ok (.isub, 1) := by decide +kernel
theorem dX10_about_73 : decode cX10_about 73 = .ok (.invokevirtual 89, 3) := by decide +kernel
theorem dX10_about_76 : decode cX10_about 76 = .ok (.ifCond .eq 16, 3) := by decide +kernel
theorem dX10_about_79 : decode cX10_about 79 = .ok (.aload_n 0, 1) := by decide +kernel
theorem dX10_about_80 : decode cX10_about 80 = .ok (.getfield 12, 3) := by decide +kernel
theorem dX10_about_83 : decode cX10_about 83 = .ok (.iload_n 1, 1) := by decide +kernel
theorem dX10_about_84 : decode cX10_about 84 = .ok (.iconst 4, 1) := by decide +kernel
theorem dX10_about_85 : decode cX10_about 85 = .ok (.isub, 1) := by decide +kernel
theorem dX10_about_86 : decode cX10_about 86 = .ok (.invokevirtual 104, 3) := by decide +kernel
theorem dX10_about_89 : decode cX10_about 89 = .ok (.goto 4, 3) := by decide +kernel
theorem dX10_about_92 : decode cX10_about 92 = .ok (.iconst (-1), 1) := by decide +kernel
theorem dX10_about_93 : decode cX10_about 93 = .ok (.ireturn, 1) := by decide +kernel
set_option maxRecDepth 20000 in
theorem ggX10_isGraph_X0_areGraph : GoodIn wsX10_isGraph wsX0_areGraph := goodIn_r _ [6, 7, 8, 5, 9, 10, 11, 12, 13, 14, 15, 16, 17, 18, 19, 20, 21, 22, 23, 24] (by decide +kernel) (by decide +kernel)
set_option maxRecDepth 20000 in
theorem gX10_isGraph_X0_areGraph : GoodIn wsX10_isGraph (va_wsS RX10 107 yX0_areGraph wsX0_areGraph) := goodIn_app (goodIn_of _ (by decide +kernel)) ggX10_isGraph_X0_areGraph
theorem dX10_isGraph_0 : decode cX10_isGraph 0 = .ok (.iload_n 1, 1) := by decide +kernel
theorem dX10_isGraph_1 : decode cX10_isGraph 1 = .ok (.aload_n 0, 1) := by decide +kernel
theorem dX10_isGraph_2 : decode cX10_isGraph 2 = .ok (.getfield 12, 3) := by decide +kernel
theorem dX10_isGraph_5 : decode cX10_isGraph 5 = .ok (.getfield 64, 3) := by decide +kernel
theorem dX10_isGraph_8 : decode cX10_isGraph 8 = .ok (.invokestatic 107, 3) := by decide +kernel
theorem dX10_isGraph_11 : decode cX10_isGraph 11 = .ok (.ireturn, 1) := by decide +kernel
set_option maxRecDepth 20000 in
theorem ggX10_order_X10_isGraph : GoodIn wsX10_order wsX10_isGraph := goodIn_r _ [7, 1, 2, 8, 9, 10, 11, 12, 13, 14, 15, 16, 17, 18, 19, 20, 21, 22, 23, 24, 25, 26, 27, 28, 29, 35, 36, 37, 38, 39, 40, 41, 42, 43, 44, 45, 46] (by decide +kernel) (by decide +kernel)
set_option maxRecDepth 20000 in
theorem gX10_order_X10_isGraph : GoodIn wsX10_order (wsV RX10 112 RX10 yX10_isGraph wsX10_isGraph) := goodIn_app (goodIn_of _ (by decide +kernel)) ggX10_order_X10_isGraph
set_option maxRecDepth 20000 in
theorem ggX10_order_X10_isName : GoodIn wsX10_order wsX10_isName := goodIn_r _ [33, 1, 2, 35, 36, 37, 38, 39, 40, 41, 42, 43, 44, 45, 46] (by decide +kernel) (by decide +kernel)
set_option maxRecDepth 20000 in
theorem gX10_order_X10_isName : GoodIn wsX10_order (wsV RX10 89 RX10 yX10_isName wsX10_isName) := goodIn_app (goodIn_of _ (by decide +kernel)) ggX10_order_X10_isName
set_option maxRecDepth 20000 in
theorem ggX10_order_X0_nextAfter : GoodIn wsX10_order wsX0_nextAfter := goodIn_r _ [26, 15, 16, 10, 17, 27, 28, 29] (by decide +kernel) (by decide +kernel)
set_option maxRecDepth 20000 in
theorem gX10_order_X0_nextAfter : GoodIn wsX10_order (va_wsS RX10 115 yX0_nextAfter wsX0_nextAfter) := goodIn_app (goodIn_of _ (by decide +kernel)) ggX10_order_X0_nextAfter
theorem dX10_order_0 : decode cX10_order 0 = .ok (.aload_n 0, 1) := by decide +kernel
theorem dX10_order_1 : decode cX10_order 1 = .ok (.iload_n 1, 1) := by decide +kernel
theorem dX10_order_2 : decode cX10_order 2 = .ok (.invokevirtual 112, 3) := by decide +kernel
theorem dX10_order_5 : decode cX10_order 5 = .ok (.ifCond .eq 11, 3) := by decide +kernel
theorem dX10_order_8 : decode cX10_order 8 = .ok (.aload_n 0, 1) := by decide +kernel
theorem dX10_order_9 : decode cX10_order 9 = .ok (.iload_n 2, 1) := by decide +kernel
theorem dX10_order_10 : decode cX10_order 10 = .ok (.invokevirtual 89, 3) := by decide +kernel
theorem dX10_order_13 : decode cX10_order 13 = .ok (.ifCond .ne 5, 3) := by decide +kernel
theorem dX10_order_16 : decode cX10_order 16 = .ok (.iconst (-1), 1) := by decide +kernel
theorem dX10_order_17 : decode cX10_order 17 = .ok (.ireturn, 1) := by decide +kernel
theorem dX10_order_18 : decode cX10_order 18 = .ok (.iconst 0, 1) := by decide +kernel
theorem dX10_order_19 : decode cX10_order 19 = .ok (.istore_n 3, 1) := by decide +kernel
theorem dX10_order_20 : decode cX10_order 20 = .ok (.iconst 0, 1) := by decide +kernel
theorem dX10_order_21 : decode cX10_order 21 = .ok (.istore 4, 2) := by decide +kernel
theorem dX10_order_23 : decode cX10_order 23 = .ok (.iconst 0, 1) := by decide +kernel
theorem dX10_order_24 : decode cX10_order 24 = .ok (.istore 5, 2) := by decide +kernel
theorem dX10_order_26 : decode cX10_order 26 = .ok (.iload 5, 2) := by decide +kernel
theorem dX10_order_28 : decode cX10_order 28 = .ok (.iload_n 2, 1) := by decide +kernel
theorem dX10_order_29 : decode cX10_order 29 = .ok (.if_icmp .gt 30, 3) := by decide +kernel
theorem dX10_order_32 : decode cX10_order 32 = .ok (.iload_n 1, 1) := by decide +kernel
theorem dX10_order_33 : decode cX10_order 33 = .ok (.aload_n 0, 1) := by decide +kernel
theorem dX10_order_34 : decode cX10_order 34 = .ok (.getfield 12, 3) := by decide +kernel
theorem dX10_order_37 : decode cX10_order 37 = .ok (.getfield 64, 3) := by decide +kernel
theorem dX10_order_40 : decode cX10_order 40 = .ok (.iload_n 3, 1) := by decide +kernel
theorem dX10_order_41 : decode cX10_order 41 = .ok (.invokestatic 115, 3) := by decide +kernel
theorem dX10_order_44 : decode cX10_order 44 = .ok (.istore 4, 2) := by decide +kernel
theorem dX10_order_46 : decode cX10_order 46 = .ok (.iload_n 3, 1) := by decide +kernel
theorem dX10_order_47 : decode cX10_order 47 = .ok (.iconst 1, 1) := by decide +kernel
theorem dX10_order_48 : decode cX10_order 48 = .ok (.iload 4, 2) := by decide +kernel
theorem dX10_order_50 : decode cX10_order 50 = .ok (.ishl, 1) := by decide +kernel
theorem dX10_order_51 : decode cX10_order 51 = .ok (.ior, 1) := by decide +kernel
theorem dX10_order_52 : decode cX10_order 52 = .ok (.istore_n 3, 1) := by decide +kernel
theorem dX10_order_53 : decode cX10_order 53 = .ok (.iinc 5 1, 3) := by decide +kernel
theorem dX10_order_56 : decode cX10_order 56 = .ok (.goto (-30), 3) := by decide +kernel
theorem dX10_order_59 : decode cX10_order 59 = .ok (.iload 4, 2) := by decide +kernel
theorem dX10_order_61 : decode cX10_order 61 = .ok (.ireturn, 1) := by decide +kernel
set_option maxRecDepth 20000 in
theorem ggX10_size_X10_isGraph : GoodIn wsX10_size wsX10_isGraph := goodIn_r _ [6, 7, 8, 9, 10, 11, 12, 13, 14, 15, 16, 17, 18, 19, 20, 21, 22, 23, 24, 25, 26, 27, 28, 29, 30, 114, 115, 116, 117, 118, 119, 120, 121, 122, 123, 124, 125] (by decide +kernel) (by decide +kernel)
set_option maxRecDepth 20000 in
theorem gX10_size_X10_isGraph : GoodIn wsX10_size (wsV RX10 112 RX10 yX10_isGraph wsX10_isGraph) := goodIn_app (goodIn_of _ (by decide +kernel)) ggX10_size_X10_isGraph
set_option maxRecDepth 20000 in
theorem ggX10_size_X10_isPart : GoodIn wsX10_size wsX10_isPart := goodIn_r _ [33] (by decide +kernel) (by decide +kernel)
set_option maxRecDepth 20000 in
theorem gX10_size_X10_isPart : GoodIn wsX10_size (va_wsS RX10 119 yX10_isPart wsX10_isPart) := goodIn_app (goodIn_of _ (by decide +kernel)) ggX10_size_X10_isPart
set_option maxRecDepth 20000 in
theorem ggX10_size_X2_ofGraph : GoodIn wsX10_size wsX2_ofGraph := goodIn_r _ [38, 39, 40, 41, 42, 43, 44, 45, 46, 47, 48, 49, 50, 51, 52, 53, 54, 29, 11, 30, 55, 56, 57, 58, 59, 60, 61, 62, 63, 64, 65, 66, 67, 68, 17, 18, 69, 70, 71, 72, 73, 74, 75, 76, 77, 78, 79, 80, 81, 82, 83, 84, 85, 86, 87, 88, 89, 90, 91, 92, 93, 94, 95, 96, 97, 98, 99, 100, 101, 102, 126, 127, 128, 129, 130, 131, 132, 133, 134, 135, 136, 120, 121, 122, 123, 124, 125, 137, 138, 139, 140] (by decide +kernel) (by decide +kernel)
set_option maxRecDepth 20000 in
theorem gX10_size_X2_ofGraph : GoodIn wsX10_size (wsV RX10 122 RX2 yX2_ofGraph wsX2_ofGraph) := goodIn_app (goodIn_of _ (by decide +kernel)) ggX10_size_X2_ofGraph
set_option maxRecDepth 20000 in
theorem ggX10_size_X3_side : GoodIn wsX10_size wsX3_side := goodIn_r _ [107, 108, 109, 134, 135, 136] (by decide +kernel) (by decide +kernel)
set_option maxRecDepth 20000 in
theorem gX10_size_X3_side : GoodIn wsX10_size (wsV RX10 126 RX3 yX3_side wsX3_side) := goodIn_app (goodIn_of _ (by decide +kernel)) ggX10_size_X3_side
set_option maxRecDepth 20000 in
theorem ggX10_size_X1_length : GoodIn wsX10_size wsX1_length := goodIn_r _ [113, 93, 139, 140] (by decide +kernel) (by decide +kernel)
set_option maxRecDepth 20000 in
theorem gX10_size_X1_length : GoodIn wsX10_size (wsV RX10 132 RX1 yX1_length wsX1_length) := goodIn_app (goodIn_of _ (by decide +kernel)) ggX10_size_X1_length
theorem dX10_size_0 : decode cX10_size 0 = .ok (.aload_n 0, 1) := by decide +kernel
theorem dX10_size_1 : decode cX10_size 1 = .ok (.iload_n 1, 1) := by decide +kernel
theorem dX10_size_2 : decode cX10_size 2 = .ok (.invokevirtual 112, 3) := by decide +kernel
theorem dX10_size_5 : decode cX10_size 5 = .ok (.ifCond .eq 10, 3) := by decide +kernel
theorem dX10_size_8 : decode cX10_size 8 = .ok (.iload_n 2, 1) := by decide +kernel
theorem dX10_size_9 : decode cX10_size 9 = .ok (.invokestatic 119, 3) := by decide +kernel
theorem dX10_size_12 : decode cX10_size 12 = .ok (.ifCond .ne 5, 3) := by decide +kernel
theorem dX10_size_15 : decode cX10_size 15 = .ok (.iconst (-1), 1) := by decide +kernel
theorem dX10_size_16 : decode cX10_size 16 = .ok (.ireturn, 1) := by decide +kernel
theorem dX10_size_17 : decode cX10_size 17 = .ok (.aload_n 0, 1) := by decide +kernel
theorem dX10_size_18 : decode cX10_size 18 = .ok (.getfield 28, 3) := by decide +kernel
theorem dX10_size_21 : decode cX10_size 21 = .ok (.iload_n 1, 1) := by decide +kernel
theorem dX10_size_22 : decode cX10_size 22 = .ok (.invokevirtual 122, 3) := by decide +kernel
theorem dX10_size_25 : decode cX10_size 25 = .ok (.iload_n 2, 1) := by decide +kernel
theorem dX10_size_26 : decode cX10_size 26 = .ok (.invokevirtual 126, 3) := by decide +kernel
theorem dX10_size_29 : decode cX10_size 29 = .ok (.invokevirtual 132, 3) := by decide +kernel
theorem dX10_size_32 : decode cX10_size 32 = .ok (.ireturn, 1) := by decide +kernel
set_option maxRecDepth 20000 in
theorem ggX10_word_X10_isGraph : GoodIn wsX10_word wsX10_isGraph := goodIn_r _ [7, 8, 9, 10, 11, 12, 13, 14, 15, 16, 17, 18, 19, 20, 21, 22, 23, 24, 25, 26, 27, 28, 29, 30, 31, 122, 123, 124, 125, 126, 127, 128, 129, 130, 131, 132, 133] (by decide +kernel) (by decide +kernel)
set_option maxRecDepth 20000 in
theorem gX10_word_X10_isGraph : GoodIn wsX10_word (wsV RX10 112 RX10 yX10_isGraph wsX10_isGraph) := goodIn_app (goodIn_of _ (by decide +kernel)) ggX10_word_X10_isGraph
set_option maxRecDepth 20000 in
theorem ggX10_word_X10_isPart : GoodIn wsX10_word wsX10_isPart := goodIn_r _ [34] (by decide +kernel) (by decide +kernel)
set_option maxRecDepth 20000 in
theorem gX10_word_X10_isPart : GoodIn wsX10_word (va_wsS RX10 119 yX10_isPart wsX10_isPart) := goodIn_app (goodIn_of _ (by decide +kernel)) ggX10_word_X10_isPart
set_option maxRecDepth 20000 in
theorem ggX10_word_X2_ofGraph : GoodIn wsX10_word wsX2_ofGraph := goodIn_r _ [39, 40, 41, 42, 43, 44, 45, 46, 47, 48, 49, 50, 51, 52, 53, 54, 55, 30, 12, 31, 56, 57, 58, 59, 60, 61, 62, 63, 64, 65, 66, 67, 68, 69, 18, 19, 70, 71, 72, 73, 74, 75, 76, 77, 78, 79, 80, 81, 82, 83, 84, 85, 86, 87, 88, 89, 90, 91, 92, 93, 94, 95, 96, 97, 98, 99, 100, 101, 102, 103, 134, 135, 136, 137, 138, 139, 140, 141, 142, 143, 144, 128, 129, 130, 131, 132, 133, 145, 146, 147, 148] (by decide +kernel) (by decide +kernel)
set_option maxRecDepth 20000 in
theorem gX10_word_X2_ofGraph : GoodIn wsX10_word (wsV RX10 122 RX2 yX2_ofGraph wsX2_ofGraph) := goodIn_app (goodIn_of _ (by decide +kernel)) ggX10_word_X2_ofGraph
set_option maxRecDepth 20000 in
theorem ggX10_word_X3_side : GoodIn wsX10_word wsX3_side := goodIn_r _ [108, 109, 110, 142, 143, 144] (by decide +kernel) (by decide +kernel)
set_option maxRecDepth 20000 in
theorem gX10_word_X3_side : GoodIn wsX10_word (wsV RX10 126 RX3 yX3_side wsX3_side) := goodIn_app (goodIn_of _ (by decide +kernel)) ggX10_word_X3_side
set_option maxRecDepth 20000 in
theorem ggX10_word_X10_wordOf : GoodIn wsX10_word wsX10_wordOf := goodIn_r _ [113, 1, 114, 115, 116, 92, 117, 94, 118, 119, 120, 121, 95, 147, 148] (by decide +kernel) (by decide +kernel)
set_option maxRecDepth 20000 in
theorem gX10_word_X10_wordOf : GoodIn wsX10_word (va_wsS RX10 140 yX10_wordOf wsX10_wordOf) := goodIn_app (goodIn_of _ (by decide +kernel)) ggX10_word_X10_wordOf
theorem dX10_word_0 : decode cX10_word 0 = .ok (.aload_n 0, 1) := by decide +kernel
theorem dX10_word_1 : decode cX10_word 1 = .ok (.iload_n 1, 1) := by decide +kernel
theorem dX10_word_2 : decode cX10_word 2 = .ok (.invokevirtual 112, 3) := by decide +kernel
theorem dX10_word_5 : decode cX10_word 5 = .ok (.ifCond .eq 10, 3) := by decide +kernel
theorem dX10_word_8 : decode cX10_word 8 = .ok (.iload_n 2, 1) := by decide +kernel
theorem dX10_word_9 : decode cX10_word 9 = .ok (.invokestatic 119, 3) := by decide +kernel
theorem dX10_word_12 : decode cX10_word 12 = .ok (.ifCond .ne 7, 3) := by decide +kernel
theorem dX10_word_15 : decode cX10_word 15 = .ok (.ldc2_w 138, 3) := by decide +kernel
theorem dX10_word_18 : decode cX10_word 18 = .ok (.lreturn, 1) := by decide +kernel
theorem dX10_word_19 : decode cX10_word 19 = .ok (.aload_n 0, 1) := by decide +kernel
theorem dX10_word_20 : decode cX10_word 20 = .ok (.getfield 28, 3) := by decide +kernel
theorem dX10_word_23 : decode cX10_word 23 = .ok (.iload_n 1, 1) := by decide +kernel
theorem dX10_word_24 : decode cX10_word 24 = .ok (.invokevirtual 122, 3) := by decide +kernel
theorem dX10_word_27 : decode cX10_word 27 = .ok (.iload_n 2, 1) := by decide +kernel
theorem dX10_word_28 : decode cX10_word 28 = .ok (.invokevirtual 126, 3) := by decide +kernel
theorem dX10_word_31 : decode cX10_word 31 = .ok (.iload_n 3, 1) := by decide +kernel
theorem dX10_word_32 : decode cX10_word 32 = .ok (.invokestatic 140, 3) := by decide +kernel
theorem dX10_word_35 : decode cX10_word 35 = .ok (.lreturn, 1) := by decide +kernel
set_option maxRecDepth 20000 in
theorem ggX10_compare_X10_isGraph : GoodIn wsX10_compare wsX10_isGraph := goodIn_r _ [6, 7, 8, 9, 10, 11, 12, 13, 14, 15, 16, 17, 18, 19, 20, 21, 22, 23, 24, 25, 26, 27, 28, 29, 30, 151, 152, 153, 154, 155, 156, 157, 158, 159, 160, 161, 162] (by decide +kernel) (by decide +kernel)
set_option maxRecDepth 20000 in
theorem gX10_compare_X10_isGraph : GoodIn wsX10_compare (wsV RX10 112 RX10 yX10_isGraph wsX10_isGraph) := goodIn_app (goodIn_of _ (by decide +kernel)) ggX10_compare_X10_isGraph
set_option maxRecDepth 20000 in
theorem ggX10_compare_X2_weigh : GoodIn wsX10_compare wsX2_weigh := goodIn_r _ [35, 36, 37, 38, 39, 40, 41, 42, 43, 44, 45, 46, 47, 48, 49, 29, 11, 30, 50, 51, 52, 34, 53, 54, 55, 56, 57, 58, 59, 60, 61, 62, 63, 64, 65, 66, 67, 68, 69, 70, 71, 72, 73, 74, 75, 76, 77, 78, 79, 80, 81, 82, 83, 84, 85, 86, 87, 88, 89, 90, 91, 92, 93, 94, 95, 96, 97, 98, 99, 100, 101, 17, 18, 102, 103, 104, 105, 106, 107, 108, 109, 110, 111, 112, 113, 114, 115, 116, 117, 118, 119, 120, 121, 122, 123, 124, 125, 126, 127, 128, 129, 130, 131, 132, 133, 134, 135, 136, 137, 138, 139, 140, 141, 142, 143, 144, 145, 146, 147, 148, 149, 150, 163, 164, 165, 166, 167, 168, 169, 170, 157, 158, 159, 160, 161, 162, 171, 172, 173, 174, 175, 176, 177] (by decide +kernel) (by decide +kernel)
set_option maxRecDepth 20000 in
theorem gX10_compare_X2_weigh : GoodIn wsX10_compare (wsV RX10 144 RX2 yX2_weigh wsX2_weigh) := goodIn_app (goodIn_of _ (by decide +kernel)) ggX10_compare_X2_weigh
theorem dX10_compare_0 : decode cX10_compare 0 = .ok (.aload_n 0, 1) := by decide +kernel
theorem dX10_compare_1 : decode cX10_compare 1 = .ok (.iload_n 1, 1) := by decide +kernel
theorem dX10_compare_2 : decode cX10_compare 2 = .ok (.invokevirtual 112, 3) := by decide +kernel
theorem dX10_compare_5 : decode cX10_compare 5 = .ok (.ifCond .eq 11, 3) := by decide +kernel
theorem dX10_compare_8 : decode cX10_compare 8 = .ok (.aload_n 0, 1) := by decide +kernel
theorem dX10_compare_9 : decode cX10_compare 9 = .ok (.iload_n 2, 1) := by decide +kernel
theorem dX10_compare_10 : decode cX10_compare 10 = .ok (.invokevirtual 112, 3) := by decide +kernel
theorem dX10_compare_13 : decode cX10_compare 13 = .ok (.ifCond .ne 5, 3) := by decide +kernel
theorem dX10_compare_16 : decode cX10_compare 16 = .ok (.iconst (-1), 1) := by decide +kernel
theorem dX10_compare_17 : decode cX10_compare 17 = .ok (.ireturn, 1) := by decide +kernel
theorem dX10_compare_18 : decode cX10_compare 18 = .ok (.aload_n 0, 1) := by decide +kernel
theorem dX10_compare_19 : decode cX10_compare 19 = .ok (.getfield 28, 3) := by decide +kernel
theorem dX10_compare_22 : decode cX10_compare 22 = .ok (.iload_n 1, 1) := by decide +kernel
theorem dX10_compare_23 : decode cX10_compare 23 = .ok (.iload_n 2, 1) := by decide +kernel
theorem dX10_compare_24 : decode cX10_compare 24 = .ok (.invokevirtual 144, 3) := by decide +kernel
theorem dX10_compare_27 : decode cX10_compare 27 = .ok (.iconst 1, 1) := by decide +kernel
theorem dX10_compare_28 : decode cX10_compare 28 = .ok (.iadd, 1) := by decide +kernel
theorem dX10_compare_29 : decode cX10_compare 29 = .ok (.ireturn, 1) := by decide +kernel
set_option maxRecDepth 20000 in
theorem ggX10_parents_X10_isName : GoodIn wsX10_parents wsX10_isName := goodIn_r _ [8, 1, 2, 157, 158, 159, 160, 161, 162, 163, 164, 165, 166, 167, 168] (by decide +kernel) (by decide +kernel)
set_option maxRecDepth 20000 in
theorem gX10_parents_X10_isName : GoodIn wsX10_parents (wsV RX10 89 RX10 yX10_isName wsX10_isName) := goodIn_app (goodIn_of _ (by decide +kernel)) ggX10_parents_X10_isName
set_option maxRecDepth 20000 in
theorem ggX10_parents_X0_isIn : GoodIn wsX10_parents wsX0_isIn := goodIn_r _ [12] (by decide +kernel) (by decide +kernel)
set_option maxRecDepth 20000 in
theorem gX10_parents_X0_isIn : GoodIn wsX10_parents (va_wsS RX10 147 yX0_isIn wsX0_isIn) := goodIn_app (goodIn_of _ (by decide +kernel)) ggX10_parents_X0_isIn
set_option maxRecDepth 20000 in
theorem ggX10_parents_X6_bestParents : GoodIn wsX10_parents wsX6_bestParents := goodIn_r _ [17, 18, 19, 20, 21, 22, 23, 24, 25, 26, 27, 28, 29, 11, 30, 31, 10, 12, 32, 33, 34, 35, 36, 37, 38, 39, 40, 41, 42, 43, 44, 45, 46, 47, 48, 49, 50, 51, 52, 53, 54, 55, 56, 57, 58, 59, 60, 61, 62, 63, 64, 65, 66, 67, 68, 69, 70, 71, 72, 73, 74, 75, 76, 77, 78, 79, 80, 81, 82, 83, 84, 85, 86, 87, 88, 89, 90, 91, 92, 93, 94, 95, 96, 97, 98, 99, 100, 101, 102, 103, 104, 105, 106, 107, 108, 109, 110, 111, 112, 113, 114, 115, 116, 117, 118, 119, 120, 121, 122, 123, 124, 125, 126, 127, 128, 129, 130, 131, 132, 133, 134, 135, 136, 137, 138, 139, 140, 141, 142, 143, 144, 145, 146, 147, 148, 149, 150, 151, 152, 153, 154, 155, 156, 169, 170, 171, 163, 164, 165, 166, 167, 168, 172, 173, 174, 175, 176, 177, 178, 179, 180, 181, 182, 183, 184, 185, 186] (by decide +kernel) (by decide +kernel)
set_option maxRecDepth 20000 in
theorem gX10_parents_X6_bestParents : GoodIn wsX10_parents (wsV RX10 150 RX6 yX6_bestParents wsX6_bestParents) := goodIn_app (goodIn_of _ (by decide +kernel)) ggX10_parents_X6_bestParents
theorem dX10_parents_0 : decode cX10_parents 0 = .ok (.aload_n 0, 1) := by decide +kernel
theorem dX10_parents_1 : decode cX10_parents 1 = .ok (.iload_n 1, 1) := by decide +kernel
theorem dX10_parents_2 : decode cX10_parents 2 = .ok (.invokevirtual 89, 3) := by decide +kernel
theorem dX10_parents_5 : decode cX10_parents 5 = .ok (.ifCond .eq 28, 3) := by decide +kernel
theorem dX10_parents_8 : decode cX10_parents 8 = .ok (.iload_n 2, 1) := by decide +kernel
theorem dX10_parents_9 : decode cX10_parents 9 = .ok (.ifCond .lt 24, 3) := by decide +kernel
theorem dX10_parents_12 : decode cX10_parents 12 = .ok (.iload_n 2, 1) := by decide +kernel
theorem dX10_parents_13 : decode cX10_parents 13 = .ok (.iconst 1, 1) := by decide +kernel
theorem dX10_parents_14 : decode cX10_parents 14 = .ok (.aload_n 0, 1) := by decide +kernel
theorem dX10_parents_15 : decode cX10_parents 15 = .ok (.getfield 12, 3) := by decide +kernel
theorem dX10_parents_18 : decode cX10_parents 18 = .ok (.getfield 64, 3) := by decide +kernel
theorem dX10_parents_21 : decode cX10_parents 21 = .ok (.ishl, 1) := by decide +kernel
theorem dX10_parents_22 : decode cX10_parents 22 = .ok (.if_icmp .ge 11, 3) := by decide +kernel
theorem dX10_parents_25 : decode cX10_parents 25 = .ok (.iload_n 2, 1) := by decide +kernel
theorem dX10_parents_26 : decode cX10_parents 26 = .ok (.iload_n 1, 1) := by decide +kernel
theorem dX10_parents_27 : decode cX10_parents 27 = .ok (.invokestatic 147, 3) := by decide +kernel
theorem dX10_parents_30 : decode cX10_parents 30 = .ok (.ifCond .eq 5, 3) := by decide +kernel
theorem dX10_parents_33 : decode cX10_parents 33 = .ok (.iconst (-1), 1) := by decide +kernel
theorem dX10_parents_34 : decode cX10_parents 34 = .ok (.ireturn, 1) := by decide +kernel
theorem dX10_parents_35 : decode cX10_parents 35 = .ok (.aload_n 0, 1) := by decide +kernel
theorem dX10_parents_36 : decode cX10_parents 36 = .ok (.getfield 37, 3) := by decide +kernel
theorem dX10_parents_39 : decode cX10_parents 39 = .ok (.iload_n 1, 1) := by decide +kernel
theorem dX10_parents_40 : decode cX10_parents 40 = .ok (.iload_n 2, 1) := by decide +kernel
theorem dX10_parents_41 : decode cX10_parents 41 = .ok (.invokevirtual 150, 3) := by decide +kernel
theorem dX10_parents_44 : decode cX10_parents 44 = .ok (.ireturn, 1) := by decide +kernel
set_option maxRecDepth 20000 in
theorem ggX10_best_X6_bestGraph : GoodIn wsX10_best wsX6_bestGraph := goodIn_r _ [6, 7, 8, 9, 10, 11, 12, 13, 14, 15, 5, 16, 17, 18, 19, 20, 21, 22, 23, 24, 25, 26, 27, 28, 29, 30, 31, 32, 33, 34, 35, 36, 37, 38, 39, 40, 41, 42, 43, 44, 45, 46, 47, 48, 49, 50, 51, 52, 53, 54, 55, 56, 57, 58, 59, 60, 61, 62, 63, 64, 65, 66, 67, 68, 69, 70, 71, 72, 73, 74, 75, 76, 77, 78, 79, 80, 81, 82, 83, 84, 85, 86, 87, 88, 89, 90, 91, 92, 93, 94, 95, 96, 97, 98, 99, 100, 101, 102, 103, 104, 105, 106, 107, 108, 109, 110, 111, 112, 113, 114, 115, 116, 117, 118, 119, 120, 121, 122, 123, 124, 125, 126, 127, 128, 129, 130, 131, 132, 133, 134, 135, 136, 137, 138, 139, 140, 141, 142, 143, 144, 145, 146, 147, 148, 149, 150, 151, 152, 153, 154, 155, 156, 157, 158, 159, 160, 161, 162, 163, 164, 165, 166, 167, 174, 175, 176, 177, 178, 179, 180, 181, 182, 183, 184, 185, 186, 187, 188, 189, 190, 191, 192, 193, 194, 195, 196, 197] (by decide +kernel) (by decide +kernel)
set_option maxRecDepth 20000 in
theorem gX10_best_X6_bestGraph : GoodIn wsX10_best (wsV RX10 153 RX6 yX6_bestGraph wsX6_bestGraph) := goodIn_app (goodIn_of _ (by decide +kernel)) ggX10_best_X6_bestGraph
theorem dX10_best_0 : decode cX10_best 0 = .ok (.aload_n 0, 1) := by decide +kernel
theorem dX10_best_1 : decode cX10_best 1 = .ok (.getfield 37, 3) := by decide +kernel
theorem dX10_best_4 : decode cX10_best 4 = .ok (.invokevirtual 153, 3) := by decide +kernel
theorem dX10_best_7 : decode cX10_best 7 = .ok (.ireturn, 1) := by decide +kernel
set_option maxRecDepth 20000 in
theorem ggX10_climb_X10_isGraph : GoodIn wsX10_climb wsX10_isGraph := goodIn_r _ [8, 1, 9, 10, 11, 12, 13, 14, 15, 16, 17, 18, 19, 20, 21, 22, 23, 24, 25, 26, 27, 28, 29, 30, 31, 189, 190, 191, 192, 193, 194, 195, 196, 197, 198, 199, 200] (by decide +kernel) (by decide +kernel)
set_option maxRecDepth 20000 in
theorem gX10_climb_X10_isGraph : GoodIn wsX10_climb (wsV RX10 112 RX10 yX10_isGraph wsX10_isGraph) := goodIn_app (goodIn_of _ (by decide +kernel)) ggX10_climb_X10_isGraph
set_option maxRecDepth 20000 in
theorem ggX10_climb_X0_areBounded : GoodIn wsX10_climb wsX0_areBounded := goodIn_r _ [34, 29, 30, 12, 31, 35, 36, 37, 38, 39, 40, 41] (by decide +kernel) (by decide +kernel)
set_option maxRecDepth 20000 in
theorem gX10_climb_X0_areBounded : GoodIn wsX10_climb (va_wsS RX10 156 yX0_areBounded wsX0_areBounded) := goodIn_app (goodIn_of _ (by decide +kernel)) ggX10_climb_X0_areBounded
set_option maxRecDepth 20000 in
theorem ggX10_climb_X6_climbFrom : GoodIn wsX10_climb wsX6_climbFrom := goodIn_r _ [46, 47, 48, 49, 50, 45, 51, 52, 53, 54, 21, 12, 22, 55, 56, 57, 20, 58, 59, 60, 61, 62, 63, 33, 34, 29, 30, 31, 35, 36, 37, 38, 39, 40, 41, 64, 24, 25, 26, 27, 28, 17, 18, 19, 65, 66, 67, 68, 69, 70, 71, 72, 73, 74, 75, 76, 77, 78, 79, 80, 81, 82, 83, 84, 85, 86, 87, 88, 89, 90, 91, 92, 93, 94, 95, 96, 97, 98, 99, 100, 101, 102, 103, 104, 105, 106, 107, 108, 109, 110, 111, 112, 113, 114, 115, 116, 117, 118, 119, 120, 121, 122, 123, 124, 125, 126, 127, 128, 129, 130, 131, 132, 133, 134, 135, 136, 137, 138, 139, 140, 141, 142, 143, 144, 145, 146, 147, 148, 149, 150, 151, 152, 153, 154, 155, 156, 157, 158, 159, 160, 161, 162, 163, 164, 165, 166, 167, 168, 169, 170, 171, 172, 173, 174, 175, 176, 177, 178, 179, 180, 181, 182, 183, 184, 185, 186, 187, 188, 201, 202, 203, 195, 196, 197, 198, 199, 200, 204, 205, 206, 207, 208, 209, 210, 211, 212, 213, 214, 215, 216, 217, 218] (by decide +kernel) (by decide +kernel)
set_option maxRecDepth 20000 in
theorem gX10_climb_X6_climbFrom : GoodIn wsX10_climb (wsV RX10 159 RX6 yX6_climbFrom wsX6_climbFrom) := goodIn_app (goodIn_of _ (by decide +kernel)) ggX10_climb_X6_climbFrom
theorem dX10_climb_0 : decode cX10_climb 0 = .ok (.aload_n 0, 1) := by decide +kernel
theorem dX10_climb_1 : decode cX10_climb 1 = .ok (.iload_n 1, 1) := by decide +kernel
theorem dX10_climb_2 : decode cX10_climb 2 = .ok (.invokevirtual 112, 3) := by decide +kernel
theorem dX10_climb_5 : decode cX10_climb 5 = .ok (.ifCond .eq 27, 3) := by decide +kernel
theorem dX10_climb_8 : decode cX10_climb 8 = .ok (.iload_n 1, 1) := by decide +kernel
theorem dX10_climb_9 : decode cX10_climb 9 = .ok (.aload_n 0, 1) := by decide +kernel
theorem dX10_climb_10 : decode cX10_climb 10 = .ok (.getfield 12, 3) := by decide +kernel
theorem dX10_climb_13 : decode cX10_climb 13 = .ok (.getfield 98, 3) := by decide +kernel
theorem dX10_climb_16 : decode cX10_climb 16 = .ok (.invokestatic 156, 3) := by decide +kernel
theorem dX10_climb_19 : decode cX10_climb 19 = .ok (.ifCond .eq 13, 3) := by decide +kernel
theorem dX10_climb_22 : decode cX10_climb 22 = .ok (.iload_n 2, 1) := by decide +kernel
theorem dX10_climb_23 : decode cX10_climb 23 = .ok (.ifCond .lt 9, 3) := by decide +kernel
theorem dX10_climb_26 : decode cX10_climb 26 = .ok (.iload_n 2, 1) := by decide +kernel
theorem dX10_climb_27 : decode cX10_climb 27 = .ok (.bipush 30, 2) := by decide +kernel
theorem dX10_climb_29 : decode cX10_climb 29 = .ok (.if_icmp .le 5, 3) := by decide +kernel
theorem dX10_climb_32 : decode cX10_climb 32 = .ok (.iconst (-1), 1) := by decide +kernel
theorem dX10_climb_33 : decode cX10_climb 33 = .ok (.ireturn, 1) := by decide +kernel
theorem dX10_climb_34 : decode cX10_climb 34 = .ok (.aload_n 0, 1) := by decide +kernel
theorem dX10_climb_35 : decode cX10_climb 35 = .ok (.getfield 37, 3) := by decide +kernel
theorem dX10_climb_38 : decode cX10_climb 38 = .ok (.iload_n 1, 1) := by decide +kernel
theorem dX10_climb_39 : decode cX10_climb 39 = .ok (.iload_n 2, 1) := by decide +kernel
theorem dX10_climb_40 : decode cX10_climb 40 = .ok (.invokevirtual 159, 3) := by decide +kernel
theorem dX10_climb_43 : decode cX10_climb 43 = .ok (.ireturn, 1) := by decide +kernel
set_option maxRecDepth 20000 in
theorem ggX10_alike_X10_isGraph : GoodIn wsX10_alike wsX10_isGraph := goodIn_r _ [5, 6, 7, 8, 9, 10, 11, 12, 13, 14, 15, 16, 17, 18, 19, 20, 21, 22, 23, 24, 25, 26, 27, 28, 29, 44, 45, 46, 47, 48, 49, 50, 51, 52, 53, 54, 55] (by decide +kernel) (by decide +kernel)
set_option maxRecDepth 20000 in
theorem gX10_alike_X10_isGraph : GoodIn wsX10_alike (wsV RX10 112 RX10 yX10_isGraph wsX10_isGraph) := goodIn_app (goodIn_of _ (by decide +kernel)) ggX10_alike_X10_isGraph
set_option maxRecDepth 20000 in
theorem ggX10_alike_X4_ties : GoodIn wsX10_alike wsX4_ties := goodIn_r _ [33, 34, 35, 10, 36, 18, 19, 20, 37] (by decide +kernel) (by decide +kernel)
set_option maxRecDepth 20000 in
theorem gX10_alike_X4_ties : GoodIn wsX10_alike (va_wsS RX10 162 yX4_ties wsX4_ties) := goodIn_app (goodIn_of _ (by decide +kernel)) ggX10_alike_X4_ties
set_option maxRecDepth 20000 in
theorem ggX10_alike_X4_meetings : GoodIn wsX10_alike wsX4_meetings := goodIn_r _ [40, 41, 31, 32, 33, 34, 35, 10, 36, 18, 19, 20, 37, 42, 28, 29, 43, 16, 17] (by decide +kernel) (by decide +kernel)
set_option maxRecDepth 20000 in
theorem gX10_alike_X4_meetings : GoodIn wsX10_alike (va_wsS RX10 167 yX4_meetings wsX4_meetings) := goodIn_app (goodIn_of _ (by decide +kernel)) ggX10_alike_X4_meetings
theorem dX10_alike_0 : decode cX10_alike 0 = .ok (.aload_n 0, 1) := by decide +kernel
theorem dX10_alike_1 : decode cX10_alike 1 = .ok (.iload_n 1, 1) := by decide +kernel
theorem dX10_alike_2 : decode cX10_alike 2 = .ok (.invokevirtual 112, 3) := by decide +kernel
theorem dX10_alike_5 : decode cX10_alike 5 = .ok (.ifCond .eq 11, 3) := by decide +kernel
theorem dX10_alike_8 : decode cX10_alike 8 = .ok (.aload_n 0, 1) := by decide +kernel
theorem dX10_alike_9 : decode cX10_alike 9 = .ok (.iload_n 2, 1) := by decide +kernel
theorem dX10_alike_10 : decode cX10_alike 10 = .ok (.invokevirtual 112, 3) := by decide +kernel
theorem dX10_alike_13 : decode cX10_alike 13 = .ok (.ifCond .ne 5, 3) := by decide +kernel
theorem dX10_alike_16 : decode cX10_alike 16 = .ok (.iconst (-1), 1) := by decide +kernel
theorem dX10_alike_17 : decode cX10_alike 17 = .ok (.ireturn, 1) := by decide +kernel
theorem dX10_alike_18 : decode cX10_alike 18 = .ok (.iload_n 1, 1) := by decide +kernel
theorem dX10_alike_19 : decode cX10_alike 19 = .ok (.invokestatic 162, 3) := by decide +kernel
theorem dX10_alike_22 : decode cX10_alike 22 = .ok (.iload_n 2, 1) := by decide +kernel
theorem dX10_alike_23 : decode cX10_alike 23 = .ok (.invokestatic 162, 3) := by decide +kernel
theorem dX10_alike_26 : decode cX10_alike 26 = .ok (.if_icmp .ne 19, 3) := by decide +kernel
theorem dX10_alike_29 : decode cX10_alike 29 = .ok (.iload_n 1, 1) := by decide +kernel
theorem dX10_alike_30 : decode cX10_alike 30 = .ok (.invokestatic 167, 3) := by decide +kernel
theorem dX10_alike_33 : decode cX10_alike 33 = .ok (.iload_n 2, 1) := by decide +kernel
theorem dX10_alike_34 : decode cX10_alike 34 = .ok (.invokestatic 167, 3) := by decide +kernel
theorem dX10_alike_37 : decode cX10_alike 37 = .ok (.lcmp, 1) := by decide +kernel
theorem dX10_alike_38 : decode cX10_alike 38 = .ok (.ifCond .ne 7, 3) := by decide +kernel
theorem dX10_alike_41 : decode cX10_alike 41 = .ok (.iconst 1, 1) := by decide +kernel
theorem dX10_alike_42 : decode cX10_alike 42 = .ok (.goto 4, 3) := by decide +kernel
theorem dX10_alike_45 : decode cX10_alike 45 = .ok (.iconst 0, 1) := by decide +kernel
theorem dX10_alike_46 : decode cX10_alike 46 = .ok (.istore_n 3, 1) := by decide +kernel
theorem dX10_alike_47 : decode cX10_alike 47 = .ok (.iload_n 3, 1) := by decide +kernel
theorem dX10_alike_48 : decode cX10_alike 48 = .ok (.ifCond .eq 7, 3) := by decide +kernel
theorem dX10_alike_51 : decode cX10_alike 51 = .ok (.iconst 1, 1) := by decide +kernel
theorem dX10_alike_52 : decode cX10_alike 52 = .ok (.goto 4, 3) := by decide +kernel
theorem dX10_alike_55 : decode cX10_alike 55 = .ok (.iconst 0, 1) := by decide +kernel
theorem dX10_alike_56 : decode cX10_alike 56 = .ok (.ireturn, 1) := by decide +kernel
set_option maxRecDepth 20000 in
theorem ggX10_kin_X10_isGraph : GoodIn wsX10_kin wsX10_isGraph := goodIn_r _ [14, 4, 5, 15, 16, 17, 18, 19, 20, 21, 22, 23, 24, 25, 26, 27, 28, 29, 30, 31, 32, 33, 34, 35, 36, 89, 90, 91, 92, 93, 94, 95, 96, 97, 98, 99, 100] (by decide +kernel) (by decide +kernel)
set_option maxRecDepth 20000 in
theorem gX10_kin_X10_isGraph : GoodIn wsX10_kin (wsV RX10 112 RX10 yX10_isGraph wsX10_isGraph) := goodIn_app (goodIn_of _ (by decide +kernel)) ggX10_kin_X10_isGraph
set_option maxRecDepth 20000 in
theorem ggX10_kin_X4_init : GoodIn wsX10_kin wsX4_init := goodIn_r _ [39, 40, 41, 42, 43, 44, 45, 46, 85, 86, 87, 88] (by decide +kernel) (by decide +kernel)
set_option maxRecDepth 20000 in
theorem gX10_kin_X4_init : GoodIn wsX10_kin (wsX4_init) := ggX10_kin_X4_init
set_option maxRecDepth 20000 in
theorem ggX10_kin_X4_gather : GoodIn wsX10_kin wsX4_gather := goodIn_r _ [50, 51, 52, 3, 53, 54, 55, 17, 56, 25, 26, 27, 57, 58, 59, 60, 61, 35, 36, 62, 23, 24, 63, 64, 65, 66, 67, 68, 69, 70, 71, 72, 73, 29, 30, 31, 32, 33, 22, 34, 74, 75, 76, 77, 43, 44, 78, 79, 80, 81, 45, 82, 83, 84, 46, 85, 86, 87, 88] (by decide +kernel) (by decide +kernel)
set_option maxRecDepth 20000 in
theorem gX10_kin_X4_gather : GoodIn wsX10_kin (wsV RX10 172 RX4 yX4_gather wsX4_gather) := goodIn_app (goodIn_of _ (by decide +kernel)) ggX10_kin_X4_gather
theorem dX10_kin_0 : decode cX10_kin 0 = .ok (.aload_n 0, 1) := by decide +kernel
theorem dX10_kin_1 : decode cX10_kin 1 = .ok (.iload_n 1, 1) := by decide +kernel
theorem dX10_kin_2 : decode cX10_kin 2 = .ok (.invokevirtual 112, 3) := by decide +kernel
theorem dX10_kin_5 : decode cX10_kin 5 = .ok (.ifCond .eq 12, 3) := by decide +kernel
theorem dX10_kin_8 : decode cX10_kin 8 = .ok (.iload_n 2, 1) := by decide +kernel
theorem dX10_kin_9 : decode cX10_kin 9 = .ok (.ifCond .lt 8, 3) := by decide +kernel
theorem dX10_kin_12 : decode cX10_kin 12 = .ok (.iload_n 2, 1) := by decide +kernel
theorem dX10_kin_13 : decode cX10_kin 13 = .ok (.iconst 3, 1) := by decide +kernel
theorem dX10_kin_14 : decode cX10_kin 14 = .ok (.if_icmp .le 5, 3) := by decide +kernel
theorem dX10_kin_17 : decode cX10_kin 17 = .ok (.iconst (-1), 1) := by decide +kernel
theorem dX10_kin_18 : decode cX10_kin 18 = .ok (.ireturn, 1) := by decide +kernel
theorem dX10_kin_19 : decode cX10_kin 19 = .ok (.new 163, 3) := by decide +kernel
theorem dX10_kin_22 : decode cX10_kin 22 = .ok (.dup, 1) := by decide +kernel
theorem dX10_kin_23 : decode cX10_kin 23 = .ok (.invokespecial 171, 3) := by decide +kernel
theorem dX10_kin_26 : decode cX10_kin 26 = .ok (.astore_n 3, 1) := by decide +kernel
theorem dX10_kin_27 : decode cX10_kin 27 = .ok (.aload_n 3, 1) := by decide +kernel
theorem dX10_kin_28 : decode cX10_kin 28 = .ok (.iload_n 1, 1) := by decide +kernel
theorem dX10_kin_29 : decode cX10_kin 29 = .ok (.aload_n 0, 1) := by decide +kernel
theorem dX10_kin_30 : decode cX10_kin 30 = .ok (.getfield 12, 3) := by decide +kernel
theorem dX10_kin_33 : decode cX10_kin 33 = .ok (.getfield 64, 3) := by decide +kernel
theorem dX10_kin_36 : decode cX10_kin 36 = .ok (.invokevirtual 172, 3) := by decide +kernel
theorem dX10_kin_39 : decode cX10_kin 39 = .ok (.iload_n 2, 1) := by decide +kernel
theorem dX10_kin_40 : decode cX10_kin 40 = .ok (.tableswitch 43 0 2 #[28, 33, 38], 28) := by decide +kernel
theorem dX10_kin_68 : decode cX10_kin 68 = .ok (.aload_n 3, 1) := by decide +kernel
theorem dX10_kin_69 : decode cX10_kin 69 = .ok (.getfield 176, 3) := by decide +kernel
theorem dX10_kin_72 : decode cX10_kin 72 = .ok (.ireturn, 1) := by decide +kernel
theorem dX10_kin_73 : decode cX10_kin 73 = .ok (.aload_n 3, 1) := by decide +kernel
theorem dX10_kin_74 : decode cX10_kin 74 = .ok (.getfield 179, 3) := by decide +kernel
theorem dX10_kin_77 : decode cX10_kin 77 = .ok (.ireturn, 1) := by decide +kernel
theorem dX10_kin_78 : decode cX10_kin 78 = .ok (.aload_n 3, 1) := by decide +kernel
theorem dX10_kin_79 : decode cX10_kin 79 = .ok (.getfield 182, 3) := by decide +kernel
theorem dX10_kin_82 : decode cX10_kin 82 = .ok (.ireturn, 1) := by decide +kernel
theorem dX10_kin_83 : decode cX10_kin 83 = .ok (.aload_n 3, 1) := by decide +kernel
theorem dX10_kin_84 : decode cX10_kin 84 = .ok (.getfield 185, 3) := by decide +kernel
theorem dX10_kin_87 : decode cX10_kin 87 = .ok (.ireturn, 1) := by decide +kernel
set_option maxRecDepth 20000 in
theorem ggX10_shareSize_X10_isPair : GoodIn wsX10_shareSize wsX10_isPair := goodIn_r _ [7, 8, 9, 10, 6, 11, 1, 2, 290, 291, 292, 293, 294, 295, 296, 297, 298, 299, 300, 301] (by decide +kernel) (by decide +kernel)
set_option maxRecDepth 20000 in
theorem gX10_shareSize_X10_isPair : GoodIn wsX10_shareSize (wsV RX10 188 RX10 yX10_isPair wsX10_isPair) := goodIn_app (goodIn_of _ (by decide +kernel)) ggX10_shareSize_X10_isPair
set_option maxRecDepth 20000 in
theorem ggX10_shareSize_X10_isPart : GoodIn wsX10_shareSize wsX10_isPart := goodIn_r _ [14] (by decide +kernel) (by decide +kernel)
set_option maxRecDepth 20000 in
theorem gX10_shareSize_X10_isPart : GoodIn wsX10_shareSize (va_wsS RX10 119 yX10_isPart wsX10_isPart) := goodIn_app (goodIn_of _ (by decide +kernel)) ggX10_shareSize_X10_isPart
set_option maxRecDepth 20000 in
theorem ggX10_shareSize_X10_shareOf : GoodIn wsX10_shareSize wsX10_shareOf := goodIn_r _ [18, 19, 20, 21, 22, 1, 23, 24, 25, 26, 27, 28, 29, 30, 31, 32, 33, 34, 35, 36, 37, 38, 39, 40, 41, 42, 43, 44, 45, 46, 47, 48, 49, 50, 51, 52, 53, 54, 55, 56, 57, 58, 59, 60, 61, 62, 63, 64, 65, 66, 67, 68, 69, 70, 71, 72, 73, 74, 75, 76, 77, 78, 79, 80, 81, 82, 83, 84, 85, 86, 87, 88, 89, 90, 91, 92, 93, 94, 95, 96, 97, 98, 99, 100, 101, 102, 103, 104, 105, 106, 107, 108, 109, 110, 111, 112, 113, 114, 115, 116, 117, 118, 119, 120, 121, 122, 123, 124, 125, 126, 127, 128, 129, 130, 131, 132, 133, 134, 135, 136, 137, 138, 139, 140, 141, 142, 143, 144, 145, 146, 147, 148, 149, 150, 151, 152, 153, 154, 155, 156, 157, 158, 159, 160, 161, 162, 163, 164, 165, 166, 167, 168, 169, 170, 171, 172, 173, 174, 175, 176, 177, 178, 179, 180, 181, 182, 183, 184, 185, 186, 187, 188, 189, 190, 191, 192, 193, 194, 195, 196, 197, 198, 199, 200, 201, 202, 203, 204, 205, 206, 207, 208, 209, 210, 211, 212, 213, 214, 215, 216, 217, 218, 219, 220, 221, 222, 223, 224, 225, 226, 227, 228, 229, 230, 231, 232, 233, 234, 235, 236, 237, 238, 239, 240, 241, 242, 243, 244, 245, 246, 247, 248, 249, 250, 251, 252, 253, 254, 255, 256, 257, 258, 259, 260, 261, 262, 263, 264, 265, 266, 267, 268, 269, 270, 271, 272, 273, 274, 275, 276, 277, 278, 279, 280, 281, 290, 291, 292, 293, 294, 295, 302, 303, 304, 305, 306, 307, 308, 309, 310, 311, 312, 313, 314, 315, 316, 317, 318, 319, 320, 296, 297, 298, 299, 300, 301] (by decide +kernel) (by decide +kernel)
set_option maxRecDepth 20000 in
theorem gX10_shareSize_X10_shareOf : GoodIn wsX10_shareSize (wsV RX10 191 RX10 yX10_shareOf wsX10_shareOf) := goodIn_app (goodIn_of _ (by decide +kernel)) ggX10_shareSize_X10_shareOf
set_option maxRecDepth 20000 in
theorem ggX10_shareSize_X3_side : GoodIn wsX10_shareSize wsX3_side := goodIn_r _ [285, 78, 79, 318, 319, 320] (by decide +kernel) (by decide +kernel)
set_option maxRecDepth 20000 in
theorem gX10_shareSize_X3_side : GoodIn wsX10_shareSize (wsV RX10 126 RX3 yX3_side wsX3_side) := goodIn_app (goodIn_of _ (by decide +kernel)) ggX10_shareSize_X3_side
set_option maxRecDepth 20000 in
theorem ggX10_shareSize_X1_length : GoodIn wsX10_shareSize wsX1_length := goodIn_r _ [289, 72, 316, 317] (by decide +kernel) (by decide +kernel)
set_option maxRecDepth 20000 in
theorem gX10_shareSize_X1_length : GoodIn wsX10_shareSize (wsV RX10 132 RX1 yX1_length wsX1_length) := goodIn_app (goodIn_of _ (by decide +kernel)) ggX10_shareSize_X1_length
theorem dX10_shareSize_0 : decode cX10_shareSize 0 = .ok (.aload_n 0, 1) := by decide +kernel
theorem dX10_shareSize_1 : decode cX10_shareSize 1 = .ok (.iload_n 1, 1) := by decide +kernel
theorem dX10_shareSize_2 : decode cX10_shareSize 2 = .ok (.iload_n 2, 1) := by decide +kernel
theorem dX10_shareSize_3 : decode cX10_shareSize 3 = .ok (.invokevirtual 188, 3) := by decide +kernel
theorem dX10_shareSize_6 : decode cX10_shareSize 6 = .ok (.ifCond .eq 10, 3) := by decide +kernel
theorem dX10_shareSize_9 : decode cX10_shareSize 9 = .ok (.iload_n 3, 1) := by decide +kernel
theorem dX10_shareSize_10 : decode cX10_shareSize 10 = .ok (.invokestatic 119, 3) := by decide +kernel
theorem dX10_shareSize_13 : decode cX10_shareSize 13 = .ok (.ifCond .ne 5, 3) := by decide +kernel
theorem dX10_shareSize_16 : decode cX10_shareSize 16 = .ok (.iconst (-1), 1) := by decide +kernel
theorem dX10_shareSize_17 : decode cX10_shareSize 17 = .ok (.ireturn, 1) := by decide +kernel
theorem dX10_shareSize_18 : decode cX10_shareSize 18 = .ok (.aload_n 0, 1) := by decide +kernel
theorem dX10_shareSize_19 : decode cX10_shareSize 19 = .ok (.getfield 12, 3) := by decide +kernel
theorem dX10_shareSize_22 : decode cX10_shareSize 22 = .ok (.getfield 64, 3) := by decide +kernel
theorem dX10_shareSize_25 : decode cX10_shareSize 25 = .ok (.iconst 4, 1) := by decide +kernel
theorem dX10_shareSize_26 : decode cX10_shareSize 26 = .ok (.if_icmp .le 6, 3) := by decide +kernel
theorem dX10_shareSize_29 : decode cX10_shareSize 29 = .ok (.bipush (-2), 2) := by decide +kernel
theorem dX10_shareSize_31 : decode cX10_shareSize 31 = .ok (.ireturn, 1) := by decide +kernel
theorem dX10_shareSize_32 : decode cX10_shareSize 32 = .ok (.aload_n 0, 1) := by decide +kernel
theorem dX10_shareSize_33 : decode cX10_shareSize 33 = .ok (.iload_n 1, 1) := by decide +kernel
theorem dX10_shareSize_34 : decode cX10_shareSize 34 = .ok (.iload_n 2, 1) := by decide +kernel
theorem dX10_shareSize_35 : decode cX10_shareSize 35 = .ok (.invokevirtual 191, 3) := by decide +kernel
theorem dX10_shareSize_38 : decode cX10_shareSize 38 = .ok (.iload_n 3, 1) := by decide +kernel
theorem dX10_shareSize_39 : decode cX10_shareSize 39 = .ok (.invokevirtual 126, 3) := by decide +kernel
theorem dX10_shareSize_42 : decode cX10_shareSize 42 = .ok (.invokevirtual 132, 3) := by decide +kernel
theorem dX10_shareSize_45 : decode cX10_shareSize 45 = .ok (.ireturn, 1) := by decide +kernel
set_option maxRecDepth 20000 in
theorem ggX10_shareWord_X10_isPair : GoodIn wsX10_shareWord wsX10_isPair := goodIn_r _ [9, 10, 11, 12, 8, 13, 2, 3, 296, 297, 298, 299, 300, 301, 302, 303, 304, 305, 306, 307] (by decide +kernel) (by decide +kernel)
set_option maxRecDepth 20000 in
theorem gX10_shareWord_X10_isPair : GoodIn wsX10_shareWord (wsV RX10 188 RX10 yX10_isPair wsX10_isPair) := goodIn_app (goodIn_of _ (by decide +kernel)) ggX10_shareWord_X10_isPair
set_option maxRecDepth 20000 in
theorem ggX10_shareWord_X10_isPart : GoodIn wsX10_shareWord wsX10_isPart := goodIn_r _ [16] (by decide +kernel) (by decide +kernel)
set_option maxRecDepth 20000 in
theorem gX10_shareWord_X10_isPart : GoodIn wsX10_shareWord (va_wsS RX10 119 yX10_isPart wsX10_isPart) := goodIn_app (goodIn_of _ (by decide +kernel)) ggX10_shareWord_X10_isPart
set_option maxRecDepth 20000 in
theorem ggX10_shareWord_X10_shareOf : GoodIn wsX10_shareWord wsX10_shareOf := goodIn_r _ [20, 21, 22, 23, 24, 2, 25, 26, 27, 28, 29, 30, 31, 32, 33, 34, 35, 36, 37, 38, 39, 40, 41, 42, 43, 44, 45, 46, 47, 48, 49, 50, 51, 52, 53, 54, 55, 56, 57, 58, 59, 60, 61, 62, 63, 64, 65, 66, 67, 68, 69, 70, 71, 72, 73, 74, 75, 76, 77, 78, 79, 80, 81, 82, 83, 84, 85, 86, 87, 88, 89, 90, 91, 92, 93, 94, 95, 96, 97, 98, 99, 100, 101, 102, 103, 104, 105, 106, 107, 108, 109, 110, 111, 112, 113, 114, 115, 116, 117, 118, 119, 120, 121, 122, 123, 124, 125, 126, 127, 128, 129, 130, 131, 132, 133, 134, 135, 136, 137, 138, 139, 140, 141, 142, 143, 144, 145, 146, 147, 148, 149, 150, 151, 152, 153, 154, 155, 156, 157, 158, 159, 160, 161, 162, 163, 164, 165, 166, 167, 168, 169, 170, 171, 172, 173, 174, 175, 176, 177, 178, 179, 180, 181, 182, 183, 184, 185, 186, 187, 188, 189, 190, 191, 192, 193, 194, 195, 196, 197, 198, 199, 200, 201, 202, 203, 204, 205, 206, 207, 208, 209, 210, 211, 212, 213, 214, 215, 216, 217, 218, 219, 220, 221, 222, 223, 224, 225, 226, 227, 228, 229, 230, 231, 232, 233, 234, 235, 236, 237, 238, 239, 240, 241, 242, 243, 244, 245, 246, 247, 248, 249, 250, 251, 252, 253, 254, 255, 256, 257, 258, 259, 260, 261, 262, 263, 264, 265, 266, 267, 268, 269, 270, 271, 272, 273, 274, 275, 276, 277, 278, 279, 280, 281, 282, 283, 296, 297, 298, 299, 300, 301, 308, 309, 310, 311, 312, 313, 314, 315, 316, 317, 318, 319, 320, 321, 322, 323, 324, 325, 326, 302, 303, 304, 305, 306, 307] (by decide +kernel) (by decide +kernel)
set_option maxRecDepth 20000 in
theorem gX10_shareWord_X10_shareOf : GoodIn wsX10_shareWord (wsV RX10 191 RX10 yX10_shareOf wsX10_shareOf) := goodIn_app (goodIn_of _ (by decide +kernel)) ggX10_shareWord_X10_shareOf
set_option maxRecDepth 20000 in
theorem ggX10_shareWord_X3_side : GoodIn wsX10_shareWord wsX3_side := goodIn_r _ [287, 80, 81, 324, 325, 326] (by decide +kernel) (by decide +kernel)
set_option maxRecDepth 20000 in
theorem gX10_shareWord_X3_side : GoodIn wsX10_shareWord (wsV RX10 126 RX3 yX3_side wsX3_side) := goodIn_app (goodIn_of _ (by decide +kernel)) ggX10_shareWord_X3_side
set_option maxRecDepth 20000 in
theorem ggX10_shareWord_X10_wordOf : GoodIn wsX10_shareWord wsX10_wordOf := goodIn_r _ [290, 1, 291, 292, 293, 41, 294, 74, 295, 256, 257, 258, 73, 322, 323] (by decide +kernel) (by decide +kernel)
set_option maxRecDepth 20000 in
theorem gX10_shareWord_X10_wordOf : GoodIn wsX10_shareWord (va_wsS RX10 140 yX10_wordOf wsX10_wordOf) := goodIn_app (goodIn_of _ (by decide +kernel)) ggX10_shareWord_X10_wordOf
theorem dX10_shareWord_0 : decode cX10_shareWord 0 = .ok (.aload_n 0, 1) := by decide +kernel
theorem dX10_shareWord_1 : decode cX10_shareWord 1 = .ok (.iload_n 1, 1) := by decide +kernel
theorem dX10_shareWord_2 : decode cX10_shareWord 2 = .ok (.iload_n 2, 1) := by decide +kernel
theorem dX10_shareWord_3 : decode cX10_shareWord 3 = .ok (.invokevirtual 188, 3) := by decide +kernel
theorem dX10_shareWord_6 : decode cX10_shareWord 6 = .ok (.ifCond .eq 10, 3) := by decide +kernel
theorem dX10_shareWord_9 : decode cX10_shareWord 9 = .ok (.iload_n 3, 1) := by decide +kernel
theorem dX10_shareWord_10 : decode cX10_shareWord 10 = .ok (.invokestatic 119, 3) := by decide +kernel
theorem dX10_shareWord_13 : decode cX10_shareWord 13 = .ok (.ifCond .ne 7, 3) := by decide +kernel
theorem dX10_shareWord_16 : decode cX10_shareWord 16 = .ok (.ldc2_w 138, 3) := by decide +kernel
theorem dX10_shareWord_19 : decode cX10_shareWord 19 = .ok (.lreturn, 1) := by decide +kernel
theorem dX10_shareWord_20 : decode cX10_shareWord 20 = .ok (.aload_n 0, 1) := by decide +kernel
theorem dX10_shareWord_21 : decode cX10_shareWord 21 = .ok (.getfield 12, 3) := by decide +kernel
theorem dX10_shareWord_24 : decode cX10_shareWord 24 = .ok (.getfield 64, 3) := by decide +kernel
theorem dX10_shareWord_27 : decode cX10_shareWord 27 = .ok (.iconst 4, 1) := by decide +kernel
theorem dX10_shareWord_28 : decode cX10_shareWord 28 = .ok (.if_icmp .le 7, 3) := by decide +kernel
theorem dX10_shareWord_31 : decode cX10_shareWord 31 = .ok (.ldc2_w 195, 3) := by decide +kernel
theorem dX10_shareWord_34 : decode cX10_shareWord 34 = .ok (.lreturn, 1) := by decide +kernel
theorem dX10_shareWord_35 : decode cX10_shareWord 35 = .ok (.aload_n 0, 1) := by decide +kernel
theorem dX10_shareWord_36 : decode cX10_shareWord 36 = .ok (.iload_n 1, 1) := by decide +kernel
theorem dX10_shareWord_37 : decode cX10_shareWord 37 = .ok (.iload_n 2, 1) := by decide +kernel
theorem dX10_shareWord_38 : decode cX10_shareWord 38 = .ok (.invokevirtual 191, 3) := by decide +kernel
theorem dX10_shareWord_41 : decode cX10_shareWord 41 = .ok (.iload_n 3, 1) := by decide +kernel
theorem dX10_shareWord_42 : decode cX10_shareWord 42 = .ok (.invokevirtual 126, 3) := by decide +kernel
theorem dX10_shareWord_45 : decode cX10_shareWord 45 = .ok (.iload 4, 2) := by decide +kernel
theorem dX10_shareWord_47 : decode cX10_shareWord 47 = .ok (.invokestatic 140, 3) := by decide +kernel
theorem dX10_shareWord_50 : decode cX10_shareWord 50 = .ok (.lreturn, 1) := by decide +kernel
set_option maxRecDepth 20000 in
theorem ggX10_test_X10_isPair : GoodIn wsX10_test wsX10_isPair := goodIn_r _ [7, 8, 9, 10, 6, 11, 12, 13, 79, 80, 81, 82, 83, 84, 85, 86, 87, 88, 89, 90] (by decide +kernel) (by decide +kernel)
set_option maxRecDepth 20000 in
theorem gX10_test_X10_isPair : GoodIn wsX10_test (wsV RX10 188 RX10 yX10_isPair wsX10_isPair) := goodIn_app (goodIn_of _ (by decide +kernel)) ggX10_test_X10_isPair
set_option maxRecDepth 20000 in
theorem ggX10_test_X10_isPart : GoodIn wsX10_test wsX10_isPart := goodIn_r _ [16] (by decide +kernel) (by decide +kernel)
set_option maxRecDepth 20000 in
theorem gX10_test_X10_isPart : GoodIn wsX10_test (va_wsS RX10 119 yX10_isPart wsX10_isPart) := goodIn_app (goodIn_of _ (by decide +kernel)) ggX10_test_X10_isPart
set_option maxRecDepth 20000 in
theorem ggX10_test_X10_isValue : GoodIn wsX10_test wsX10_isValue := goodIn_r _ [20, 12, 21, 22, 23, 24, 25, 26, 27, 79, 80, 81, 82, 83, 84, 85, 86, 87, 88, 89, 90] (by decide +kernel) (by decide +kernel)
set_option maxRecDepth 20000 in
theorem gX10_test_X10_isValue : GoodIn wsX10_test (wsV RX10 197 RX10 yX10_isValue wsX10_isValue) := goodIn_app (goodIn_of _ (by decide +kernel)) ggX10_test_X10_isValue
set_option maxRecDepth 20000 in
theorem ggX10_test_X9_count : GoodIn wsX10_test wsX9_count := goodIn_r _ [32, 33, 34, 35, 36, 37, 38, 39, 40, 24, 41, 42, 43, 44, 45, 46, 47, 48, 49, 50, 31, 51, 91, 92, 93, 94, 85, 86, 87, 88, 89, 90] (by decide +kernel) (by decide +kernel)
set_option maxRecDepth 20000 in
theorem gX10_test_X9_count : GoodIn wsX10_test (wsV RX10 200 RX9 yX9_count wsX9_count) := goodIn_app (goodIn_of _ (by decide +kernel)) ggX10_test_X9_count
set_option maxRecDepth 20000 in
theorem ggX10_test_X9_waysNotAbove : GoodIn wsX10_test wsX9_waysNotAbove := goodIn_r _ [55, 48, 49, 50, 31, 51, 33, 56, 57, 58, 59, 60, 61, 62, 63, 64, 65, 66, 36, 67, 68, 69, 70, 71, 72, 73, 74, 37, 91, 92, 93, 94] (by decide +kernel) (by decide +kernel)
set_option maxRecDepth 20000 in
theorem gX10_test_X9_waysNotAbove : GoodIn wsX10_test (wsV RX10 203 RX9 yX9_waysNotAbove wsX9_waysNotAbove) := goodIn_app (goodIn_of _ (by decide +kernel)) ggX10_test_X9_waysNotAbove
set_option maxRecDepth 20000 in
theorem ggX10_test_X9_allWays : GoodIn wsX10_test wsX9_allWays := goodIn_r _ [78, 71, 72, 73, 31, 74, 37, 56, 57, 58, 59, 60, 61, 62, 91, 92, 93, 94] (by decide +kernel) (by decide +kernel)
set_option maxRecDepth 20000 in
theorem gX10_test_X9_allWays : GoodIn wsX10_test (wsV RX10 207 RX9 yX9_allWays wsX9_allWays) := goodIn_app (goodIn_of _ (by decide +kernel)) ggX10_test_X9_allWays
theorem dX10_test_0 : decode cX10_test 0 = .ok (.aload_n 0, 1) := by decide +kernel
theorem dX10_test_1 : decode cX10_test 1 = .ok (.iload_n 1, 1) := by decide +kernel
theorem dX10_test_2 : decode cX10_test 2 = .ok (.iload_n 2, 1) := by decide +kernel
theorem dX10_test_3 : decode cX10_test 3 = .ok (.invokevirtual 188, 3) := by decide +kernel
theorem dX10_test_6 : decode cX10_test 6 = .ok (.ifCond .eq 11, 3) := by decide +kernel
theorem dX10_test_9 : decode cX10_test 9 = .ok (.iload 5, 2) := by decide +kernel
theorem dX10_test_11 : decode cX10_test 11 = .ok (.invokestatic 119, 3) := by decide +kernel
theorem dX10_test_14 : decode cX10_test 14 = .ok (.ifCond .ne 7, 3) := by decide +kernel
theorem dX10_test_17 : decode cX10_test 17 = .ok (.ldc2_w 138, 3) := by decide +kernel
theorem dX10_test_20 : decode cX10_test 20 = .ok (.lreturn, 1) := by decide +kernel
theorem dX10_test_21 : decode cX10_test 21 = .ok (.iload_n 3, 1) := by decide +kernel
theorem dX10_test_22 : decode cX10_test 22 = .ok (.iconst (-1), 1) := by decide +kernel
theorem dX10_test_23 : decode cX10_test 23 = .ok (.if_icmp .eq 35, 3) := by decide +kernel
theorem dX10_test_26 : decode cX10_test 26 = .ok (.aload_n 0, 1) := by decide +kernel
theorem dX10_test_27 : decode cX10_test 27 = .ok (.iload_n 1, 1) := by decide +kernel
theorem dX10_test_28 : decode cX10_test 28 = .ok (.iload_n 3, 1) := by decide +kernel
theorem dX10_test_29 : decode cX10_test 29 = .ok (.invokevirtual 188, 3) := by decide +kernel
theorem dX10_test_32 : decode cX10_test 32 = .ok (.ifCond .eq 22, 3) := by decide +kernel
theorem dX10_test_35 : decode cX10_test 35 = .ok (.aload_n 0, 1) := by decide +kernel
theorem dX10_test_36 : decode cX10_test 36 = .ok (.iload_n 2, 1) := by decide +kernel
theorem dX10_test_37 : decode cX10_test 37 = .ok (.iload_n 3, 1) := by decide +kernel
theorem dX10_test_38 : decode cX10_test 38 = .ok (.invokevirtual 188, 3) := by decide +kernel
theorem dX10_test_41 : decode cX10_test 41 = .ok (.ifCond .eq 13, 3) := by decide +kernel
theorem dX10_test_44 : decode cX10_test 44 = .ok (.aload_n 0, 1) := by decide +kernel
theorem dX10_test_45 : decode cX10_test 45 = .ok (.iload_n 3, 1) := by decide +kernel
theorem dX10_test_46 : decode cX10_test 46 = .ok (.iload 4, 2) := by decide +kernel
theorem dX10_test_48 : decode cX10_test 48 = .ok (.invokevirtual 197, 3) := by decide +kernel
theorem dX10_test_51 : decode cX10_test 51 = .ok (.ifCond .ne 7, 3) := by decide +kernel
theorem dX10_test_54 : decode cX10_test 54 = .ok (.ldc2_w 138, 3) := by decide +kernel
theorem dX10_test_57 : decode cX10_test 57 = .ok (.lreturn, 1) := by decide +kernel
theorem dX10_test_58 : decode cX10_test 58 = .ok (.aload_n 0, 1) := by decide +kernel
theorem dX10_test_59 : decode cX10_test 59 = .ok (.getfield 46, 3) := by decide +kernel
theorem dX10_test_62 : decode cX10_test 62 = .ok (.iload_n 1, 1) := by decide +kernel
theorem dX10_test_63 : decode cX10_test 63 = .ok (.iload_n 2, 1) := by decide +kernel
theorem dX10_test_64 : decode cX10_test 64 = .ok (.iload_n 3, 1) := by decide +kernel
theorem dX10_test_65 : decode cX10_test 65 = .ok (.iload 4, 2) := by decide +kernel
theorem dX10_test_67 : decode cX10_test 67 = .ok (.invokevirtual 200, 3) := by decide +kernel
theorem dX10_test_70 : decode cX10_test 70 = .ok (.iload 5, 2) := by decide +kernel
theorem dX10_test_72 : decode cX10_test 72 = .ok (.ifCond .ne 13, 3) := by decide +kernel
theorem dX10_test_75 : decode cX10_test 75 = .ok (.aload_n 0, 1) := by decide +kernel
theorem dX10_test_76 : decode cX10_test 76 = .ok (.getfield 46, 3) := by decide +kernel
theorem dX10_test_79 : decode cX10_test 79 = .ok (.invokevirtual 203, 3) := by decide +kernel
theorem dX10_test_82 : decode cX10_test 82 = .ok (.goto 10, 3) := by decide +kernel
theorem dX10_test_85 : decode cX10_test 85 = .ok (.aload_n 0, 1) := by decide +kernel
theorem dX10_test_86 : decode cX10_test 86 = .ok (.getfield 46, 3) := by decide +kernel
theorem dX10_test_89 : decode cX10_test 89 = .ok (.invokevirtual 207, 3) := by decide +kernel
theorem dX10_test_92 : decode cX10_test 92 = .ok (.lreturn, 1) := by decide +kernel
theorem dX10_isName_0 : decode cX10_isName 0 = .ok (.iload_n 1, 1) := by decide +kernel
theorem dX10_isName_1 : decode cX10_isName 1 = .ok (.ifCond .lt 18, 3) := by decide +kernel
theorem dX10_isName_4 : decode cX10_isName 4 = .ok (.iload_n 1, 1) := by decide +kernel
theorem dX10_isName_5 : decode cX10_isName 5 = .ok (.aload_n 0, 1) := by decide +kernel
theorem dX10_isName_6 : decode cX10_isName 6 = .ok (.getfield 12, 3) := by decide +kernel
theorem dX10_isName_9 : decode cX10_isName 9 = .ok (.getfield 64, 3) := by decide +kernel
theorem dX10_isName_12 : decode cX10_isName 12 = .ok (.if_icmp .ge 7, 3) := by decide +kernel
theorem dX10_isName_15 : decode cX10_isName 15 = .ok (.iconst 1, 1) := by decide +kernel
theorem dX10_isName_16 : decode cX10_isName 16 = .ok (.goto 4, 3) := by decide +kernel
theorem dX10_isName_19 : decode cX10_isName 19 = .ok (.iconst 0, 1) := by decide +kernel
theorem dX10_isName_20 : decode cX10_isName 20 = .ok (.ireturn, 1) := by decide +kernel
set_option maxRecDepth 20000 in
theorem ggX10_isPair_X10_isName : GoodIn wsX10_isPair wsX10_isName := goodIn_r _ [5, 6, 7, 8, 9, 10, 11, 12, 13, 14, 15, 16, 17, 18, 19] (by decide +kernel) (by decide +kernel)
set_option maxRecDepth 20000 in
theorem gX10_isPair_X10_isName : GoodIn wsX10_isPair (wsV RX10 89 RX10 yX10_isName wsX10_isName) := goodIn_app (goodIn_of _ (by decide +kernel)) ggX10_isPair_X10_isName
theorem dX10_isPair_0 : decode cX10_isPair 0 = .ok (.aload_n 0, 1) := by decide +kernel
theorem dX10_isPair_1 : decode cX10_isPair 1 = .ok (.iload_n 1, 1) := by decide +kernel
theorem dX10_isPair_2 : decode cX10_isPair 2 = .ok (.invokevirtual 89, 3) := by decide +kernel
theorem dX10_isPair_5 : decode cX10_isPair 5 = .ok (.ifCond .eq 20, 3) := by decide +kernel
theorem dX10_isPair_8 : decode cX10_isPair 8 = .ok (.aload_n 0, 1) := by decide +kernel
theorem dX10_isPair_9 : decode cX10_isPair 9 = .ok (.iload_n 2, 1) := by decide +kernel
theorem dX10_isPair_10 : decode cX10_isPair 10 = .ok (.invokevirtual 89, 3) := by decide +kernel
theorem dX10_isPair_13 : decode cX10_isPair 13 = .ok (.ifCond .eq 12, 3) := by decide +kernel
theorem dX10_isPair_16 : decode cX10_isPair 16 = .ok (.iload_n 1, 1) := by decide +kernel
theorem dX10_isPair_17 : decode cX10_isPair 17 = .ok (.iload_n 2, 1) := by decide +kernel
theorem dX10_isPair_18 : decode cX10_isPair 18 = .ok (.if_icmp .eq 7, 3) := by decide +kernel
theorem dX10_isPair_21 : decode cX10_isPair 21 = .ok (.iconst 1, 1) := by decide +kernel
theorem dX10_isPair_22 : decode cX10_isPair 22 = .ok (.goto 4, 3) := by decide +kernel
theorem dX10_isPair_25 : decode cX10_isPair 25 = .ok (.iconst 0, 1) := by decide +kernel
theorem dX10_isPair_26 : decode cX10_isPair 26 = .ok (.ireturn, 1) := by decide +kernel
theorem dX10_isRow_0 : decode cX10_isRow 0 = .ok (.iload_n 1, 1) := by decide +kernel
theorem dX10_isRow_1 : decode cX10_isRow 1 = .ok (.ifCond .lt 18, 3) := by decide +kernel
theorem dX10_isRow_4 : decode cX10_isRow 4 = .ok (.iload_n 1, 1) := by decide +kernel
theorem dX10_isRow_5 : decode cX10_isRow 5 = .ok (.aload_n 0, 1) := by decide +kernel
theorem dX10_isRow_6 : decode cX10_isRow 6 = .ok (.getfield 12, 3) := by decide +kernel
theorem dX10_isRow_9 : decode cX10_isRow 9 = .ok (.getfield 54, 3) := by decide +kernel
theorem dX10_isRow_12 : decode cX10_isRow 12 = .ok (.if_icmp .ge 7, 3) := by decide +kernel
theorem dX10_isRow_15 : decode cX10_isRow 15 = .ok (.iconst 1, 1) := by decide +kernel
theorem dX10_isRow_16 : decode cX10_isRow 16 = .ok (.goto 4, 3) := by decide +kernel
theorem dX10_isRow_19 : decode cX10_isRow 19 = .ok (.iconst 0, 1) := by decide +kernel
theorem dX10_isRow_20 : decode cX10_isRow 20 = .ok (.ireturn, 1) := by decide +kernel
set_option maxRecDepth 20000 in
theorem ggX10_isValue_X8_valuesOf : GoodIn wsX10_isValue wsX8_valuesOf := goodIn_r _ [6, 7, 8, 15, 16, 17, 18, 19, 20] (by decide +kernel) (by decide +kernel)
set_option maxRecDepth 20000 in
theorem gX10_isValue_X8_valuesOf : GoodIn wsX10_isValue (wsV RX10 104 RX8 yX8_valuesOf wsX8_valuesOf) := goodIn_app (goodIn_of _ (by decide +kernel)) ggX10_isValue_X8_valuesOf
theorem dX10_isValue_0 : decode cX10_isValue 0 = .ok (.iload_n 2, 1) := by decide +kernel
theorem dX10_isValue_1 : decode cX10_isValue 1 = .ok (.ifCond .lt 19, 3) := by decide +kernel
theorem dX10_isValue_4 : decode cX10_isValue 4 = .ok (.iload_n 2, 1) := by decide +kernel
theorem dX10_isValue_5 : decode cX10_isValue 5 = .ok (.aload_n 0, 1) := by decide +kernel
theorem dX10_isValue_6 : decode cX10_isValue 6 = .ok (.getfield 12, 3) := by decide +kernel
theorem dX10_isValue_9 : decode cX10_isValue 9 = .ok (.iload_n 1, 1) := by decide +kernel
theorem dX10_isValue_10 : decode cX10_isValue 10 = .ok (.invokevirtual 104, 3) := by decide +kernel
theorem dX10_isValue_13 : decode cX10_isValue 13 = .ok (.if_icmp .ge 7, 3) := by decide +kernel
theorem dX10_isValue_16 : decode cX10_isValue 16 = .ok (.iconst 1, 1) := by decide +kernel
theorem dX10_isValue_17 : decode cX10_isValue 17 = .ok (.goto 4, 3) := by decide +kernel
theorem dX10_isValue_20 : decode cX10_isValue 20 = .ok (.iconst 0, 1) := by decide +kernel
theorem dX10_isValue_21 : decode cX10_isValue 21 = .ok (.ireturn, 1) := by decide +kernel
theorem dX10_isPart_0 : decode cX10_isPart 0 = .ok (.iload_n 0, 1) := by decide +kernel
theorem dX10_isPart_1 : decode cX10_isPart 1 = .ok (.ifCond .eq 8, 3) := by decide +kernel
theorem dX10_isPart_4 : decode cX10_isPart 4 = .ok (.iload_n 0, 1) := by decide +kernel
theorem dX10_isPart_5 : decode cX10_isPart 5 = .ok (.iconst 1, 1) := by decide +kernel
theorem dX10_isPart_6 : decode cX10_isPart 6 = .ok (.if_icmp .ne 7, 3) := by decide +kernel
theorem dX10_isPart_9 : decode cX10_isPart 9 = .ok (.iconst 1, 1) := by decide +kernel
theorem dX10_isPart_10 : decode cX10_isPart 10 = .ok (.goto 4, 3) := by decide +kernel
theorem dX10_isPart_13 : decode cX10_isPart 13 = .ok (.iconst 0, 1) := by decide +kernel
theorem dX10_isPart_14 : decode cX10_isPart 14 = .ok (.ireturn, 1) := by decide +kernel
set_option maxRecDepth 20000 in
theorem ggX10_fitsName_X10_isName : GoodIn wsX10_fitsName wsX10_isName := goodIn_r _ [5, 6, 7, 19, 20, 21, 22, 23, 24, 25, 26, 27, 28, 29, 30] (by decide +kernel) (by decide +kernel)
set_option maxRecDepth 20000 in
theorem gX10_fitsName_X10_isName : GoodIn wsX10_fitsName (wsV RX10 89 RX10 yX10_isName wsX10_isName) := goodIn_app (goodIn_of _ (by decide +kernel)) ggX10_fitsName_X10_isName
set_option maxRecDepth 20000 in
theorem ggX10_fitsName_X10_isValue : GoodIn wsX10_fitsName wsX10_isValue := goodIn_r _ [11, 6, 12, 13, 14, 15, 16, 17, 18, 19, 20, 21, 22, 23, 24, 25, 26, 27, 28, 29, 30] (by decide +kernel) (by decide +kernel)
set_option maxRecDepth 20000 in
theorem gX10_fitsName_X10_isValue : GoodIn wsX10_fitsName (wsV RX10 197 RX10 yX10_isValue wsX10_isValue) := goodIn_app (goodIn_of _ (by decide +kernel)) ggX10_fitsName_X10_isValue
theorem dX10_fitsName_0 : decode cX10_fitsName 0 = .ok (.aload_n 0, 1) := by decide +kernel
theorem dX10_fitsName_1 : decode cX10_fitsName 1 = .ok (.iload_n 1, 1) := by decide +kernel
theorem dX10_fitsName_2 : decode cX10_fitsName 2 = .ok (.invokevirtual 89, 3) := by decide +kernel
theorem dX10_fitsName_5 : decode cX10_fitsName 5 = .ok (.ifCond .eq 12, 3) := by decide +kernel
theorem dX10_fitsName_8 : decode cX10_fitsName 8 = .ok (.aload_n 0, 1) := by decide +kernel
theorem dX10_fitsName_9 : decode cX10_fitsName 9 = .ok (.iload_n 1, 1) := by decide +kernel
theorem dX10_fitsName_10 : decode cX10_fitsName 10 = .ok (.iload_n 2, 1) := by decide +kernel
theorem dX10_fitsName_11 : decode cX10_fitsName 11 = .ok (.invokevirtual 197, 3) := by decide +kernel
theorem dX10_fitsName_14 : decode cX10_fitsName 14 = .ok (.ifCond .eq 7, 3) := by decide +kernel
theorem dX10_fitsName_17 : decode cX10_fitsName 17 = .ok (.iconst 1, 1) := by decide +kernel
theorem dX10_fitsName_18 : decode cX10_fitsName 18 = .ok (.goto 4, 3) := by decide +kernel
theorem dX10_fitsName_21 : decode cX10_fitsName 21 = .ok (.iconst 0, 1) := by decide +kernel
theorem dX10_fitsName_22 : decode cX10_fitsName 22 = .ok (.ireturn, 1) := by decide +kernel
set_option maxRecDepth 20000 in
theorem ggX10_coded_X10_isName : GoodIn wsX10_coded wsX10_isName := goodIn_r _ [5, 6, 7, 8, 9, 10, 11, 12, 13, 14, 15, 16, 17, 18, 19] (by decide +kernel) (by decide +kernel)
set_option maxRecDepth 20000 in
theorem gX10_coded_X10_isName : GoodIn wsX10_coded (wsV RX10 89 RX10 yX10_isName wsX10_isName) := goodIn_app (goodIn_of _ (by decide +kernel)) ggX10_coded_X10_isName
theorem dX10_coded_0 : decode cX10_coded 0 = .ok (.aload_n 0, 1) := by decide +kernel
theorem dX10_coded_1 : decode cX10_coded 1 = .ok (.iload_n 1, 1) := by decide +kernel
theorem dX10_coded_2 : decode cX10_coded 2 = .ok (.invokevirtual 89, 3) := by decide +kernel
theorem dX10_coded_5 : decode cX10_coded 5 = .ok (.ifCond .eq 11, 3) := by decide +kernel
theorem dX10_coded_8 : decode cX10_coded 8 = .ok (.iload_n 2, 1) := by decide +kernel
theorem dX10_coded_9 : decode cX10_coded 9 = .ok (.iconst 2, 1) := by decide +kernel
theorem dX10_coded_10 : decode cX10_coded 10 = .ok (.iload_n 1, 1) := by decide +kernel
theorem dX10_coded_11 : decode cX10_coded 11 = .ok (.imul, 1) := by decide +kernel
theorem dX10_coded_12 : decode cX10_coded 12 = .ok (.ishl, 1) := by decide +kernel
theorem dX10_coded_13 : decode cX10_coded 13 = .ok (.goto 4, 3) := by decide +kernel
theorem dX10_coded_16 : decode cX10_coded 16 = .ok (.iconst 0, 1) := by decide +kernel
theorem dX10_coded_17 : decode cX10_coded 17 = .ok (.ireturn, 1) := by decide +kernel
set_option maxRecDepth 20000 in
theorem ggX10_wordOf_X1_length : GoodIn wsX10_wordOf wsX1_length := goodIn_r _ [6, 7, 13, 14] (by decide +kernel) (by decide +kernel)
set_option maxRecDepth 20000 in
theorem gX10_wordOf_X1_length : GoodIn wsX10_wordOf (wsV RX10 132 RX1 yX1_length wsX1_length) := goodIn_app (goodIn_of _ (by decide +kernel)) ggX10_wordOf_X1_length
set_option maxRecDepth 20000 in
theorem ggX10_wordOf_X1_at : GoodIn wsX10_wordOf wsX1_at := goodIn_r _ [11, 7, 12, 13, 14] (by decide +kernel) (by decide +kernel)
set_option maxRecDepth 20000 in
theorem gX10_wordOf_X1_at : GoodIn wsX10_wordOf (wsV RX10 210 RX1 yX1_at wsX1_at) := goodIn_app (goodIn_of _ (by decide +kernel)) ggX10_wordOf_X1_at
theorem dX10_wordOf_0 : decode cX10_wordOf 0 = .ok (.iload_n 1, 1) := by decide +kernel
theorem dX10_wordOf_1 : decode cX10_wordOf 1 = .ok (.ifCond .lt 19, 3) := by decide +kernel
theorem dX10_wordOf_4 : decode cX10_wordOf 4 = .ok (.iload_n 1, 1) := by decide +kernel
theorem dX10_wordOf_5 : decode cX10_wordOf 5 = .ok (.aload_n 0, 1) := by decide +kernel
theorem dX10_wordOf_6 : decode cX10_wordOf 6 = .ok (.invokevirtual 132, 3) := by decide +kernel
theorem dX10_wordOf_9 : decode cX10_wordOf 9 = .ok (.if_icmp .ge 11, 3) := by decide +kernel
theorem dX10_wordOf_12 : decode cX10_wordOf 12 = .ok (.aload_n 0, 1) := by decide +kernel
theorem dX10_wordOf_13 : decode cX10_wordOf 13 = .ok (.iload_n 1, 1) := by decide +kernel
theorem dX10_wordOf_14 : decode cX10_wordOf 14 = .ok (.invokevirtual 210, 3) := by decide +kernel
theorem dX10_wordOf_17 : decode cX10_wordOf 17 = .ok (.goto 6, 3) := by decide +kernel
theorem dX10_wordOf_20 : decode cX10_wordOf 20 = .ok (.ldc2_w 138, 3) := by decide +kernel
theorem dX10_wordOf_23 : decode cX10_wordOf 23 = .ok (.lreturn, 1) := by decide +kernel
set_option maxRecDepth 20000 in
theorem ggX10_shareOf_X7_init : GoodIn wsX10_shareOf wsX7_init := goodIn_r _ [9, 10, 11, 12, 13, 14, 15, 16, 17, 18, 19, 20, 21, 22, 23, 24, 25, 26, 27, 28, 29, 30, 31, 32, 33, 34, 35, 36, 37, 38, 39, 40, 41, 42, 43, 44, 45, 46, 47, 48, 49, 50, 51, 52, 53, 54, 55, 56, 57, 58, 59, 60, 61, 62, 63, 64, 271, 272, 273, 274, 275, 276, 277, 278, 279, 280, 281, 282, 283, 284, 285, 286, 287, 288, 289] (by decide +kernel) (by decide +kernel)
set_option maxRecDepth 20000 in
theorem gX10_shareOf_X7_init : GoodIn wsX10_shareOf (wsX7_init) := ggX10_shareOf_X7_init
set_option maxRecDepth 20000 in
theorem ggX10_shareOf_X7_of : GoodIn wsX10_shareOf wsX7_of := goodIn_r _ [68, 31, 69, 32, 33, 13, 70, 71, 72, 73, 74, 75, 4, 76, 14, 18, 77, 78, 79, 80, 81, 41, 42, 43, 44, 82, 83, 84, 85, 86, 87, 88, 89, 90, 91, 17, 92, 40, 39, 93, 94, 95, 96, 97, 98, 99, 100, 101, 102, 103, 104, 105, 106, 107, 108, 109, 110, 111, 112, 113, 114, 115, 116, 117, 50, 51, 52, 118, 119, 120, 121, 122, 123, 124, 125, 126, 127, 128, 129, 130, 131, 132, 133, 20, 24, 134, 135, 136, 22, 137, 55, 54, 138, 139, 140, 141, 142, 143, 144, 145, 146, 147, 148, 149, 150, 151, 152, 153, 154, 155, 156, 157, 158, 159, 160, 161, 49, 162, 163, 164, 165, 166, 167, 168, 169, 170, 171, 172, 173, 174, 175, 176, 177, 178, 179, 180, 181, 25, 182, 183, 184, 185, 23, 186, 187, 188, 189, 190, 191, 192, 193, 194, 195, 196, 197, 198, 199, 200, 201, 202, 203, 204, 205, 206, 207, 208, 209, 210, 211, 212, 213, 214, 215, 216, 217, 26, 27, 218, 219, 220, 221, 222, 223, 224, 225, 226, 227, 228, 229, 230, 231, 232, 233, 234, 235, 236, 237, 238, 239, 240, 241, 242, 243, 244, 245, 246, 247, 248, 249, 250, 251, 252, 253, 254, 255, 256, 257, 258, 259, 260, 261, 262, 263, 264, 271, 272, 273, 274, 275, 276, 277, 278, 279, 280, 281, 282, 287, 288, 289, 290, 291, 292, 293, 294, 295, 283, 284, 285, 286] (by decide +kernel) (by decide +kernel)
set_option maxRecDepth 20000 in
theorem gX10_shareOf_X7_of : GoodIn wsX10_shareOf (wsV RX10 216 RX7 yX7_of wsX7_of) := goodIn_app (goodIn_of _ (by decide +kernel)) ggX10_shareOf_X7_of
theorem dX10_shareOf_0 : decode cX10_shareOf 0 = .ok (.aload_n 0, 1) := by decide +kernel
theorem dX10_shareOf_1 : decode cX10_shareOf 1 = .ok (.getfield 50, 3) := by decide +kernel
theorem dX10_shareOf_4 : decode cX10_shareOf 4 = .ok (.ifnonnull 22, 3) := by decide +kernel
theorem dX10_shareOf_7 : decode cX10_shareOf 7 = .ok (.aload_n 0, 1) := by decide +kernel
theorem dX10_shareOf_8 : decode cX10_shareOf 8 = .ok (.new 213, 3) := by decide +kernel
theorem dX10_shareOf_11 : decode cX10_shareOf 11 = .ok (.dup, 1) := by decide +kernel
theorem dX10_shareOf_12 : decode cX10_shareOf 12 = .ok (.aload_n 0, 1) := by decide +kernel
theorem dX10_shareOf_13 : decode cX10_shareOf 13 = .ok (.getfield 12, 3) := by decide +kernel
theorem dX10_shareOf_16 : decode cX10_shareOf 16 = .ok (.aload_n 0, 1) := by decide +kernel
theorem dX10_shareOf_17 : decode cX10_shareOf 17 = .ok (.getfield 19, 3) := by decide +kernel
theorem dX10_shareOf_20 : decode cX10_shareOf 20 = .ok (.invokespecial 215, 3) := by decide +kernel
theorem dX10_shareOf_23 : decode cX10_shareOf 23 = .ok (.putfield 50, 3) := by decide +kernel
theorem dX10_shareOf_26 : decode cX10_shareOf 26 = .ok (.aload_n 0, 1) := by decide +kernel
theorem dX10_shareOf_27 : decode cX10_shareOf 27 = .ok (.getfield 50, 3) := by decide +kernel
theorem dX10_shareOf_30 : decode cX10_shareOf 30 = .ok (.iload_n 1, 1) := by decide +kernel
theorem dX10_shareOf_31 : decode cX10_shareOf 31 = .ok (.iload_n 2, 1) := by decide +kernel
theorem dX10_shareOf_32 : decode cX10_shareOf 32 = .ok (.invokevirtual 216, 3) := by decide +kernel
theorem dX10_shareOf_35 : decode cX10_shareOf 35 = .ok (.areturn, 1) := by decide +kernel
set_option maxRecDepth 20000 in
theorem ggX10_forgetFits_X2_forget : GoodIn wsX10_forgetFits wsX2_forget := goodIn_r _ [6, 7, 8, 9, 29, 30, 31, 32, 33, 34, 35, 36, 37, 38, 39] (by decide +kernel) (by decide +kernel)
set_option maxRecDepth 20000 in
theorem gX10_forgetFits_X2_forget : GoodIn wsX10_forgetFits (wsV RX10 219 RX2 yX2_forget wsX2_forget) := goodIn_app (goodIn_of _ (by decide +kernel)) ggX10_forgetFits_X2_forget
set_option maxRecDepth 20000 in
theorem ggX10_forgetFits_X10_forgetShares : GoodIn wsX10_forgetFits wsX10_forgetShares := goodIn_r _ [14, 15, 16, 17, 18, 19, 20, 21, 22, 23, 24, 25, 26, 27, 28, 40, 41, 42, 43, 44, 45, 46, 47, 48, 49, 50, 51, 37, 38, 39] (by decide +kernel) (by decide +kernel)
set_option maxRecDepth 20000 in
theorem gX10_forgetFits_X10_forgetShares : GoodIn wsX10_forgetFits (wsV RX10 101 RX10 yX10_forgetShares wsX10_forgetShares) := goodIn_app (goodIn_of _ (by decide +kernel)) ggX10_forgetFits_X10_forgetShares
theorem dX10_forgetFits_0 : decode cX10_forgetFits 0 = .ok (.aload_n 0, 1) := by decide +kernel
theorem dX10_forgetFits_1 : decode cX10_forgetFits 1 = .ok (.getfield 28, 3) := by decide +kernel
theorem dX10_forgetFits_4 : decode cX10_forgetFits 4 = .ok (.invokevirtual 219, 3) := by decide +kernel
theorem dX10_forgetFits_7 : decode cX10_forgetFits 7 = .ok (.aload_n 0, 1) := by decide +kernel
theorem dX10_forgetFits_8 : decode cX10_forgetFits 8 = .ok (.invokevirtual 101, 3) := by decide +kernel
theorem dX10_forgetFits_11 : decode cX10_forgetFits 11 = .ok (.return_, 1) := by decide +kernel
set_option maxRecDepth 20000 in
theorem ggX10_forgetShares_X7_forget : GoodIn wsX10_forgetShares wsX7_forget := goodIn_r _ [6, 7, 8, 15, 16, 17, 18, 19, 20, 21, 22, 23, 24, 25, 26, 27, 28, 29] (by decide +kernel) (by decide +kernel)
set_option maxRecDepth 20000 in
theorem gX10_forgetShares_X7_forget : GoodIn wsX10_forgetShares (wsV RX10 222 RX7 yX7_forget wsX7_forget) := goodIn_app (goodIn_of _ (by decide +kernel)) ggX10_forgetShares_X7_forget
theorem dX10_forgetShares_0 : decode cX10_forgetShares 0 = .ok (.aload_n 0, 1) := by decide +kernel
theorem dX10_forgetShares_1 : decode cX10_forgetShares 1 = .ok (.getfield 50, 3) := by decide +kernel
theorem dX10_forgetShares_4 : decode cX10_forgetShares 4 = .ok (.ifnull 10, 3) := by decide +kernel
theorem dX10_forgetShares_7 : decode cX10_forgetShares 7 = .ok (.aload_n 0, 1) := by decide +kernel
theorem dX10_forgetShares_8 : decode cX10_forgetShares 8 = .ok (.getfield 50, 3) := by decide +kernel
theorem dX10_forgetShares_11 : decode cX10_forgetShares 11 = .ok (.invokevirtual 222, 3) := by decide +kernel
theorem dX10_forgetShares_14 : decode cX10_forgetShares 14 = .ok (.return_, 1) := by decide +kernel
