theorem dX11_fit_5 : decode cX11_fit 5 = .ok (.aload_n 3, 1) := by decide +kernel
theorem dX11_fit_6 : decode cX11_fit 6 = .ok (.iconst 1, 1) := by decide +kernel
theorem dX11_fit_7 : decode cX11_fit 7 = .ok (.invokestatic 151, 3) := by decide +kernel
theorem dX11_fit_10 : decode cX11_fit 10 = .ok (.iconst 0, 1) := by decide +kernel
theorem dX11_fit_11 : decode cX11_fit 11 = .ok (.istore 4, 2) := by decide +kernel
theorem dX11_fit_13 : decode cX11_fit 13 = .ok (.iload 4, 2) := by decide +kernel
theorem dX11_fit_15 : decode cX11_fit 15 = .ok (.aload_n 0, 1) := by decide +kernel
theorem dX11_fit_16 : decode cX11_fit 16 = .ok (.getfield 160, 3) := by decide +kernel
theorem dX11_fit_19 : decode cX11_fit 19 = .ok (.if_icmp .ge 45, 3) := by decide +kernel
theorem dX11_fit_22 : decode cX11_fit 22 = .ok (.aload_n 0, 1) := by decide +kernel
theorem dX11_fit_23 : decode cX11_fit 23 = .ok (.iload 4, 2) := by decide +kernel
theorem dX11_fit_25 : decode cX11_fit 25 = .ok (.iload_n 1, 1) := by decide +kernel
theorem dX11_fit_26 : decode cX11_fit 26 = .ok (.iload 4, 2) := by decide +kernel
theorem dX11_fit_28 : decode cX11_fit 28 = .ok (.invokestatic 194, 3) := by decide +kernel
theorem dX11_fit_31 : decode cX11_fit 31 = .ok (.invokevirtual 197, 3) := by decide +kernel
theorem dX11_fit_34 : decode cX11_fit 34 = .ok (.istore 5, 2) := by decide +kernel
theorem dX11_fit_36 : decode cX11_fit 36 = .ok (.aload_n 0, 1) := by decide +kernel
theorem dX11_fit_37 : decode cX11_fit 37 = .ok (.aload_n 2, 1) := by decide +kernel
theorem dX11_fit_38 : decode cX11_fit 38 = .ok (.aload_n 0, 1) := by decide +kernel
theorem dX11_fit_39 : decode cX11_fit 39 = .ok (.getfield 42, 3) := by decide +kernel
theorem dX11_fit_42 : decode cX11_fit 42 = .ok (.iload 5, 2) := by decide +kernel
theorem dX11_fit_44 : decode cX11_fit 44 = .ok (.invokevirtual 200, 3) := by decide +kernel
theorem dX11_fit_47 : decode cX11_fit 47 = .ok (.aload_n 0, 1) := by decide +kernel
theorem dX11_fit_48 : decode cX11_fit 48 = .ok (.aload_n 3, 1) := by decide +kernel
theorem dX11_fit_49 : decode cX11_fit 49 = .ok (.aload_n 0, 1) := by decide +kernel
theorem dX11_fit_50 : decode cX11_fit 50 = .ok (.getfield 45, 3) := by decide +kernel
theorem dX11_fit_53 : decode cX11_fit 53 = .ok (.iload 5, 2) := by decide +kernel
theorem dX11_fit_55 : decode cX11_fit 55 = .ok (.invokevirtual 200, 3) := by decide +kernel
theorem dX11_fit_58 : decode cX11_fit 58 = .ok (.iinc 4 1, 3) := by decide +kernel
theorem dX11_fit_61 : decode cX11_fit 61 = .ok (.goto (-48), 3) := by decide +kernel
theorem dX11_fit_64 : decode cX11_fit 64 = .ok (.return_, 1) := by decide +kernel
set_option maxRecDepth 20000 in
theorem ggX11_sign_X11_times : GoodIn wsX11_sign wsX11_times := goodIn_r _ [10, 11, 12, 13, 9, 14] (by decide +kernel) (by decide +kernel)
set_option maxRecDepth 20000 in
theorem gX11_sign_X11_times : GoodIn wsX11_sign (va_wsS RX11 190 yX11_times wsX11_times) := goodIn_app (goodIn_of _ (by decide +kernel)) ggX11_sign_X11_times
set_option maxRecDepth 20000 in
theorem ggX11_sign_X11_compareTo : GoodIn wsX11_sign wsX11_compareTo := goodIn_r _ [17, 11] (by decide +kernel) (by decide +kernel)
set_option maxRecDepth 20000 in
theorem gX11_sign_X11_compareTo : GoodIn wsX11_sign (va_wsS RX11 141 yX11_compareTo wsX11_compareTo) := goodIn_app (goodIn_of _ (by decide +kernel)) ggX11_sign_X11_compareTo
theorem dX11_sign_0 : decode cX11_sign 0 = .ok (.aload_n 0, 1) := by decide +kernel
theorem dX11_sign_1 : decode cX11_sign 1 = .ok (.getfield 60, 3) := by decide +kernel
theorem dX11_sign_4 : decode cX11_sign 4 = .ok (.aload_n 0, 1) := by decide +kernel
theorem dX11_sign_5 : decode cX11_sign 5 = .ok (.getfield 69, 3) := by decide +kernel
theorem dX11_sign_8 : decode cX11_sign 8 = .ok (.aload_n 0, 1) := by decide +kernel
theorem dX11_sign_9 : decode cX11_sign 9 = .ok (.getfield 72, 3) := by decide +kernel
theorem dX11_sign_12 : decode cX11_sign 12 = .ok (.invokestatic 190, 3) := by decide +kernel
theorem dX11_sign_15 : decode cX11_sign 15 = .ok (.aload_n 0, 1) := by decide +kernel
theorem dX11_sign_16 : decode cX11_sign 16 = .ok (.getfield 66, 3) := by decide +kernel
theorem dX11_sign_19 : decode cX11_sign 19 = .ok (.aload_n 0, 1) := by decide +kernel
theorem dX11_sign_20 : decode cX11_sign 20 = .ok (.getfield 63, 3) := by decide +kernel
theorem dX11_sign_23 : decode cX11_sign 23 = .ok (.aload_n 0, 1) := by decide +kernel
theorem dX11_sign_24 : decode cX11_sign 24 = .ok (.getfield 75, 3) := by decide +kernel
theorem dX11_sign_27 : decode cX11_sign 27 = .ok (.invokestatic 190, 3) := by decide +kernel
theorem dX11_sign_30 : decode cX11_sign 30 = .ok (.aload_n 0, 1) := by decide +kernel
theorem dX11_sign_31 : decode cX11_sign 31 = .ok (.getfield 72, 3) := by decide +kernel
theorem dX11_sign_34 : decode cX11_sign 34 = .ok (.aload_n 0, 1) := by decide +kernel
theorem dX11_sign_35 : decode cX11_sign 35 = .ok (.getfield 75, 3) := by decide +kernel
theorem dX11_sign_38 : decode cX11_sign 38 = .ok (.invokestatic 141, 3) := by decide +kernel
theorem dX11_sign_41 : decode cX11_sign 41 = .ok (.ireturn, 1) := by decide +kernel
set_option maxRecDepth 20000 in
theorem ggX11_signOf_X11_fit : GoodIn wsX11_signOf wsX11_fit := goodIn_r _ [9, 10, 11, 12, 13, 14, 8, 15, 16, 17, 18, 19, 20, 21, 22, 23, 24, 25, 26, 27, 28, 29, 30, 31, 32, 33, 34, 35, 36, 37, 38, 39, 40, 41, 42, 43, 44, 45, 46, 47, 48, 49, 50, 51, 52, 53, 54, 55, 56, 57, 58, 59, 60, 61, 62, 63, 64, 65, 66, 67, 68, 69, 70, 71, 72, 73, 74, 75, 76, 77, 78, 79, 80, 81, 82, 83, 84, 85, 86, 87, 88, 89, 90, 91, 98, 99, 100, 101, 102, 103, 104, 105, 106, 107, 108, 109, 110, 111, 112, 113, 114, 115, 116, 117, 118, 119, 120, 121, 122, 123, 124, 125, 126, 127, 128, 129, 130, 131, 132, 133, 134, 135, 136] (by decide +kernel) (by decide +kernel)
set_option maxRecDepth 20000 in
theorem gX11_signOf_X11_fit : GoodIn wsX11_signOf (wsV RX11 203 RX11 yX11_fit wsX11_fit) := goodIn_app (goodIn_of _ (by decide +kernel)) ggX11_signOf_X11_fit
set_option maxRecDepth 20000 in
theorem ggX11_signOf_X11_sign : GoodIn wsX11_signOf wsX11_sign := goodIn_r _ [95, 1, 4, 96, 3, 2, 97, 89, 90, 8, 91, 44, 64, 65, 66, 67, 68, 69, 98, 99, 100, 101, 102, 103, 104, 105, 106, 107, 108, 109, 110, 111, 112, 113, 114, 115, 116, 117, 118, 119, 120, 121, 122, 123, 124, 125, 126, 127, 128, 129, 130, 131, 132, 133, 134, 135, 136] (by decide +kernel) (by decide +kernel)
set_option maxRecDepth 20000 in
theorem gX11_signOf_X11_sign : GoodIn wsX11_signOf (wsV RX11 207 RX11 yX11_sign wsX11_sign) := goodIn_app (goodIn_of _ (by decide +kernel)) ggX11_signOf_X11_sign
theorem dX11_signOf_0 : decode cX11_signOf 0 = .ok (.aload_n 0, 1) := by decide +kernel
theorem dX11_signOf_1 : decode cX11_signOf 1 = .ok (.iload_n 1, 1) := by decide +kernel
theorem dX11_signOf_2 : decode cX11_signOf 2 = .ok (.aload_n 0, 1) := by decide +kernel
theorem dX11_signOf_3 : decode cX11_signOf 3 = .ok (.getfield 60, 3) := by decide +kernel
theorem dX11_signOf_6 : decode cX11_signOf 6 = .ok (.aload_n 0, 1) := by decide +kernel
theorem dX11_signOf_7 : decode cX11_signOf 7 = .ok (.getfield 63, 3) := by decide +kernel
theorem dX11_signOf_10 : decode cX11_signOf 10 = .ok (.invokevirtual 203, 3) := by decide +kernel
theorem dX11_signOf_13 : decode cX11_signOf 13 = .ok (.aload_n 0, 1) := by decide +kernel
theorem dX11_signOf_14 : decode cX11_signOf 14 = .ok (.iload_n 2, 1) := by decide +kernel
theorem dX11_signOf_15 : decode cX11_signOf 15 = .ok (.aload_n 0, 1) := by decide +kernel
theorem dX11_signOf_16 : decode cX11_signOf 16 = .ok (.getfield 66, 3) := by decide +kernel
theorem dX11_signOf_19 : decode cX11_signOf 19 = .ok (.aload_n 0, 1) := by decide +kernel
theorem dX11_signOf_20 : decode cX11_signOf 20 = .ok (.getfield 69, 3) := by decide +kernel
theorem dX11_signOf_23 : decode cX11_signOf 23 = .ok (.invokevirtual 203, 3) := by decide +kernel
theorem dX11_signOf_26 : decode cX11_signOf 26 = .ok (.aload_n 0, 1) := by decide +kernel
theorem dX11_signOf_27 : decode cX11_signOf 27 = .ok (.invokevirtual 207, 3) := by decide +kernel
theorem dX11_signOf_30 : decode cX11_signOf 30 = .ok (.ireturn, 1) := by decide +kernel
theorem dX11_isSet_0 : decode cX11_isSet 0 = .ok (.iload_n 1, 1) := by decide +kernel
theorem dX11_isSet_1 : decode cX11_isSet 1 = .ok (.ifCond .lt 17, 3) := by decide +kernel
theorem dX11_isSet_4 : decode cX11_isSet 4 = .ok (.iload_n 1, 1) := by decide +kernel
theorem dX11_isSet_5 : decode cX11_isSet 5 = .ok (.iconst 1, 1) := by decide +kernel
theorem dX11_isSet_6 : decode cX11_isSet 6 = .ok (.aload_n 0, 1) := by decide +kernel
theorem dX11_isSet_7 : decode cX11_isSet 7 = .ok (.getfield 160, 3) := by decide +kernel
theorem dX11_isSet_10 : decode cX11_isSet 10 = .ok (.ishl, 1) := by decide +kernel
theorem dX11_isSet_11 : decode cX11_isSet 11 = .ok (.if_icmp .ge 7, 3) := by decide +kernel
theorem dX11_isSet_14 : decode cX11_isSet 14 = .ok (.iconst 1, 1) := by decide +kernel
theorem dX11_isSet_15 : decode cX11_isSet 15 = .ok (.goto 4, 3) := by decide +kernel
theorem dX11_isSet_18 : decode cX11_isSet 18 = .ok (.iconst 0, 1) := by decide +kernel
theorem dX11_isSet_19 : decode cX11_isSet 19 = .ok (.ireturn, 1) := by decide +kernel
theorem dX11_isName_0 : decode cX11_isName 0 = .ok (.iload_n 1, 1) := by decide +kernel
theorem dX11_isName_1 : decode cX11_isName 1 = .ok (.ifCond .lt 15, 3) := by decide +kernel
theorem dX11_isName_4 : decode cX11_isName 4 = .ok (.iload_n 1, 1) := by decide +kernel
theorem dX11_isName_5 : decode cX11_isName 5 = .ok (.aload_n 0, 1) := by decide +kernel
theorem dX11_isName_6 : decode cX11_isName 6 = .ok (.getfield 160, 3) := by decide +kernel
theorem dX11_isName_9 : decode cX11_isName 9 = .ok (.if_icmp .ge 7, 3) := by decide +kernel
theorem dX11_isName_12 : decode cX11_isName 12 = .ok (.iconst 1, 1) := by decide +kernel
theorem dX11_isName_13 : decode cX11_isName 13 = .ok (.goto 4, 3) := by decide +kernel
theorem dX11_isName_16 : decode cX11_isName 16 = .ok (.iconst 0, 1) := by decide +kernel
theorem dX11_isName_17 : decode cX11_isName 17 = .ok (.ireturn, 1) := by decide +kernel
set_option maxRecDepth 20000 in
theorem ggX11_isGraph_X11_isSet : GoodIn wsX11_isGraph wsX11_isSet := goodIn_r _ [7, 2, 11, 12, 13, 14, 15, 16, 17, 18, 19, 20, 21, 22, 23, 24, 25, 26, 27, 28, 29, 30, 31, 32, 33, 34, 35, 36, 37, 38, 39, 40, 41, 42, 43, 44, 45, 46, 47, 48, 49] (by decide +kernel) (by decide +kernel)
set_option maxRecDepth 20000 in
theorem gX11_isGraph_X11_isSet : GoodIn wsX11_isGraph (wsV RX11 212 RX11 yX11_isSet wsX11_isSet) := goodIn_app (goodIn_of _ (by decide +kernel)) ggX11_isGraph_X11_isSet
set_option maxRecDepth 20000 in
theorem ggX11_isGraph_X11_parentsOf : GoodIn wsX11_isGraph wsX11_parentsOf := goodIn_r _ [10] (by decide +kernel) (by decide +kernel)
set_option maxRecDepth 20000 in
theorem gX11_isGraph_X11_parentsOf : GoodIn wsX11_isGraph (va_wsS RX11 194 yX11_parentsOf wsX11_parentsOf) := goodIn_app (goodIn_of _ (by decide +kernel)) ggX11_isGraph_X11_parentsOf
theorem dX11_isGraph_0 : decode cX11_isGraph 0 = .ok (.iload_n 1, 1) := by decide +kernel
theorem dX11_isGraph_1 : decode cX11_isGraph 1 = .ok (.ifCond .lt 9, 3) := by decide +kernel
theorem dX11_isGraph_4 : decode cX11_isGraph 4 = .ok (.iload_n 1, 1) := by decide +kernel
theorem dX11_isGraph_5 : decode cX11_isGraph 5 = .ok (.ldc 211, 2) := by decide +kernel
theorem dX11_isGraph_7 : decode cX11_isGraph 7 = .ok (.if_icmp .lt 5, 3) := by decide +kernel
theorem dX11_isGraph_10 : decode cX11_isGraph 10 = .ok (.iconst 0, 1) := by decide +kernel
theorem dX11_isGraph_11 : decode cX11_isGraph 11 = .ok (.ireturn, 1) := by decide +kernel
theorem dX11_isGraph_12 : decode cX11_isGraph 12 = .ok (.iconst 0, 1) := by decide +kernel
theorem dX11_isGraph_13 : decode cX11_isGraph 13 = .ok (.istore_n 2, 1) := by decide +kernel
theorem dX11_isGraph_14 : decode cX11_isGraph 14 = .ok (.iload_n 2, 1) := by decide +kernel
theorem dX11_isGraph_15 : decode cX11_isGraph 15 = .ok (.iconst 5, 1) := by decide +kernel
theorem dX11_isGraph_16 : decode cX11_isGraph 16 = .ok (.if_icmp .ge 49, 3) := by decide +kernel
theorem dX11_isGraph_19 : decode cX11_isGraph 19 = .ok (.iload_n 1, 1) := by decide +kernel
theorem dX11_isGraph_20 : decode cX11_isGraph 20 = .ok (.iconst 5, 1) := by decide +kernel
theorem dX11_isGraph_21 : decode cX11_isGraph 21 = .ok (.iload_n 2, 1) := by decide +kernel
theorem dX11_isGraph_22 : decode cX11_isGraph 22 = .ok (.imul, 1) := by decide +kernel
theorem dX11_isGraph_23 : decode cX11_isGraph 23 = .ok (.ishr, 1) := by decide +kernel
theorem dX11_isGraph_24 : decode cX11_isGraph 24 = .ok (.bipush 31, 2) := by decide +kernel
theorem dX11_isGraph_26 : decode cX11_isGraph 26 = .ok (.iand, 1) := by decide +kernel
theorem dX11_isGraph_27 : decode cX11_isGraph 27 = .ok (.istore_n 3, 1) := by decide +kernel
theorem dX11_isGraph_28 : decode cX11_isGraph 28 = .ok (.iload_n 3, 1) := by decide +kernel
theorem dX11_isGraph_29 : decode cX11_isGraph 29 = .ok (.ifCond .eq 30, 3) := by decide +kernel
theorem dX11_isGraph_32 : decode cX11_isGraph 32 = .ok (.iload_n 2, 1) := by decide +kernel
theorem dX11_isGraph_33 : decode cX11_isGraph 33 = .ok (.aload_n 0, 1) := by decide +kernel
theorem dX11_isGraph_34 : decode cX11_isGraph 34 = .ok (.getfield 160, 3) := by decide +kernel
theorem dX11_isGraph_37 : decode cX11_isGraph 37 = .ok (.if_icmp .ge 20, 3) := by decide +kernel
theorem dX11_isGraph_40 : decode cX11_isGraph 40 = .ok (.aload_n 0, 1) := by decide +kernel
theorem dX11_isGraph_41 : decode cX11_isGraph 41 = .ok (.iload_n 3, 1) := by decide +kernel
theorem dX11_isGraph_42 : decode cX11_isGraph 42 = .ok (.invokevirtual 212, 3) := by decide +kernel
theorem dX11_isGraph_45 : decode cX11_isGraph 45 = .ok (.ifCond .eq 12, 3) := by decide +kernel
theorem dX11_isGraph_48 : decode cX11_isGraph 48 = .ok (.iload_n 3, 1) := by decide +kernel
theorem dX11_isGraph_49 : decode cX11_isGraph 49 = .ok (.iload_n 2, 1) := by decide +kernel
theorem dX11_isGraph_50 : decode cX11_isGraph 50 = .ok (.ishr, 1) := by decide +kernel
theorem dX11_isGraph_51 : decode cX11_isGraph 51 = .ok (.iconst 1, 1) := by decide +kernel
theorem dX11_isGraph_52 : decode cX11_isGraph 52 = .ok (.iand, 1) := by decide +kernel
theorem dX11_isGraph_53 : decode cX11_isGraph 53 = .ok (.iconst 1, 1) := by decide +kernel
theorem dX11_isGraph_54 : decode cX11_isGraph 54 = .ok (.if_icmp .ne 5, 3) := by decide +kernel
theorem dX11_isGraph_57 : decode cX11_isGraph 57 = .ok (.iconst 0, 1) := by decide +kernel
theorem dX11_isGraph_58 : decode cX11_isGraph 58 = .ok (.ireturn, 1) := by decide +kernel
theorem dX11_isGraph_59 : decode cX11_isGraph 59 = .ok (.iinc 2 1, 3) := by decide +kernel
theorem dX11_isGraph_62 : decode cX11_isGraph 62 = .ok (.goto (-48), 3) := by decide +kernel
theorem dX11_isGraph_65 : decode cX11_isGraph 65 = .ok (.iconst 0, 1) := by decide +kernel
theorem dX11_isGraph_66 : decode cX11_isGraph 66 = .ok (.istore_n 2, 1) := by decide +kernel
theorem dX11_isGraph_67 : decode cX11_isGraph 67 = .ok (.iconst 0, 1) := by decide +kernel
theorem dX11_isGraph_68 : decode cX11_isGraph 68 = .ok (.istore_n 3, 1) := by decide +kernel
theorem dX11_isGraph_69 : decode cX11_isGraph 69 = .ok (.iload_n 3, 1) := by decide +kernel
theorem dX11_isGraph_70 : decode cX11_isGraph 70 = .ok (.aload_n 0, 1) := by decide +kernel
theorem dX11_isGraph_71 : decode cX11_isGraph 71 = .ok (.getfield 160, 3) := by decide +kernel
theorem dX11_isGraph_74 : decode cX11_isGraph 74 = .ok (.if_icmp .ge 51, 3) := by decide +kernel
theorem dX11_isGraph_77 : decode cX11_isGraph 77 = .ok (.iconst 0, 1) := by decide +kernel
theorem dX11_isGraph_78 : decode cX11_isGraph 78 = .ok (.istore 4, 2) := by decide +kernel
theorem dX11_isGraph_80 : decode cX11_isGraph 80 = .ok (.iload 4, 2) := by decide +kernel
theorem dX11_isGraph_82 : decode cX11_isGraph 82 = .ok (.aload_n 0, 1) := by decide +kernel
theorem dX11_isGraph_83 : decode cX11_isGraph 83 = .ok (.getfield 160, 3) := by decide +kernel
theorem dX11_isGraph_86 : decode cX11_isGraph 86 = .ok (.if_icmp .ge 33, 3) := by decide +kernel
theorem dX11_isGraph_89 : decode cX11_isGraph 89 = .ok (.iload_n 2, 1) := by decide +kernel
theorem dX11_isGraph_90 : decode cX11_isGraph 90 = .ok (.iload_n 1, 1) := by decide +kernel
theorem dX11_isGraph_91 : decode cX11_isGraph 91 = .ok (.iload 4, 2) := by decide +kernel
theorem dX11_isGraph_93 : decode cX11_isGraph 93 = .ok (.invokestatic 194, 3) := by decide +kernel
theorem dX11_isGraph_96 : decode cX11_isGraph 96 = .ok (.iload_n 2, 1) := by decide +kernel
theorem dX11_isGraph_97 : decode cX11_isGraph 97 = .ok (.iconst (-1), 1) := by decide +kernel
theorem dX11_isGraph_98 : decode cX11_isGraph 98 = .ok (.ixor, 1) := by decide +kernel
theorem dX11_isGraph_99 : decode cX11_isGraph 99 = .ok (.iand, 1) := by decide +kernel
theorem dX11_isGraph_100 : decode cX11_isGraph 100 = .ok (.ifCond .ne 10, 3) := by decide +kernel
theorem dX11_isGraph_103 : decode cX11_isGraph 103 = .ok (.iconst 1, 1) := by decide +kernel
theorem dX11_isGraph_104 : decode cX11_isGraph 104 = .ok (.iload 4, 2) := by decide +kernel
theorem dX11_isGraph_106 : decode cX11_isGraph 106 = .ok (.ishl, 1) := by decide +kernel
theorem dX11_isGraph_107 : decode cX11_isGraph 107 = .ok (.goto 4, 3) := by decide +kernel
theorem dX11_isGraph_110 : decode cX11_isGraph 110 = .ok (.iconst 0, 1) := by decide +kernel
theorem dX11_isGraph_111 : decode cX11_isGraph 111 = .ok (.ior, 1) := by decide +kernel
theorem dX11_isGraph_112 : decode cX11_isGraph 112 = .ok (.istore_n 2, 1) := by decide +kernel
theorem dX11_isGraph_113 : decode cX11_isGraph 113 = .ok (.iinc 4 1, 3) := by decide +kernel
theorem dX11_isGraph_116 : decode cX11_isGraph 116 = .ok (.goto (-36), 3) := by decide +kernel
theorem dX11_isGraph_119 : decode cX11_isGraph 119 = .ok (.iinc 3 1, 3) := by decide +kernel
theorem dX11_isGraph_122 : decode cX11_isGraph 122 = .ok (.goto (-53), 3) := by decide +kernel
theorem dX11_isGraph_125 : decode cX11_isGraph 125 = .ok (.iload_n 2, 1) := by decide +kernel
theorem dX11_isGraph_126 : decode cX11_isGraph 126 = .ok (.iconst 1, 1) := by decide +kernel
theorem dX11_isGraph_127 : decode cX11_isGraph 127 = .ok (.aload_n 0, 1) := by decide +kernel
theorem dX11_isGraph_128 : decode cX11_isGraph 128 = .ok (.getfield 160, 3) := by decide +kernel
theorem dX11_isGraph_131 : decode cX11_isGraph 131 = .ok (.ishl, 1) := by decide +kernel
theorem dX11_isGraph_132 : decode cX11_isGraph 132 = .ok (.iconst 1, 1) := by decide +kernel
theorem dX11_isGraph_133 : decode cX11_isGraph 133 = .ok (.isub, 1) := by decide +kernel
theorem dX11_isGraph_134 : decode cX11_isGraph 134 = .ok (.if_icmp .ne 7, 3) := by decide +kernel
theorem dX11_isGraph_137 : decode cX11_isGraph 137 = .ok (.iconst 1, 1) := by decide +kernel
theorem dX11_isGraph_138 : decode cX11_isGraph 138 = .ok (.goto 4, 3) := by decide +kernel
theorem dX11_isGraph_141 : decode cX11_isGraph 141 = .ok (.iconst 0, 1) := by decide +kernel
theorem dX11_isGraph_142 : decode cX11_isGraph 142 = .ok (.ireturn, 1) := by decide +kernel
set_option maxRecDepth 20000 in
theorem ggX11_isBounded_X11_parentsOf : GoodIn wsX11_isBounded wsX11_parentsOf := goodIn_r _ [6] (by decide +kernel) (by decide +kernel)
set_option maxRecDepth 20000 in
theorem gX11_isBounded_X11_parentsOf : GoodIn wsX11_isBounded (va_wsS RX11 194 yX11_parentsOf wsX11_parentsOf) := goodIn_app (goodIn_of _ (by decide +kernel)) ggX11_isBounded_X11_parentsOf
set_option maxRecDepth 20000 in
theorem ggX11_isBounded_X11_bits : GoodIn wsX11_isBounded wsX11_bits := goodIn_r _ [9] (by decide +kernel) (by decide +kernel)
set_option maxRecDepth 20000 in
theorem gX11_isBounded_X11_bits : GoodIn wsX11_isBounded (va_wsS RX11 216 yX11_bits wsX11_bits) := goodIn_app (goodIn_of _ (by decide +kernel)) ggX11_isBounded_X11_bits
theorem dX11_isBounded_0 : decode cX11_isBounded 0 = .ok (.iconst 1, 1) := by decide +kernel
theorem dX11_isBounded_1 : decode cX11_isBounded 1 = .ok (.istore_n 2, 1) := by decide +kernel
theorem dX11_isBounded_2 : decode cX11_isBounded 2 = .ok (.iconst 0, 1) := by decide +kernel
theorem dX11_isBounded_3 : decode cX11_isBounded 3 = .ok (.istore_n 3, 1) := by decide +kernel
theorem dX11_isBounded_4 : decode cX11_isBounded 4 = .ok (.iload_n 3, 1) := by decide +kernel
theorem dX11_isBounded_5 : decode cX11_isBounded 5 = .ok (.aload_n 0, 1) := by decide +kernel
theorem dX11_isBounded_6 : decode cX11_isBounded 6 = .ok (.getfield 160, 3) := by decide +kernel
theorem dX11_isBounded_9 : decode cX11_isBounded 9 = .ok (.if_icmp .ge 34, 3) := by decide +kernel
theorem dX11_isBounded_12 : decode cX11_isBounded 12 = .ok (.iload_n 2, 1) := by decide +kernel
theorem dX11_isBounded_13 : decode cX11_isBounded 13 = .ok (.ifCond .eq 22, 3) := by decide +kernel
theorem dX11_isBounded_16 : decode cX11_isBounded 16 = .ok (.iload_n 1, 1) := by decide +kernel
theorem dX11_isBounded_17 : decode cX11_isBounded 17 = .ok (.iload_n 3, 1) := by decide +kernel
theorem dX11_isBounded_18 : decode cX11_isBounded 18 = .ok (.invokestatic 194, 3) := by decide +kernel
theorem dX11_isBounded_21 : decode cX11_isBounded 21 = .ok (.invokestatic 216, 3) := by decide +kernel
theorem dX11_isBounded_24 : decode cX11_isBounded 24 = .ok (.aload_n 0, 1) := by decide +kernel
theorem dX11_isBounded_25 : decode cX11_isBounded 25 = .ok (.getfield 20, 3) := by decide +kernel
theorem dX11_isBounded_28 : decode cX11_isBounded 28 = .ok (.if_icmp .gt 7, 3) := by decide +kernel
theorem dX11_isBounded_31 : decode cX11_isBounded 31 = .ok (.iconst 1, 1) := by decide +kernel
theorem dX11_isBounded_32 : decode cX11_isBounded 32 = .ok (.goto 4, 3) := by decide +kernel
theorem dX11_isBounded_35 : decode cX11_isBounded 35 = .ok (.iconst 0, 1) := by decide +kernel
theorem dX11_isBounded_36 : decode cX11_isBounded 36 = .ok (.istore_n 2, 1) := by decide +kernel
theorem dX11_isBounded_37 : decode cX11_isBounded 37 = .ok (.iinc 3 1, 3) := by decide +kernel
theorem dX11_isBounded_40 : decode cX11_isBounded 40 = .ok (.goto (-36), 3) := by decide +kernel
theorem dX11_isBounded_43 : decode cX11_isBounded 43 = .ok (.iload_n 2, 1) := by decide +kernel
theorem dX11_isBounded_44 : decode cX11_isBounded 44 = .ok (.ireturn, 1) := by decide +kernel
theorem dX11_has_0 : decode cX11_has 0 = .ok (.iload_n 0, 1) := by decide +kernel
theorem dX11_has_1 : decode cX11_has 1 = .ok (.iconst 5, 1) := by decide +kernel
theorem dX11_has_2 : decode cX11_has 2 = .ok (.iload_n 1, 1) := by decide +kernel
theorem dX11_has_3 : decode cX11_has 3 = .ok (.imul, 1) := by decide +kernel
theorem dX11_has_4 : decode cX11_has 4 = .ok (.iload_n 2, 1) := by decide +kernel
theorem dX11_has_5 : decode cX11_has 5 = .ok (.iadd, 1) := by decide +kernel
theorem dX11_has_6 : decode cX11_has 6 = .ok (.ishr, 1) := by decide +kernel
theorem dX11_has_7 : decode cX11_has 7 = .ok (.iconst 1, 1) := by decide +kernel
theorem dX11_has_8 : decode cX11_has 8 = .ok (.iand, 1) := by decide +kernel
theorem dX11_has_9 : decode cX11_has 9 = .ok (.iconst 1, 1) := by decide +kernel
theorem dX11_has_10 : decode cX11_has 10 = .ok (.if_icmp .ne 7, 3) := by decide +kernel
theorem dX11_has_13 : decode cX11_has 13 = .ok (.iconst 1, 1) := by decide +kernel
theorem dX11_has_14 : decode cX11_has 14 = .ok (.goto 4, 3) := by decide +kernel
theorem dX11_has_17 : decode cX11_has 17 = .ok (.iconst 0, 1) := by decide +kernel
theorem dX11_has_18 : decode cX11_has 18 = .ok (.ireturn, 1) := by decide +kernel
set_option maxRecDepth 20000 in
theorem ggX11_touch_X11_has : GoodIn wsX11_touch wsX11_has := goodIn_r _ [4] (by decide +kernel) (by decide +kernel)
set_option maxRecDepth 20000 in
theorem gX11_touch_X11_has : GoodIn wsX11_touch (va_wsS RX11 220 yX11_has wsX11_has) := goodIn_app (goodIn_of _ (by decide +kernel)) ggX11_touch_X11_has
theorem dX11_touch_0 : decode cX11_touch 0 = .ok (.iload_n 0, 1) := by decide +kernel
theorem dX11_touch_1 : decode cX11_touch 1 = .ok (.iload_n 1, 1) := by decide +kernel
theorem dX11_touch_2 : decode cX11_touch 2 = .ok (.iload_n 2, 1) := by decide +kernel
theorem dX11_touch_3 : decode cX11_touch 3 = .ok (.invokestatic 220, 3) := by decide +kernel
theorem dX11_touch_6 : decode cX11_touch 6 = .ok (.ifCond .ne 12, 3) := by decide +kernel
theorem dX11_touch_9 : decode cX11_touch 9 = .ok (.iload_n 0, 1) := by decide +kernel
theorem dX11_touch_10 : decode cX11_touch 10 = .ok (.iload_n 2, 1) := by decide +kernel
theorem dX11_touch_11 : decode cX11_touch 11 = .ok (.iload_n 1, 1) := by decide +kernel
theorem dX11_touch_12 : decode cX11_touch 12 = .ok (.invokestatic 220, 3) := by decide +kernel
theorem dX11_touch_15 : decode cX11_touch 15 = .ok (.ifCond .eq 7, 3) := by decide +kernel
theorem dX11_touch_18 : decode cX11_touch 18 = .ok (.iconst 1, 1) := by decide +kernel
theorem dX11_touch_19 : decode cX11_touch 19 = .ok (.goto 4, 3) := by decide +kernel
theorem dX11_touch_22 : decode cX11_touch 22 = .ok (.iconst 0, 1) := by decide +kernel
theorem dX11_touch_23 : decode cX11_touch 23 = .ok (.ireturn, 1) := by decide +kernel
set_option maxRecDepth 20000 in
theorem ggX11_isAlike_X11_touch : GoodIn wsX11_isAlike wsX11_touch := goodIn_r _ [4, 5, 6, 3, 7] (by decide +kernel) (by decide +kernel)
set_option maxRecDepth 20000 in
theorem gX11_isAlike_X11_touch : GoodIn wsX11_isAlike (va_wsS RX11 223 yX11_touch wsX11_touch) := goodIn_app (goodIn_of _ (by decide +kernel)) ggX11_isAlike_X11_touch
set_option maxRecDepth 20000 in
theorem ggX11_isAlike_X11_has : GoodIn wsX11_isAlike wsX11_has := goodIn_r _ [7] (by decide +kernel) (by decide +kernel)
set_option maxRecDepth 20000 in
theorem gX11_isAlike_X11_has : GoodIn wsX11_isAlike (va_wsS RX11 220 yX11_has wsX11_has) := goodIn_app (goodIn_of _ (by decide +kernel)) ggX11_isAlike_X11_has
theorem dX11_isAlike_0 : decode cX11_isAlike 0 = .ok (.iconst 1, 1) := by decide +kernel
theorem dX11_isAlike_1 : decode cX11_isAlike 1 = .ok (.istore_n 2, 1) := by decide +kernel
theorem dX11_isAlike_2 : decode cX11_isAlike 2 = .ok (.iconst 0, 1) := by decide +kernel
theorem dX11_isAlike_3 : decode cX11_isAlike 3 = .ok (.istore_n 3, 1) := by decide +kernel
theorem dX11_isAlike_4 : decode cX11_isAlike 4 = .ok (.iload_n 3, 1) := by decide +kernel
theorem dX11_isAlike_5 : decode cX11_isAlike 5 = .ok (.iconst 5, 1) := by decide +kernel
theorem dX11_isAlike_6 : decode cX11_isAlike 6 = .ok (.if_icmp .ge 143, 3) := by decide +kernel
theorem dX11_isAlike_9 : decode cX11_isAlike 9 = .ok (.iload_n 3, 1) := by decide +kernel
theorem dX11_isAlike_10 : decode cX11_isAlike 10 = .ok (.iconst 1, 1) := by decide +kernel
theorem dX11_isAlike_11 : decode cX11_isAlike 11 = .ok (.iadd, 1) := by decide +kernel
theorem dX11_isAlike_12 : decode cX11_isAlike 12 = .ok (.istore 4, 2) := by decide +kernel
theorem dX11_isAlike_14 : decode cX11_isAlike 14 = .ok (.iload 4, 2) := by decide +kernel
theorem dX11_isAlike_16 : decode cX11_isAlike 16 = .ok (.iconst 5, 1) := by decide +kernel
theorem dX11_isAlike_17 : decode cX11_isAlike 17 = .ok (.if_icmp .ge 126, 3) := by decide +kernel
theorem dX11_isAlike_20 : decode cX11_isAlike 20 = .ok (.iload_n 2, 1) := by decide +kernel
theorem dX11_isAlike_21 : decode cX11_isAlike 21 = .ok (.ifCond .eq 24, 3) := by decide +kernel
theorem dX11_isAlike_24 : decode cX11_isAlike 24 = .ok (.iload_n 0, 1) := by decide +kernel
theorem dX11_isAlike_25 : decode cX11_isAlike 25 = .ok (.iload_n 3, 1) := by decide +kernel
theorem dX11_isAlike_26 : decode cX11_isAlike 26 = .ok (.iload 4, 2) := by decide +kernel
theorem dX11_isAlike_28 : decode cX11_isAlike 28 = .ok (.invokestatic 223, 3) := by decide +kernel
theorem dX11_isAlike_31 : decode cX11_isAlike 31 = .ok (.iload_n 1, 1) := by decide +kernel
theorem dX11_isAlike_32 : decode cX11_isAlike 32 = .ok (.iload_n 3, 1) := by decide +kernel
theorem dX11_isAlike_33 : decode cX11_isAlike 33 = .ok (.iload 4, 2) := by decide +kernel
theorem dX11_isAlike_35 : decode cX11_isAlike 35 = .ok (.invokestatic 223, 3) := by decide +kernel
theorem dX11_isAlike_38 : decode cX11_isAlike 38 = .ok (.if_icmp .ne 7, 3) := by decide +kernel
theorem dX11_isAlike_41 : decode cX11_isAlike 41 = .ok (.iconst 1, 1) := by decide +kernel
theorem dX11_isAlike_42 : decode cX11_isAlike 42 = .ok (.goto 4, 3) := by decide +kernel
theorem dX11_isAlike_45 : decode cX11_isAlike 45 = .ok (.iconst 0, 1) := by decide +kernel
theorem dX11_isAlike_46 : decode cX11_isAlike 46 = .ok (.istore_n 2, 1) := by decide +kernel
theorem dX11_isAlike_47 : decode cX11_isAlike 47 = .ok (.iconst 0, 1) := by decide +kernel
theorem dX11_isAlike_48 : decode cX11_isAlike 48 = .ok (.istore 5, 2) := by decide +kernel
theorem dX11_isAlike_50 : decode cX11_isAlike 50 = .ok (.iload 5, 2) := by decide +kernel
theorem dX11_isAlike_52 : decode cX11_isAlike 52 = .ok (.iconst 5, 1) := by decide +kernel
theorem dX11_isAlike_53 : decode cX11_isAlike 53 = .ok (.if_icmp .ge 84, 3) := by decide +kernel
theorem dX11_isAlike_56 : decode cX11_isAlike 56 = .ok (.iload_n 0, 1) := by decide +kernel
theorem dX11_isAlike_57 : decode cX11_isAlike 57 = .ok (.iload_n 3, 1) := by decide +kernel
theorem dX11_isAlike_58 : decode cX11_isAlike 58 = .ok (.iload 4, 2) := by decide +kernel
theorem dX11_isAlike_60 : decode cX11_isAlike 60 = .ok (.invokestatic 223, 3) := by decide +kernel
theorem dX11_isAlike_63 : decode cX11_isAlike 63 = .ok (.ifCond .ne 74, 3) := by decide +kernel
theorem dX11_isAlike_66 : decode cX11_isAlike 66 = .ok (.iload_n 2, 1) := by decide +kernel
theorem dX11_isAlike_67 : decode cX11_isAlike 67 = .ok (.ifCond .eq 62, 3) := by decide +kernel
theorem dX11_isAlike_70 : decode cX11_isAlike 70 = .ok (.iload_n 0, 1) := by decide +kernel
theorem dX11_isAlike_71 : decode cX11_isAlike 71 = .ok (.iload_n 3, 1) := by decide +kernel
theorem dX11_isAlike_72 : decode cX11_isAlike 72 = .ok (.iload 5, 2) := by decide +kernel
theorem dX11_isAlike_74 : decode cX11_isAlike 74 = .ok (.invokestatic 220, 3) := by decide +kernel
theorem dX11_isAlike_77 : decode cX11_isAlike 77 = .ok (.ifCond .eq 18, 3) := by decide +kernel
theorem dX11_isAlike_80 : decode cX11_isAlike 80 = .ok (.iload_n 0, 1) := by decide +kernel
theorem dX11_isAlike_81 : decode cX11_isAlike 81 = .ok (.iload 4, 2) := by decide +kernel
theorem dX11_isAlike_83 : decode cX11_isAlike 83 = .ok (.iload 5, 2) := by decide +kernel
theorem dX11_isAlike_85 : decode cX11_isAlike 85 = .ok (.invokestatic 220, 3) := by decide +kernel
theorem dX11_isAlike_88 : decode cX11_isAlike 88 = .ok (.ifCond .eq 7, 3) := by decide +kernel
theorem dX11_isAlike_91 : decode cX11_isAlike 91 = .ok (.iconst 1, 1) := by decide +kernel
theorem dX11_isAlike_92 : decode cX11_isAlike 92 = .ok (.goto 4, 3) := by decide +kernel
theorem dX11_isAlike_95 : decode cX11_isAlike 95 = .ok (.iconst 0, 1) := by decide +kernel
theorem dX11_isAlike_96 : decode cX11_isAlike 96 = .ok (.iload_n 1, 1) := by decide +kernel
theorem dX11_isAlike_97 : decode cX11_isAlike 97 = .ok (.iload_n 3, 1) := by decide +kernel
theorem dX11_isAlike_98 : decode cX11_isAlike 98 = .ok (.iload 5, 2) := by decide +kernel
theorem dX11_isAlike_100 : decode cX11_isAlike 100 = .ok (.invokestatic 220, 3) := by decide +kernel
theorem dX11_isAlike_103 : decode cX11_isAlike 103 = .ok (.ifCond .eq 18, 3) := by decide +kernel
theorem dX11_isAlike_106 : decode cX11_isAlike 106 = .ok (.iload_n 1, 1) := by decide +kernel
theorem dX11_isAlike_107 : decode cX11_isAlike 107 = .ok (.iload 4, 2) := by decide +kernel
theorem dX11_isAlike_109 : decode cX11_isAlike 109 = .ok (.iload 5, 2) := by decide +kernel
theorem dX11_isAlike_111 : decode cX11_isAlike 111 = .ok (.invokestatic 220, 3) := by decide +kernel
theorem dX11_isAlike_114 : decode cX11_isAlike 114 = .ok (.ifCond .eq 7, 3) := by decide +kernel
theorem dX11_isAlike_117 : decode cX11_isAlike 117 = .ok (.iconst 1, 1) := by decide +kernel
theorem dX11_isAlike_118 : decode cX11_isAlike 118 = .ok (.goto 4, 3) := by decide +kernel
theorem dX11_isAlike_121 : decode cX11_isAlike 121 = .ok (.iconst 0, 1) := by decide +kernel
theorem dX11_isAlike_122 : decode cX11_isAlike 122 = .ok (.if_icmp .ne 7, 3) := by decide +kernel
theorem dX11_isAlike_125 : decode cX11_isAlike 125 = .ok (.iconst 1, 1) := by decide +kernel
theorem dX11_isAlike_126 : decode cX11_isAlike 126 = .ok (.goto 4, 3) := by decide +kernel
theorem dX11_isAlike_129 : decode cX11_isAlike 129 = .ok (.iconst 0, 1) := by decide +kernel
theorem dX11_isAlike_130 : decode cX11_isAlike 130 = .ok (.istore_n 2, 1) := by decide +kernel
theorem dX11_isAlike_131 : decode cX11_isAlike 131 = .ok (.iinc 5 1, 3) := by decide +kernel
theorem dX11_isAlike_134 : decode cX11_isAlike 134 = .ok (.goto (-84), 3) := by decide +kernel
theorem dX11_isAlike_137 : decode cX11_isAlike 137 = .ok (.iinc 4 1, 3) := by decide +kernel
theorem dX11_isAlike_140 : decode cX11_isAlike 140 = .ok (.goto (-126), 3) := by decide +kernel
theorem dX11_isAlike_143 : decode cX11_isAlike 143 = .ok (.iinc 3 1, 3) := by decide +kernel
theorem dX11_isAlike_146 : decode cX11_isAlike 146 = .ok (.goto (-142), 3) := by decide +kernel
theorem dX11_isAlike_149 : decode cX11_isAlike 149 = .ok (.iload_n 2, 1) := by decide +kernel
theorem dX11_isAlike_150 : decode cX11_isAlike 150 = .ok (.ireturn, 1) := by decide +kernel
theorem dX11_change_0 : decode cX11_change 0 = .ok (.iconst 0, 1) := by decide +kernel
theorem dX11_change_1 : decode cX11_change 1 = .ok (.istore_n 1, 1) := by decide +kernel
theorem dX11_change_2 : decode cX11_change 2 = .ok (.iload_n 1, 1) := by decide +kernel
theorem dX11_change_3 : decode cX11_change 3 = .ok (.sipush 160, 3) := by decide +kernel
theorem dX11_change_6 : decode cX11_change 6 = .ok (.if_icmp .ge 16, 3) := by decide +kernel
theorem dX11_change_9 : decode cX11_change 9 = .ok (.aload_n 0, 1) := by decide +kernel
theorem dX11_change_10 : decode cX11_change 10 = .ok (.getfield 38, 3) := by decide +kernel
theorem dX11_change_13 : decode cX11_change 13 = .ok (.iload_n 1, 1) := by decide +kernel
theorem dX11_change_14 : decode cX11_change 14 = .ok (.iconst 0, 1) := by decide +kernel
theorem dX11_change_15 : decode cX11_change 15 = .ok (.bastore, 1) := by decide +kernel
theorem dX11_change_16 : decode cX11_change 16 = .ok (.iinc 1 1, 3) := by decide +kernel
theorem dX11_change_19 : decode cX11_change 19 = .ok (.goto (-17), 3) := by decide +kernel
theorem dX11_change_22 : decode cX11_change 22 = .ok (.aload_n 0, 1) := by decide +kernel
theorem dX11_change_23 : decode cX11_change 23 = .ok (.iconst (-1), 1) := by decide +kernel
theorem dX11_change_24 : decode cX11_change 24 = .ok (.putfield 78, 3) := by decide +kernel
theorem dX11_change_27 : decode cX11_change 27 = .ok (.aload_n 0, 1) := by decide +kernel
theorem dX11_change_28 : decode cX11_change 28 = .ok (.iconst (-1), 1) := by decide +kernel
theorem dX11_change_29 : decode cX11_change 29 = .ok (.putfield 81, 3) := by decide +kernel
theorem dX11_change_32 : decode cX11_change 32 = .ok (.return_, 1) := by decide +kernel
set_option maxRecDepth 20000 in
theorem ggX11_clear_X11_change : GoodIn wsX11_clear wsX11_change := goodIn_r _ [9, 10, 11, 12, 13, 14, 15, 16, 17, 18, 19, 20, 21, 22, 23, 24, 25, 26, 27, 28, 29, 30, 31, 32, 33, 34, 35, 36, 37, 38, 39, 40, 41, 42, 43, 44, 45, 46, 47, 48, 49, 50, 51] (by decide +kernel) (by decide +kernel)
set_option maxRecDepth 20000 in
theorem gX11_clear_X11_change : GoodIn wsX11_clear (wsV RX11 226 RX11 yX11_change wsX11_change) := goodIn_app (goodIn_of _ (by decide +kernel)) ggX11_clear_X11_change
theorem dX11_clear_0 : decode cX11_clear 0 = .ok (.aload_n 0, 1) := by decide +kernel
theorem dX11_clear_1 : decode cX11_clear 1 = .ok (.getfield 179, 3) := by decide +kernel
theorem dX11_clear_4 : decode cX11_clear 4 = .ok (.istore_n 1, 1) := by decide +kernel
theorem dX11_clear_5 : decode cX11_clear 5 = .ok (.aload_n 0, 1) := by decide +kernel
theorem dX11_clear_6 : decode cX11_clear 6 = .ok (.iconst 0, 1) := by decide +kernel
theorem dX11_clear_7 : decode cX11_clear 7 = .ok (.putfield 160, 3) := by decide +kernel
theorem dX11_clear_10 : decode cX11_clear 10 = .ok (.aload_n 0, 1) := by decide +kernel
theorem dX11_clear_11 : decode cX11_clear 11 = .ok (.iconst 0, 1) := by decide +kernel
theorem dX11_clear_12 : decode cX11_clear 12 = .ok (.putfield 179, 3) := by decide +kernel
theorem dX11_clear_15 : decode cX11_clear 15 = .ok (.aload_n 0, 1) := by decide +kernel
theorem dX11_clear_16 : decode cX11_clear 16 = .ok (.iconst 1, 1) := by decide +kernel
theorem dX11_clear_17 : decode cX11_clear 17 = .ok (.putfield 16, 3) := by decide +kernel
theorem dX11_clear_20 : decode cX11_clear 20 = .ok (.aload_n 0, 1) := by decide +kernel
theorem dX11_clear_21 : decode cX11_clear 21 = .ok (.iconst 4, 1) := by decide +kernel
theorem dX11_clear_22 : decode cX11_clear 22 = .ok (.putfield 20, 3) := by decide +kernel
theorem dX11_clear_25 : decode cX11_clear 25 = .ok (.aload_n 0, 1) := by decide +kernel
theorem dX11_clear_26 : decode cX11_clear 26 = .ok (.invokevirtual 226, 3) := by decide +kernel
theorem dX11_clear_29 : decode cX11_clear 29 = .ok (.iload_n 1, 1) := by decide +kernel
theorem dX11_clear_30 : decode cX11_clear 30 = .ok (.ireturn, 1) := by decide +kernel
set_option maxRecDepth 20000 in
theorem ggX11_name_X11_change : GoodIn wsX11_name wsX11_change := goodIn_r _ [8, 9, 10, 11, 12, 13, 14, 15, 16, 17, 18, 19, 20, 21, 22, 23, 24, 25, 26, 27, 28, 29, 30, 31, 32, 33, 34, 35, 36, 37, 38, 39, 40, 41, 42, 43, 44, 45, 46, 47, 48, 49, 50] (by decide +kernel) (by decide +kernel)
set_option maxRecDepth 20000 in
theorem gX11_name_X11_change : GoodIn wsX11_name (wsV RX11 226 RX11 yX11_change wsX11_change) := goodIn_app (goodIn_of _ (by decide +kernel)) ggX11_name_X11_change
theorem dX11_name_0 : decode cX11_name 0 = .ok (.iload_n 1, 1) := by decide +kernel
theorem dX11_name_1 : decode cX11_name 1 = .ok (.iconst 2, 1) := by decide +kernel
theorem dX11_name_2 : decode cX11_name 2 = .ok (.if_icmp .eq 10, 3) := by decide +kernel
theorem dX11_name_5 : decode cX11_name 5 = .ok (.iload_n 1, 1) := by decide +kernel
theorem dX11_name_6 : decode cX11_name 6 = .ok (.iconst 3, 1) := by decide +kernel
theorem dX11_name_7 : decode cX11_name 7 = .ok (.if_icmp .eq 5, 3) := by decide +kernel
theorem dX11_name_10 : decode cX11_name 10 = .ok (.iconst (-1), 1) := by decide +kernel
theorem dX11_name_11 : decode cX11_name 11 = .ok (.ireturn, 1) := by decide +kernel
theorem dX11_name_12 : decode cX11_name 12 = .ok (.aload_n 0, 1) := by decide +kernel
theorem dX11_name_13 : decode cX11_name 13 = .ok (.getfield 179, 3) := by decide +kernel
theorem dX11_name_16 : decode cX11_name 16 = .ok (.ifCond .le 6, 3) := by decide +kernel
theorem dX11_name_19 : decode cX11_name 19 = .ok (.bipush (-2), 2) := by decide +kernel
theorem dX11_name_21 : decode cX11_name 21 = .ok (.ireturn, 1) := by decide +kernel
theorem dX11_name_22 : decode cX11_name 22 = .ok (.aload_n 0, 1) := by decide +kernel
theorem dX11_name_23 : decode cX11_name 23 = .ok (.getfield 160, 3) := by decide +kernel
theorem dX11_name_26 : decode cX11_name 26 = .ok (.iconst 5, 1) := by decide +kernel
theorem dX11_name_27 : decode cX11_name 27 = .ok (.if_icmp .ne 6, 3) := by decide +kernel
theorem dX11_name_30 : decode cX11_name 30 = .ok (.bipush (-3), 2) := by decide +kernel
theorem dX11_name_32 : decode cX11_name 32 = .ok (.ireturn, 1) := by decide +kernel
theorem dX11_name_33 : decode cX11_name 33 = .ok (.aload_n 0, 1) := by decide +kernel
theorem dX11_name_34 : decode cX11_name 34 = .ok (.getfield 7, 3) := by decide +kernel
theorem dX11_name_37 : decode cX11_name 37 = .ok (.aload_n 0, 1) := by decide +kernel
theorem dX11_name_38 : decode cX11_name 38 = .ok (.getfield 160, 3) := by decide +kernel
theorem dX11_name_41 : decode cX11_name 41 = .ok (.iload_n 1, 1) := by decide +kernel
theorem dX11_name_42 : decode cX11_name 42 = .ok (.iastore, 1) := by decide +kernel
theorem dX11_name_43 : decode cX11_name 43 = .ok (.aload_n 0, 1) := by decide +kernel
theorem dX11_name_44 : decode cX11_name 44 = .ok (.dup, 1) := by decide +kernel
theorem dX11_name_45 : decode cX11_name 45 = .ok (.getfield 160, 3) := by decide +kernel
theorem dX11_name_48 : decode cX11_name 48 = .ok (.iconst 1, 1) := by decide +kernel
theorem dX11_name_49 : decode cX11_name 49 = .ok (.iadd, 1) := by decide +kernel
theorem dX11_name_50 : decode cX11_name 50 = .ok (.putfield 160, 3) := by decide +kernel
theorem dX11_name_53 : decode cX11_name 53 = .ok (.aload_n 0, 1) := by decide +kernel
theorem dX11_name_54 : decode cX11_name 54 = .ok (.invokevirtual 226, 3) := by decide +kernel
theorem dX11_name_57 : decode cX11_name 57 = .ok (.aload_n 0, 1) := by decide +kernel
theorem dX11_name_58 : decode cX11_name 58 = .ok (.getfield 160, 3) := by decide +kernel
theorem dX11_name_61 : decode cX11_name 61 = .ok (.iconst 1, 1) := by decide +kernel
theorem dX11_name_62 : decode cX11_name 62 = .ok (.isub, 1) := by decide +kernel
theorem dX11_name_63 : decode cX11_name 63 = .ok (.ireturn, 1) := by decide +kernel
theorem dX11_isValue_0 : decode cX11_isValue 0 = .ok (.iload_n 1, 1) := by decide +kernel
theorem dX11_isValue_1 : decode cX11_isValue 1 = .ok (.aload_n 0, 1) := by decide +kernel
theorem dX11_isValue_2 : decode cX11_isValue 2 = .ok (.getfield 160, 3) := by decide +kernel
theorem dX11_isValue_5 : decode cX11_isValue 5 = .ok (.if_icmp .ge 17, 3) := by decide +kernel
theorem dX11_isValue_8 : decode cX11_isValue 8 = .ok (.iload_n 2, 1) := by decide +kernel
theorem dX11_isValue_9 : decode cX11_isValue 9 = .ok (.ifCond .lt 17, 3) := by decide +kernel
theorem dX11_isValue_12 : decode cX11_isValue 12 = .ok (.iload_n 2, 1) := by decide +kernel
theorem dX11_isValue_13 : decode cX11_isValue 13 = .ok (.aload_n 0, 1) := by decide +kernel
theorem dX11_isValue_14 : decode cX11_isValue 14 = .ok (.getfield 7, 3) := by decide +kernel
theorem dX11_isValue_17 : decode cX11_isValue 17 = .ok (.iload_n 1, 1) := by decide +kernel
theorem dX11_isValue_18 : decode cX11_isValue 18 = .ok (.iaload, 1) := by decide +kernel
theorem dX11_isValue_19 : decode cX11_isValue 19 = .ok (.if_icmp .ge 7, 3) := by decide +kernel
theorem dX11_isValue_22 : decode cX11_isValue 22 = .ok (.iconst 1, 1) := by decide +kernel
theorem dX11_isValue_23 : decode cX11_isValue 23 = .ok (.goto 4, 3) := by decide +kernel
theorem dX11_isValue_26 : decode cX11_isValue 26 = .ok (.iconst 0, 1) := by decide +kernel
theorem dX11_isValue_27 : decode cX11_isValue 27 = .ok (.ireturn, 1) := by decide +kernel
set_option maxRecDepth 20000 in
theorem ggX11_row_X11_isValue : GoodIn wsX11_row wsX11_isValue := goodIn_r _ [8, 1, 9, 17, 18, 19, 20, 21, 22, 23, 24, 25, 26, 27, 28, 29, 30, 31, 32, 33, 34, 35, 36, 37, 38, 39, 40, 41, 42, 43, 44, 45, 46, 47, 48, 49, 50, 51, 52, 53, 54, 55] (by decide +kernel) (by decide +kernel)
set_option maxRecDepth 20000 in
theorem gX11_row_X11_isValue : GoodIn wsX11_row (wsV RX11 229 RX11 yX11_isValue wsX11_isValue) := goodIn_app (goodIn_of _ (by decide +kernel)) ggX11_row_X11_isValue
set_option maxRecDepth 20000 in
theorem ggX11_row_X11_change : GoodIn wsX11_row wsX11_change := goodIn_r _ [13, 14, 15, 16, 17, 18, 19, 20, 21, 22, 23, 24, 25, 26, 27, 28, 29, 30, 31, 32, 33, 34, 35, 36, 37, 38, 39, 40, 41, 42, 43, 44, 45, 46, 47, 48, 49, 50, 51, 52, 53, 54, 55] (by decide +kernel) (by decide +kernel)
set_option maxRecDepth 20000 in
theorem gX11_row_X11_change : GoodIn wsX11_row (wsV RX11 226 RX11 yX11_change wsX11_change) := goodIn_app (goodIn_of _ (by decide +kernel)) ggX11_row_X11_change
theorem dX11_row_0 : decode cX11_row 0 = .ok (.aload_n 0, 1) := by decide +kernel
theorem dX11_row_1 : decode cX11_row 1 = .ok (.iconst 0, 1) := by decide +kernel
theorem dX11_row_2 : decode cX11_row 2 = .ok (.iload_n 1, 1) := by decide +kernel
theorem dX11_row_3 : decode cX11_row 3 = .ok (.invokevirtual 229, 3) := by decide +kernel
theorem dX11_row_6 : decode cX11_row 6 = .ok (.ifCond .eq 41, 3) := by decide +kernel
theorem dX11_row_9 : decode cX11_row 9 = .ok (.aload_n 0, 1) := by decide +kernel
theorem dX11_row_10 : decode cX11_row 10 = .ok (.iconst 1, 1) := by decide +kernel
theorem dX11_row_11 : decode cX11_row 11 = .ok (.iload_n 2, 1) := by decide +kernel
theorem dX11_row_12 : decode cX11_row 12 = .ok (.invokevirtual 229, 3) := by decide +kernel
theorem dX11_row_15 : decode cX11_row 15 = .ok (.ifCond .eq 32, 3) := by decide +kernel
theorem dX11_row_18 : decode cX11_row 18 = .ok (.aload_n 0, 1) := by decide +kernel
theorem dX11_row_19 : decode cX11_row 19 = .ok (.iconst 2, 1) := by decide +kernel
theorem dX11_row_20 : decode cX11_row 20 = .ok (.iload_n 3, 1) := by decide +kernel
theorem dX11_row_21 : decode cX11_row 21 = .ok (.invokevirtual 229, 3) := by decide +kernel
theorem dX11_row_24 : decode cX11_row 24 = .ok (.ifCond .eq 23, 3) := by decide +kernel
theorem dX11_row_27 : decode cX11_row 27 = .ok (.aload_n 0, 1) := by decide +kernel
theorem dX11_row_28 : decode cX11_row 28 = .ok (.iconst 3, 1) := by decide +kernel
theorem dX11_row_29 : decode cX11_row 29 = .ok (.iload 4, 2) := by decide +kernel
theorem dX11_row_31 : decode cX11_row 31 = .ok (.invokevirtual 229, 3) := by decide +kernel
theorem dX11_row_34 : decode cX11_row 34 = .ok (.ifCond .eq 13, 3) := by decide +kernel
theorem dX11_row_37 : decode cX11_row 37 = .ok (.aload_n 0, 1) := by decide +kernel
theorem dX11_row_38 : decode cX11_row 38 = .ok (.iconst 4, 1) := by decide +kernel
theorem dX11_row_39 : decode cX11_row 39 = .ok (.iload 5, 2) := by decide +kernel
theorem dX11_row_41 : decode cX11_row 41 = .ok (.invokevirtual 229, 3) := by decide +kernel
theorem dX11_row_44 : decode cX11_row 44 = .ok (.ifCond .ne 5, 3) := by decide +kernel
theorem dX11_row_47 : decode cX11_row 47 = .ok (.iconst (-1), 1) := by decide +kernel
theorem dX11_row_48 : decode cX11_row 48 = .ok (.ireturn, 1) := by decide +kernel
theorem dX11_row_49 : decode cX11_row 49 = .ok (.aload_n 0, 1) := by decide +kernel
theorem dX11_row_50 : decode cX11_row 50 = .ok (.getfield 160, 3) := by decide +kernel
theorem dX11_row_53 : decode cX11_row 53 = .ok (.ifCond .ne 6, 3) := by decide +kernel
theorem dX11_row_56 : decode cX11_row 56 = .ok (.bipush (-2), 2) := by decide +kernel
theorem dX11_row_58 : decode cX11_row 58 = .ok (.ireturn, 1) := by decide +kernel
theorem dX11_row_59 : decode cX11_row 59 = .ok (.aload_n 0, 1) := by decide +kernel
theorem dX11_row_60 : decode cX11_row 60 = .ok (.getfield 179, 3) := by decide +kernel
theorem dX11_row_63 : decode cX11_row 63 = .ok (.bipush 16, 2) := by decide +kernel
theorem dX11_row_65 : decode cX11_row 65 = .ok (.if_icmp .ne 6, 3) := by decide +kernel
theorem dX11_row_68 : decode cX11_row 68 = .ok (.bipush (-3), 2) := by decide +kernel
theorem dX11_row_70 : decode cX11_row 70 = .ok (.ireturn, 1) := by decide +kernel
theorem dX11_row_71 : decode cX11_row 71 = .ok (.iconst 5, 1) := by decide +kernel
theorem dX11_row_72 : decode cX11_row 72 = .ok (.aload_n 0, 1) := by decide +kernel
theorem dX11_row_73 : decode cX11_row 73 = .ok (.getfield 179, 3) := by decide +kernel
theorem dX11_row_76 : decode cX11_row 76 = .ok (.imul, 1) := by decide +kernel
theorem dX11_row_77 : decode cX11_row 77 = .ok (.istore 6, 2) := by decide +kernel
theorem dX11_row_79 : decode cX11_row 79 = .ok (.aload_n 0, 1) := by decide +kernel
theorem dX11_row_80 : decode cX11_row 80 = .ok (.getfield 13, 3) := by decide +kernel
theorem dX11_row_83 : decode cX11_row 83 = .ok (.iload 6, 2) := by decide +kernel
theorem dX11_row_85 : decode cX11_row 85 = .ok (.iload_n 1, 1) := by decide +kernel
theorem dX11_row_86 : decode cX11_row 86 = .ok (.iastore, 1) := by decide +kernel
theorem dX11_row_87 : decode cX11_row 87 = .ok (.aload_n 0, 1) := by decide +kernel
theorem dX11_row_88 : decode cX11_row 88 = .ok (.getfield 13, 3) := by decide +kernel
theorem dX11_row_91 : decode cX11_row 91 = .ok (.iload 6, 2) := by decide +kernel
theorem dX11_row_93 : decode cX11_row 93 = .ok (.iconst 1, 1) := by decide +kernel
theorem dX11_row_94 : decode cX11_row 94 = .ok (.iadd, 1) := by decide +kernel
theorem dX11_row_95 : decode cX11_row 95 = .ok (.iload_n 2, 1) := by decide +kernel
theorem dX11_row_96 : decode cX11_row 96 = .ok (.iastore, 1) := by decide +kernel
theorem dX11_row_97 : decode cX11_row 97 = .ok (.aload_n 0, 1) := by decide +kernel
theorem dX11_row_98 : decode cX11_row 98 = .ok (.getfield 13, 3) := by decide +kernel
theorem dX11_row_101 : decode cX11_row 101 = .ok (.iload 6, 2) := by decide +kernel
theorem dX11_row_103 : decode cX11_row 103 = .ok (.iconst 2, 1) := by decide +kernel
theorem dX11_row_104 : decode cX11_row 104 = .ok (.iadd, 1) := by decide +kernel
theorem dX11_row_105 : decode cX11_row 105 = .ok (.iload_n 3, 1) := by decide +kernel
theorem dX11_row_106 : decode cX11_row 106 = .ok (.iastore, 1) := by decide +kernel
theorem dX11_row_107 : decode cX11_row 107 = .ok (.aload_n 0, 1) := by decide +kernel
theorem dX11_row_108 : decode cX11_row 108 = .ok (.getfield 13, 3) := by decide +kernel
theorem dX11_row_111 : decode cX11_row 111 = .ok (.iload 6, 2) := by decide +kernel
theorem dX11_row_113 : decode cX11_row 113 = .ok (.iconst 3, 1) := by decide +kernel
theorem dX11_row_114 : decode cX11_row 114 = .ok (.iadd, 1) := by decide +kernel
theorem dX11_row_115 : decode cX11_row 115 = .ok (.iload 4, 2) := by decide +kernel
theorem dX11_row_117 : decode cX11_row 117 = .ok (.iastore, 1) := by decide +kernel
theorem dX11_row_118 : decode cX11_row 118 = .ok (.aload_n 0, 1) := by decide +kernel
theorem dX11_row_119 : decode cX11_row 119 = .ok (.getfield 13, 3) := by decide +kernel
theorem dX11_row_122 : decode cX11_row 122 = .ok (.iload 6, 2) := by decide +kernel
theorem dX11_row_124 : decode cX11_row 124 = .ok (.iconst 4, 1) := by decide +kernel
theorem dX11_row_125 : decode cX11_row 125 = .ok (.iadd, 1) := by decide +kernel
theorem dX11_row_126 : decode cX11_row 126 = .ok (.iload 5, 2) := by decide +kernel
theorem dX11_row_128 : decode cX11_row 128 = .ok (.iastore, 1) := by decide +kernel
theorem dX11_row_129 : decode cX11_row 129 = .ok (.aload_n 0, 1) := by decide +kernel
theorem dX11_row_130 : decode cX11_row 130 = .ok (.dup, 1) := by decide +kernel
theorem dX11_row_131 : decode cX11_row 131 = .ok (.getfield 179, 3) := by decide +kernel
theorem dX11_row_134 : decode cX11_row 134 = .ok (.iconst 1, 1) := by decide +kernel
theorem dX11_row_135 : decode cX11_row 135 = .ok (.iadd, 1) := by decide +kernel
theorem dX11_row_136 : decode cX11_row 136 = .ok (.putfield 179, 3) := by decide +kernel
theorem dX11_row_139 : decode cX11_row 139 = .ok (.aload_n 0, 1) := by decide +kernel
theorem dX11_row_140 : decode cX11_row 140 = .ok (.invokevirtual 226, 3) := by decide +kernel
theorem dX11_row_143 : decode cX11_row 143 = .ok (.aload_n 0, 1) := by decide +kernel
theorem dX11_row_144 : decode cX11_row 144 = .ok (.getfield 179, 3) := by decide +kernel
theorem dX11_row_147 : decode cX11_row 147 = .ok (.iconst 1, 1) := by decide +kernel
theorem dX11_row_148 : decode cX11_row 148 = .ok (.isub, 1) := by decide +kernel
theorem dX11_row_149 : decode cX11_row 149 = .ok (.ireturn, 1) := by decide +kernel
set_option maxRecDepth 20000 in
theorem ggX11_drop_X11_change : GoodIn wsX11_drop wsX11_change := goodIn_r _ [7, 8, 9, 10, 11, 12, 13, 14, 15, 16, 17, 18, 19, 20, 21, 22, 23, 24, 25, 26, 27, 28, 29, 30, 31, 32, 33, 34, 35, 36, 37, 38, 39, 40, 41, 42, 43, 44, 45, 46, 47, 48, 49] (by decide +kernel) (by decide +kernel)
set_option maxRecDepth 20000 in
theorem gX11_drop_X11_change : GoodIn wsX11_drop (wsV RX11 226 RX11 yX11_change wsX11_change) := goodIn_app (goodIn_of _ (by decide +kernel)) ggX11_drop_X11_change
theorem dX11_drop_0 : decode cX11_drop 0 = .ok (.iload_n 1, 1) := by decide +kernel
theorem dX11_drop_1 : decode cX11_drop 1 = .ok (.ifCond .lt 11, 3) := by decide +kernel
theorem dX11_drop_4 : decode cX11_drop 4 = .ok (.iload_n 1, 1) := by decide +kernel
theorem dX11_drop_5 : decode cX11_drop 5 = .ok (.aload_n 0, 1) := by decide +kernel
theorem dX11_drop_6 : decode cX11_drop 6 = .ok (.getfield 179, 3) := by decide +kernel
theorem dX11_drop_9 : decode cX11_drop 9 = .ok (.if_icmp .lt 5, 3) := by decide +kernel
theorem dX11_drop_12 : decode cX11_drop 12 = .ok (.iconst (-1), 1) := by decide +kernel
theorem dX11_drop_13 : decode cX11_drop 13 = .ok (.ireturn, 1) := by decide +kernel
theorem dX11_drop_14 : decode cX11_drop 14 = .ok (.aload_n 0, 1) := by decide +kernel
theorem dX11_drop_15 : decode cX11_drop 15 = .ok (.dup, 1) := by decide +kernel
theorem dX11_drop_16 : decode cX11_drop 16 = .ok (.getfield 179, 3) := by decide +kernel
theorem dX11_drop_19 : decode cX11_drop 19 = .ok (.iconst 1, 1) := by decide +kernel
theorem dX11_drop_20 : decode cX11_drop 20 = .ok (.isub, 1) := by decide +kernel
theorem dX11_drop_21 : decode cX11_drop 21 = .ok (.putfield 179, 3) := by decide +kernel
theorem dX11_drop_24 : decode cX11_drop 24 = .ok (.iconst 5, 1) := by decide +kernel
theorem dX11_drop_25 : decode cX11_drop 25 = .ok (.iload_n 1, 1) := by decide +kernel
theorem dX11_drop_26 : decode cX11_drop 26 = .ok (.imul, 1) := by decide +kernel
theorem dX11_drop_27 : decode cX11_drop 27 = .ok (.istore_n 2, 1) := by decide +kernel
theorem dX11_drop_28 : decode cX11_drop 28 = .ok (.iload_n 2, 1) := by decide +kernel
theorem dX11_drop_29 : decode cX11_drop 29 = .ok (.iconst 5, 1) := by decide +kernel
theorem dX11_drop_30 : decode cX11_drop 30 = .ok (.aload_n 0, 1) := by decide +kernel
theorem dX11_drop_31 : decode cX11_drop 31 = .ok (.getfield 179, 3) := by decide +kernel
theorem dX11_drop_34 : decode cX11_drop 34 = .ok (.imul, 1) := by decide +kernel
theorem dX11_drop_35 : decode cX11_drop 35 = .ok (.if_icmp .ge 23, 3) := by decide +kernel
theorem dX11_drop_38 : decode cX11_drop 38 = .ok (.aload_n 0, 1) := by decide +kernel
theorem dX11_drop_39 : decode cX11_drop 39 = .ok (.getfield 13, 3) := by decide +kernel
theorem dX11_drop_42 : decode cX11_drop 42 = .ok (.iload_n 2, 1) := by decide +kernel
theorem dX11_drop_43 : decode cX11_drop 43 = .ok (.aload_n 0, 1) := by decide +kernel
theorem dX11_drop_44 : decode cX11_drop 44 = .ok (.getfield 13, 3) := by decide +kernel
theorem dX11_drop_47 : decode cX11_drop 47 = .ok (.iload_n 2, 1) := by decide +kernel
theorem dX11_drop_48 : decode cX11_drop 48 = .ok (.iconst 5, 1) := by decide +kernel
theorem dX11_drop_49 : decode cX11_drop 49 = .ok (.iadd, 1) := by decide +kernel
theorem dX11_drop_50 : decode cX11_drop 50 = .ok (.iaload, 1) := by decide +kernel
theorem dX11_drop_51 : decode cX11_drop 51 = .ok (.iastore, 1) := by decide +kernel
theorem dX11_drop_52 : decode cX11_drop 52 = .ok (.iinc 2 1, 3) := by decide +kernel
theorem dX11_drop_55 : decode cX11_drop 55 = .ok (.goto (-27), 3) := by decide +kernel
theorem dX11_drop_58 : decode cX11_drop 58 = .ok (.aload_n 0, 1) := by decide +kernel
theorem dX11_drop_59 : decode cX11_drop 59 = .ok (.invokevirtual 226, 3) := by decide +kernel
theorem dX11_drop_62 : decode cX11_drop 62 = .ok (.aload_n 0, 1) := by decide +kernel
theorem dX11_drop_63 : decode cX11_drop 63 = .ok (.getfield 179, 3) := by decide +kernel
theorem dX11_drop_66 : decode cX11_drop 66 = .ok (.ireturn, 1) := by decide +kernel
set_option maxRecDepth 20000 in
theorem ggX11_value_X11_isName : GoodIn wsX11_value wsX11_isName := goodIn_r _ [7, 8, 9, 10, 11, 12, 13, 14, 15, 16, 17, 18, 19, 20, 21, 22, 23, 24, 25, 26, 27, 28, 29, 30, 31, 32, 33, 34, 35, 36, 37, 38, 39, 40, 41, 42, 43, 44, 45, 46, 47] (by decide +kernel) (by decide +kernel)
set_option maxRecDepth 20000 in
theorem gX11_value_X11_isName : GoodIn wsX11_value (wsV RX11 233 RX11 yX11_isName wsX11_isName) := goodIn_app (goodIn_of _ (by decide +kernel)) ggX11_value_X11_isName
theorem dX11_value_0 : decode cX11_value 0 = .ok (.iload_n 1, 1) := by decide +kernel
theorem dX11_value_1 : decode cX11_value 1 = .ok (.ifCond .lt 19, 3) := by decide +kernel
theorem dX11_value_4 : decode cX11_value 4 = .ok (.iload_n 1, 1) := by decide +kernel
theorem dX11_value_5 : decode cX11_value 5 = .ok (.aload_n 0, 1) := by decide +kernel
theorem dX11_value_6 : decode cX11_value 6 = .ok (.getfield 179, 3) := by decide +kernel
theorem dX11_value_9 : decode cX11_value 9 = .ok (.if_icmp .ge 11, 3) := by decide +kernel
theorem dX11_value_12 : decode cX11_value 12 = .ok (.aload_n 0, 1) := by decide +kernel
theorem dX11_value_13 : decode cX11_value 13 = .ok (.iload_n 2, 1) := by decide +kernel
theorem dX11_value_14 : decode cX11_value 14 = .ok (.invokevirtual 233, 3) := by decide +kernel
theorem dX11_value_17 : decode cX11_value 17 = .ok (.ifCond .ne 7, 3) := by decide +kernel
theorem dX11_value_20 : decode cX11_value 20 = .ok (.iconst (-1), 1) := by decide +kernel
theorem dX11_value_21 : decode cX11_value 21 = .ok (.goto 13, 3) := by decide +kernel
theorem dX11_value_24 : decode cX11_value 24 = .ok (.aload_n 0, 1) := by decide +kernel
theorem dX11_value_25 : decode cX11_value 25 = .ok (.getfield 13, 3) := by decide +kernel
theorem dX11_value_28 : decode cX11_value 28 = .ok (.iconst 5, 1) := by decide +kernel
theorem dX11_value_29 : decode cX11_value 29 = .ok (.iload_n 1, 1) := by decide +kernel
theorem dX11_value_30 : decode cX11_value 30 = .ok (.imul, 1) := by decide +kernel
theorem dX11_value_31 : decode cX11_value 31 = .ok (.iload_n 2, 1) := by decide +kernel
theorem dX11_value_32 : decode cX11_value 32 = .ok (.iadd, 1) := by decide +kernel
theorem dX11_value_33 : decode cX11_value 33 = .ok (.iaload, 1) := by decide +kernel
theorem dX11_value_34 : decode cX11_value 34 = .ok (.ireturn, 1) := by decide +kernel
set_option maxRecDepth 20000 in
theorem ggX11_set_X11_change : GoodIn wsX11_set wsX11_change := goodIn_r _ [7, 8, 9, 10, 11, 12, 13, 14, 15, 16, 17, 18, 19, 20, 21, 22, 23, 24, 25, 26, 27, 28, 29, 30, 31, 32, 33, 34, 35, 36, 37, 38, 39, 40, 41, 42, 43, 44, 45, 46, 47, 48, 49] (by decide +kernel) (by decide +kernel)
set_option maxRecDepth 20000 in
theorem gX11_set_X11_change : GoodIn wsX11_set (wsV RX11 226 RX11 yX11_change wsX11_change) := goodIn_app (goodIn_of _ (by decide +kernel)) ggX11_set_X11_change
theorem dX11_set_0 : decode cX11_set 0 = .ok (.iload_n 1, 1) := by decide +kernel
theorem dX11_set_1 : decode cX11_set 1 = .ok (.ifCond .ne 30, 3) := by decide +kernel
theorem dX11_set_4 : decode cX11_set 4 = .ok (.iload_n 2, 1) := by decide +kernel
theorem dX11_set_5 : decode cX11_set 5 = .ok (.iconst 1, 1) := by decide +kernel
theorem dX11_set_6 : decode cX11_set 6 = .ok (.if_icmp .lt 25, 3) := by decide +kernel
theorem dX11_set_9 : decode cX11_set 9 = .ok (.iload_n 2, 1) := by decide +kernel
theorem dX11_set_10 : decode cX11_set 10 = .ok (.bipush 9, 2) := by decide +kernel
theorem dX11_set_12 : decode cX11_set 12 = .ok (.if_icmp .gt 19, 3) := by decide +kernel
theorem dX11_set_15 : decode cX11_set 15 = .ok (.aload_n 0, 1) := by decide +kernel
theorem dX11_set_16 : decode cX11_set 16 = .ok (.getfield 16, 3) := by decide +kernel
theorem dX11_set_19 : decode cX11_set 19 = .ok (.istore_n 3, 1) := by decide +kernel
theorem dX11_set_20 : decode cX11_set 20 = .ok (.aload_n 0, 1) := by decide +kernel
theorem dX11_set_21 : decode cX11_set 21 = .ok (.iload_n 2, 1) := by decide +kernel
theorem dX11_set_22 : decode cX11_set 22 = .ok (.putfield 16, 3) := by decide +kernel
theorem dX11_set_25 : decode cX11_set 25 = .ok (.aload_n 0, 1) := by decide +kernel
theorem dX11_set_26 : decode cX11_set 26 = .ok (.invokevirtual 226, 3) := by decide +kernel
theorem dX11_set_29 : decode cX11_set 29 = .ok (.iload_n 3, 1) := by decide +kernel
theorem dX11_set_30 : decode cX11_set 30 = .ok (.ireturn, 1) := by decide +kernel
theorem dX11_set_31 : decode cX11_set 31 = .ok (.iload_n 1, 1) := by decide +kernel
theorem dX11_set_32 : decode cX11_set 32 = .ok (.iconst 1, 1) := by decide +kernel
theorem dX11_set_33 : decode cX11_set 33 = .ok (.if_icmp .ne 28, 3) := by decide +kernel
theorem dX11_set_36 : decode cX11_set 36 = .ok (.iload_n 2, 1) := by decide +kernel
theorem dX11_set_37 : decode cX11_set 37 = .ok (.ifCond .lt 24, 3) := by decide +kernel
theorem dX11_set_40 : decode cX11_set 40 = .ok (.iload_n 2, 1) := by decide +kernel
theorem dX11_set_41 : decode cX11_set 41 = .ok (.iconst 4, 1) := by decide +kernel
theorem dX11_set_42 : decode cX11_set 42 = .ok (.if_icmp .gt 19, 3) := by decide +kernel
theorem dX11_set_45 : decode cX11_set 45 = .ok (.aload_n 0, 1) := by decide +kernel
theorem dX11_set_46 : decode cX11_set 46 = .ok (.getfield 20, 3) := by decide +kernel
theorem dX11_set_49 : decode cX11_set 49 = .ok (.istore_n 3, 1) := by decide +kernel
theorem dX11_set_50 : decode cX11_set 50 = .ok (.aload_n 0, 1) := by decide +kernel
theorem dX11_set_51 : decode cX11_set 51 = .ok (.iload_n 2, 1) := by decide +kernel
theorem dX11_set_52 : decode cX11_set 52 = .ok (.putfield 20, 3) := by decide +kernel
theorem dX11_set_55 : decode cX11_set 55 = .ok (.aload_n 0, 1) := by decide +kernel
theorem dX11_set_56 : decode cX11_set 56 = .ok (.invokevirtual 226, 3) := by decide +kernel
theorem dX11_set_59 : decode cX11_set 59 = .ok (.iload_n 3, 1) := by decide +kernel
theorem dX11_set_60 : decode cX11_set 60 = .ok (.ireturn, 1) := by decide +kernel
theorem dX11_set_61 : decode cX11_set 61 = .ok (.iconst (-1), 1) := by decide +kernel
theorem dX11_set_62 : decode cX11_set 62 = .ok (.ireturn, 1) := by decide +kernel
theorem dX11_about_0 : decode cX11_about 0 = .ok (.iload_n 1, 1) := by decide +kernel
theorem dX11_about_1 : decode cX11_about 1 = .ok (.tableswitch 51 0 3 #[31, 36, 41, 46], 31) := by decide +kernel
theorem dX11_about_32 : decode cX11_about 32 = .ok (.aload_n 0, 1) := by decide +kernel
theorem dX11_about_33 : decode cX11_about 33 = .ok (.getfield 160, 3) := by decide +kernel
theorem dX11_about_36 : decode cX11_about 36 = .ok (.ireturn, 1) := by decide +kernel
theorem dX11_about_37 : decode cX11_about 37 = .ok (.aload_n 0, 1) := by decide +kernel
theorem dX11_about_38 : decode cX11_about 38 = .ok (.getfield 179, 3) := by decide +kernel
theorem dX11_about_41 : decode cX11_about 41 = .ok (.ireturn, 1) := by decide +kernel
theorem dX11_about_42 : decode cX11_about 42 = .ok (.aload_n 0, 1) := by decide +kernel
theorem dX11_about_43 : decode cX11_about 43 = .ok (.getfield 16, 3) := by decide +kernel
theorem dX11_about_46 : decode cX11_about 46 = .ok (.ireturn, 1) := by decide +kernel
theorem dX11_about_47 : decode cX11_about 47 = .ok (.aload_n 0, 1) := by decide +kernel
theorem dX11_about_48 : decode cX11_about 48 = .ok (.getfield 20, 3) := by decide +kernel
theorem dX11_about_51 : decode cX11_about 51 = .ok (.ireturn, 1) := by decide +kernel
theorem dX11_about_52 : decode cX11_about 52 = .ok (.iload_n 1, 1) := by decide +kernel
theorem dX11_about_53 : decode cX11_about 53 = .ok (.iconst 4, 1) := by decide +kernel
theorem dX11_about_54 : decode cX11_about 54 = .ok (.if_icmp .lt 24, 3) := by decide +kernel
theorem dX11_about_57 : decode cX11_about 57 = .ok (.iload_n 1, 1) := by decide +kernel
theorem dX11_about_58 : decode cX11_about 58 = .ok (.iconst 4, 1) := by decide +kernel
theorem dX11_about_59 : decode cX11_about 59 = .ok (.aload_n 0, 1) := by decide +kernel
theorem dX11_about_60 : decode cX11_about 60 = .ok (.getfield 160, 3) := by decide +kernel
theorem dX11_about_63 : decode cX11_about 63 = .ok (.iadd, 1) := by decide +kernel
theorem dX11_about_64 : decode cX11_about 64 = .ok (.if_icmp .ge 14, 3) := by decide +kernel
theorem dX11_about_67 : decode cX11_about 67 = .ok (.aload_n 0, 1) := by decide +kernel
theorem dX11_about_68 : decode cX11_about 68 = .ok (.getfield 7, 3) := by decide +kernel
theorem dX11_about_71 : decode cX11_about 71 = .ok (.iload_n 1, 1) := by decide +kernel
theorem dX11_about_72 : decode cX11_about 72 = .ok (.iconst 4, 1) := by decide +kernel
theorem dX11_about_73 : decode cX11_about 73 = .ok (.isub, 1) := by decide +kernel
theorem dX11_about_74 : decode cX11_about 74 = .ok (.iaload, 1) := by decide +kernel
theorem dX11_about_75 : decode cX11_about 75 = .ok (.goto 4, 3) := by decide +kernel
theorem dX11_about_78 : decode cX11_about 78 = .ok (.iconst (-1), 1) := by decide +kernel
theorem dX11_about_79 : decode cX11_about 79 = .ok (.ireturn, 1) := by decide +kernel
set_option maxRecDepth 20000 in
theorem ggX11_order_X11_isGraph : GoodIn wsX11_order wsX11_isGraph := goodIn_r _ [5, 6, 7, 8, 9, 10, 4, 11, 12, 13, 14, 19, 20, 21, 22, 23, 24, 25, 26, 27, 28, 29, 30, 31, 32, 33, 34, 35, 36, 37, 38, 39, 40, 41, 42, 43, 44, 45, 46, 47, 48, 49, 50, 51, 52, 53, 54, 55, 56, 57] (by decide +kernel) (by decide +kernel)
set_option maxRecDepth 20000 in
theorem gX11_order_X11_isGraph : GoodIn wsX11_order (wsV RX11 236 RX11 yX11_isGraph wsX11_isGraph) := goodIn_app (goodIn_of _ (by decide +kernel)) ggX11_order_X11_isGraph
set_option maxRecDepth 20000 in
theorem ggX11_order_X11_isName : GoodIn wsX11_order wsX11_isName := goodIn_r _ [18, 7, 19, 20, 21, 22, 23, 24, 25, 26, 27, 28, 29, 30, 31, 32, 33, 34, 35, 36, 37, 38, 39, 40, 41, 42, 43, 44, 45, 46, 47, 48, 49, 50, 51, 52, 53, 54, 55, 56, 57] (by decide +kernel) (by decide +kernel)
set_option maxRecDepth 20000 in
theorem gX11_order_X11_isName : GoodIn wsX11_order (wsV RX11 233 RX11 yX11_isName wsX11_isName) := goodIn_app (goodIn_of _ (by decide +kernel)) ggX11_order_X11_isName
set_option maxRecDepth 20000 in
theorem ggX11_order_X11_parentsOf : GoodIn wsX11_order wsX11_parentsOf := goodIn_r _ [14] (by decide +kernel) (by decide +kernel)
set_option maxRecDepth 20000 in
theorem gX11_order_X11_parentsOf : GoodIn wsX11_order (va_wsS RX11 194 yX11_parentsOf wsX11_parentsOf) := goodIn_app (goodIn_of _ (by decide +kernel)) ggX11_order_X11_parentsOf
theorem dX11_order_0 : decode cX11_order 0 = .ok (.aload_n 0, 1) := by decide +kernel
theorem dX11_order_1 : decode cX11_order 1 = .ok (.iload_n 1, 1) := by decide +kernel
theorem dX11_order_2 : decode cX11_order 2 = .ok (.invokevirtual 236, 3) := by decide +kernel
theorem dX11_order_5 : decode cX11_order 5 = .ok (.ifCond .eq 11, 3) := by decide +kernel
theorem dX11_order_8 : decode cX11_order 8 = .ok (.aload_n 0, 1) := by decide +kernel
theorem dX11_order_9 : decode cX11_order 9 = .ok (.iload_n 2, 1) := by decide +kernel
theorem dX11_order_10 : decode cX11_order 10 = .ok (.invokevirtual 233, 3) := by decide +kernel
theorem dX11_order_13 : decode cX11_order 13 = .ok (.ifCond .ne 5, 3) := by decide +kernel
theorem dX11_order_16 : decode cX11_order 16 = .ok (.iconst (-1), 1) := by decide +kernel
theorem dX11_order_17 : decode cX11_order 17 = .ok (.ireturn, 1) := by decide +kernel
theorem dX11_order_18 : decode cX11_order 18 = .ok (.iconst 0, 1) := by decide +kernel
theorem dX11_order_19 : decode cX11_order 19 = .ok (.istore_n 3, 1) := by decide +kernel
theorem dX11_order_20 : decode cX11_order 20 = .ok (.iconst (-1), 1) := by decide +kernel
theorem dX11_order_21 : decode cX11_order 21 = .ok (.istore 4, 2) := by decide +kernel
theorem dX11_order_23 : decode cX11_order 23 = .ok (.iconst 0, 1) := by decide +kernel
theorem dX11_order_24 : decode cX11_order 24 = .ok (.istore 5, 2) := by decide +kernel
theorem dX11_order_26 : decode cX11_order 26 = .ok (.iload 5, 2) := by decide +kernel
theorem dX11_order_28 : decode cX11_order 28 = .ok (.iload_n 2, 1) := by decide +kernel
theorem dX11_order_29 : decode cX11_order 29 = .ok (.if_icmp .gt 48, 3) := by decide +kernel
theorem dX11_order_32 : decode cX11_order 32 = .ok (.iconst 0, 1) := by decide +kernel
theorem dX11_order_33 : decode cX11_order 33 = .ok (.istore 4, 2) := by decide +kernel
theorem dX11_order_35 : decode cX11_order 35 = .ok (.iload_n 3, 1) := by decide +kernel
theorem dX11_order_36 : decode cX11_order 36 = .ok (.iload 4, 2) := by decide +kernel
theorem dX11_order_38 : decode cX11_order 38 = .ok (.ishr, 1) := by decide +kernel
theorem dX11_order_39 : decode cX11_order 39 = .ok (.iconst 1, 1) := by decide +kernel
theorem dX11_order_40 : decode cX11_order 40 = .ok (.iand, 1) := by decide +kernel
theorem dX11_order_41 : decode cX11_order 41 = .ok (.iconst 1, 1) := by decide +kernel
theorem dX11_order_42 : decode cX11_order 42 = .ok (.if_icmp .eq 16, 3) := by decide +kernel
theorem dX11_order_45 : decode cX11_order 45 = .ok (.iload_n 1, 1) := by decide +kernel
theorem dX11_order_46 : decode cX11_order 46 = .ok (.iload 4, 2) := by decide +kernel
theorem dX11_order_48 : decode cX11_order 48 = .ok (.invokestatic 194, 3) := by decide +kernel
theorem dX11_order_51 : decode cX11_order 51 = .ok (.iload_n 3, 1) := by decide +kernel
theorem dX11_order_52 : decode cX11_order 52 = .ok (.iconst (-1), 1) := by decide +kernel
theorem dX11_order_53 : decode cX11_order 53 = .ok (.ixor, 1) := by decide +kernel
theorem dX11_order_54 : decode cX11_order 54 = .ok (.iand, 1) := by decide +kernel
theorem dX11_order_55 : decode cX11_order 55 = .ok (.ifCond .eq 9, 3) := by decide +kernel
theorem dX11_order_58 : decode cX11_order 58 = .ok (.iinc 4 1, 3) := by decide +kernel
theorem dX11_order_61 : decode cX11_order 61 = .ok (.goto (-26), 3) := by decide +kernel
theorem dX11_order_64 : decode cX11_order 64 = .ok (.iload_n 3, 1) := by decide +kernel
theorem dX11_order_65 : decode cX11_order 65 = .ok (.iconst 1, 1) := by decide +kernel
theorem dX11_order_66 : decode cX11_order 66 = .ok (.iload 4, 2) := by decide +kernel
theorem dX11_order_68 : decode cX11_order 68 = .ok (.ishl, 1) := by decide +kernel
theorem dX11_order_69 : decode cX11_order 69 = .ok (.ior, 1) := by decide +kernel
theorem dX11_order_70 : decode cX11_order 70 = .ok (.istore_n 3, 1) := by decide +kernel
theorem dX11_order_71 : decode cX11_order 71 = .ok (.iinc 5 1, 3) := by decide +kernel
theorem dX11_order_74 : decode cX11_order 74 = .ok (.goto (-48), 3) := by decide +kernel
theorem dX11_order_77 : decode cX11_order 77 = .ok (.iload 4, 2) := by decide +kernel
theorem dX11_order_79 : decode cX11_order 79 = .ok (.ireturn, 1) := by decide +kernel
set_option maxRecDepth 20000 in
theorem ggX11_tell_X11_fit : GoodIn wsX11_tell wsX11_fit := goodIn_r _ [9, 10, 11, 12, 13, 14, 8, 15, 16, 17, 18, 19, 20, 21, 22, 23, 24, 25, 26, 27, 28, 29, 30, 31, 32, 33, 34, 35, 36, 37, 38, 39, 40, 41, 42, 43, 44, 45, 46, 47, 48, 49, 50, 51, 52, 53, 54, 55, 56, 57, 58, 59, 60, 61, 62, 63, 64, 65, 66, 67, 68, 69, 70, 71, 72, 73, 74, 75, 76, 77, 78, 79, 80, 81, 82, 83, 84, 85, 86, 87, 88, 89, 90, 91, 96, 97, 98, 99, 100, 101, 102, 103, 104, 105, 106, 107, 108, 109, 110, 111, 112, 113, 114, 115, 116, 117, 118, 119, 120, 121, 122, 123, 124, 125, 126, 127, 128, 129, 130, 131, 132, 133, 134] (by decide +kernel) (by decide +kernel)
set_option maxRecDepth 20000 in
theorem gX11_tell_X11_fit : GoodIn wsX11_tell (wsV RX11 203 RX11 yX11_fit wsX11_fit) := goodIn_app (goodIn_of _ (by decide +kernel)) ggX11_tell_X11_fit
set_option maxRecDepth 20000 in
theorem ggX11_tell_X11_least : GoodIn wsX11_tell wsX11_least := goodIn_r _ [95, 2, 3, 13, 14, 8, 15, 48, 49, 50, 51, 52, 53, 54, 55, 56, 57, 58, 59, 60, 61, 62, 63, 64, 65, 66, 67, 68, 69, 44, 70, 71, 72, 73, 74, 75, 76, 77, 78, 79, 96, 97, 98, 99, 100, 101, 102, 103, 104, 105, 106, 107, 108, 109, 110, 111, 112, 113, 114, 115, 116, 117, 118, 119, 120, 121, 122, 123, 124, 125, 126, 127, 128, 129, 130, 131, 132, 133, 134] (by decide +kernel) (by decide +kernel)
set_option maxRecDepth 20000 in
theorem gX11_tell_X11_least : GoodIn wsX11_tell (wsV RX11 239 RX11 yX11_least wsX11_least) := goodIn_app (goodIn_of _ (by decide +kernel)) ggX11_tell_X11_least
theorem dX11_tell_0 : decode cX11_tell 0 = .ok (.aload_n 0, 1) := by decide +kernel
theorem dX11_tell_1 : decode cX11_tell 1 = .ok (.getfield 78, 3) := by decide +kernel
theorem dX11_tell_4 : decode cX11_tell 4 = .ok (.iload_n 1, 1) := by decide +kernel
theorem dX11_tell_5 : decode cX11_tell 5 = .ok (.if_icmp .eq 30, 3) := by decide +kernel
theorem dX11_tell_8 : decode cX11_tell 8 = .ok (.aload_n 0, 1) := by decide +kernel
theorem dX11_tell_9 : decode cX11_tell 9 = .ok (.iload_n 1, 1) := by decide +kernel
theorem dX11_tell_10 : decode cX11_tell 10 = .ok (.aload_n 0, 1) := by decide +kernel
theorem dX11_tell_11 : decode cX11_tell 11 = .ok (.getfield 32, 3) := by decide +kernel
theorem dX11_tell_14 : decode cX11_tell 14 = .ok (.aload_n 0, 1) := by decide +kernel
theorem dX11_tell_15 : decode cX11_tell 15 = .ok (.getfield 35, 3) := by decide +kernel
theorem dX11_tell_18 : decode cX11_tell 18 = .ok (.invokevirtual 203, 3) := by decide +kernel
theorem dX11_tell_21 : decode cX11_tell 21 = .ok (.aload_n 0, 1) := by decide +kernel
theorem dX11_tell_22 : decode cX11_tell 22 = .ok (.invokevirtual 239, 3) := by decide +kernel
theorem dX11_tell_25 : decode cX11_tell 25 = .ok (.aload_n 0, 1) := by decide +kernel
theorem dX11_tell_26 : decode cX11_tell 26 = .ok (.iload_n 1, 1) := by decide +kernel
theorem dX11_tell_27 : decode cX11_tell 27 = .ok (.putfield 78, 3) := by decide +kernel
theorem dX11_tell_30 : decode cX11_tell 30 = .ok (.aload_n 0, 1) := by decide +kernel
theorem dX11_tell_31 : decode cX11_tell 31 = .ok (.iconst (-1), 1) := by decide +kernel
theorem dX11_tell_32 : decode cX11_tell 32 = .ok (.putfield 81, 3) := by decide +kernel
theorem dX11_tell_35 : decode cX11_tell 35 = .ok (.return_, 1) := by decide +kernel
theorem dX11_wordOf_0 : decode cX11_wordOf 0 = .ok (.iload_n 1, 1) := by decide +kernel
theorem dX11_wordOf_1 : decode cX11_wordOf 1 = .ok (.ifCond .ne 10, 3) := by decide +kernel
theorem dX11_wordOf_4 : decode cX11_wordOf 4 = .ok (.aload_n 0, 1) := by decide +kernel
theorem dX11_wordOf_5 : decode cX11_wordOf 5 = .ok (.getfield 32, 3) := by decide +kernel
theorem dX11_wordOf_8 : decode cX11_wordOf 8 = .ok (.goto 7, 3) := by decide +kernel
theorem dX11_wordOf_11 : decode cX11_wordOf 11 = .ok (.aload_n 0, 1) := by decide +kernel
theorem dX11_wordOf_12 : decode cX11_wordOf 12 = .ok (.getfield 35, 3) := by decide +kernel
theorem dX11_wordOf_15 : decode cX11_wordOf 15 = .ok (.astore_n 3, 1) := by decide +kernel
theorem dX11_wordOf_16 : decode cX11_wordOf 16 = .ok (.iload_n 2, 1) := by decide +kernel
theorem dX11_wordOf_17 : decode cX11_wordOf 17 = .ok (.ifCond .lt 10, 3) := by decide +kernel
theorem dX11_wordOf_20 : decode cX11_wordOf 20 = .ok (.iload_n 2, 1) := by decide +kernel
theorem dX11_wordOf_21 : decode cX11_wordOf 21 = .ok (.aload_n 3, 1) := by decide +kernel
theorem dX11_wordOf_22 : decode cX11_wordOf 22 = .ok (.iconst 0, 1) := by decide +kernel
theorem dX11_wordOf_23 : decode cX11_wordOf 23 = .ok (.iaload, 1) := by decide +kernel
theorem dX11_wordOf_24 : decode cX11_wordOf 24 = .ok (.if_icmp .lt 9, 3) := by decide +kernel
theorem dX11_wordOf_27 : decode cX11_wordOf 27 = .ok (.ldc2_w 242, 3) := by decide +kernel
theorem dX11_wordOf_30 : decode cX11_wordOf 30 = .ok (.goto 13, 3) := by decide +kernel
theorem dX11_wordOf_33 : decode cX11_wordOf 33 = .ok (.aload_n 3, 1) := by decide +kernel
theorem dX11_wordOf_34 : decode cX11_wordOf 34 = .ok (.iconst 1, 1) := by decide +kernel
theorem dX11_wordOf_35 : decode cX11_wordOf 35 = .ok (.iload_n 2, 1) := by decide +kernel
theorem dX11_wordOf_36 : decode cX11_wordOf 36 = .ok (.iadd, 1) := by decide +kernel
theorem dX11_wordOf_37 : decode cX11_wordOf 37 = .ok (.iaload, 1) := by decide +kernel
theorem dX11_wordOf_38 : decode cX11_wordOf 38 = .ok (.i2l, 1) := by decide +kernel
theorem dX11_wordOf_39 : decode cX11_wordOf 39 = .ok (.ldc2_w 123, 3) := by decide +kernel
theorem dX11_wordOf_42 : decode cX11_wordOf 42 = .ok (.land, 1) := by decide +kernel
theorem dX11_wordOf_43 : decode cX11_wordOf 43 = .ok (.lreturn, 1) := by decide +kernel
theorem dX11_isPart_0 : decode cX11_isPart 0 = .ok (.iload_n 0, 1) := by decide +kernel
theorem dX11_isPart_1 : decode cX11_isPart 1 = .ok (.ifCond .eq 8, 3) := by decide +kernel
theorem dX11_isPart_4 : decode cX11_isPart 4 = .ok (.iload_n 0, 1) := by decide +kernel
theorem dX11_isPart_5 : decode cX11_isPart 5 = .ok (.iconst 1, 1) := by decide +kernel
theorem dX11_isPart_6 : decode cX11_isPart 6 = .ok (.if_icmp .ne 7, 3) := by decide +kernel
theorem dX11_isPart_9 : decode cX11_isPart 9 = .ok (.iconst 1, 1) := by decide +kernel
theorem dX11_isPart_10 : decode cX11_isPart 10 = .ok (.goto 4, 3) := by decide +kernel
theorem dX11_isPart_13 : decode cX11_isPart 13 = .ok (.iconst 0, 1) := by decide +kernel
theorem dX11_isPart_14 : decode cX11_isPart 14 = .ok (.ireturn, 1) := by decide +kernel
set_option maxRecDepth 20000 in
theorem ggX11_size_X11_isGraph : GoodIn wsX11_size wsX11_isGraph := goodIn_r _ [7, 8, 9, 10, 11, 12, 6, 13, 14, 15, 16, 112, 113, 114, 115, 116, 117, 118, 119, 120, 121, 122, 123, 124, 125, 126, 127, 128, 129, 130, 131, 132, 133, 134, 135, 136, 137, 138, 139, 140, 141, 142, 143, 144, 145, 146, 147, 148, 149, 150] (by decide +kernel) (by decide +kernel)
set_option maxRecDepth 20000 in
theorem gX11_size_X11_isGraph : GoodIn wsX11_size (wsV RX11 236 RX11 yX11_isGraph wsX11_isGraph) := goodIn_app (goodIn_of _ (by decide +kernel)) ggX11_size_X11_isGraph
set_option maxRecDepth 20000 in
theorem ggX11_size_X11_isPart : GoodIn wsX11_size wsX11_isPart := goodIn_r _ [19] (by decide +kernel) (by decide +kernel)
set_option maxRecDepth 20000 in
theorem gX11_size_X11_isPart : GoodIn wsX11_size (va_wsS RX11 244 yX11_isPart wsX11_isPart) := goodIn_app (goodIn_of _ (by decide +kernel)) ggX11_size_X11_isPart
set_option maxRecDepth 20000 in
theorem ggX11_size_X11_tell : GoodIn wsX11_size wsX11_tell := goodIn_r _ [23, 24, 1, 2, 25, 26, 27, 28, 6, 29, 9, 30, 31, 32, 33, 34, 14, 15, 16, 35, 36, 37, 38, 39, 40, 41, 42, 43, 44, 45, 46, 47, 48, 49, 50, 51, 52, 53, 54, 55, 56, 57, 58, 59, 60, 61, 62, 63, 64, 65, 66, 67, 68, 69, 70, 71, 72, 73, 74, 75, 76, 77, 78, 79, 80, 81, 82, 83, 84, 85, 86, 87, 88, 89, 90, 91, 92, 93, 94, 95, 96, 97, 98, 99, 100, 101, 102, 103, 104, 105, 106, 107, 108, 109, 110, 111, 112, 113, 114, 115, 116, 117, 118, 119, 120, 121, 122, 123, 124, 125, 126, 127, 128, 129, 130, 131, 132, 133, 134, 135, 136, 137, 138, 139, 140, 141, 142, 143, 144, 145, 146, 147, 148, 149, 150] (by decide +kernel) (by decide +kernel)
set_option maxRecDepth 20000 in
theorem gX11_size_X11_tell : GoodIn wsX11_size (wsV RX11 247 RX11 yX11_tell wsX11_tell) := goodIn_app (goodIn_of _ (by decide +kernel)) ggX11_size_X11_tell
theorem dX11_size_0 : decode cX11_size 0 = .ok (.aload_n 0, 1) := by decide +kernel
theorem dX11_size_1 : decode cX11_size 1 = .ok (.iload_n 1, 1) := by decide +kernel
theorem dX11_size_2 : decode cX11_size 2 = .ok (.invokevirtual 236, 3) := by decide +kernel
theorem dX11_size_5 : decode cX11_size 5 = .ok (.ifCond .eq 10, 3) := by decide +kernel
theorem dX11_size_8 : decode cX11_size 8 = .ok (.iload_n 2, 1) := by decide +kernel
theorem dX11_size_9 : decode cX11_size 9 = .ok (.invokestatic 244, 3) := by decide +kernel
theorem dX11_size_12 : decode cX11_size 12 = .ok (.ifCond .ne 5, 3) := by decide +kernel
theorem dX11_size_15 : decode cX11_size 15 = .ok (.iconst (-1), 1) := by decide +kernel
theorem dX11_size_16 : decode cX11_size 16 = .ok (.ireturn, 1) := by decide +kernel
theorem dX11_size_17 : decode cX11_size 17 = .ok (.aload_n 0, 1) := by decide +kernel
theorem dX11_size_18 : decode cX11_size 18 = .ok (.iload_n 1, 1) := by decide +kernel
theorem dX11_size_19 : decode cX11_size 19 = .ok (.invokevirtual 247, 3) := by decide +kernel
theorem dX11_size_22 : decode cX11_size 22 = .ok (.iload_n 2, 1) := by decide +kernel
theorem dX11_size_23 : decode cX11_size 23 = .ok (.ifCond .ne 12, 3) := by decide +kernel
theorem dX11_size_26 : decode cX11_size 26 = .ok (.aload_n 0, 1) := by decide +kernel
theorem dX11_size_27 : decode cX11_size 27 = .ok (.getfield 32, 3) := by decide +kernel
theorem dX11_size_30 : decode cX11_size 30 = .ok (.iconst 0, 1) := by decide +kernel
theorem dX11_size_31 : decode cX11_size 31 = .ok (.iaload, 1) := by decide +kernel
theorem dX11_size_32 : decode cX11_size 32 = .ok (.goto 9, 3) := by decide +kernel
theorem dX11_size_35 : decode cX11_size 35 = .ok (.aload_n 0, 1) := by decide +kernel
theorem dX11_size_36 : decode cX11_size 36 = .ok (.getfield 35, 3) := by decide +kernel
theorem dX11_size_39 : decode cX11_size 39 = .ok (.iconst 0, 1) := by decide +kernel
theorem dX11_size_40 : decode cX11_size 40 = .ok (.iaload, 1) := by decide +kernel
theorem dX11_size_41 : decode cX11_size 41 = .ok (.ireturn, 1) := by decide +kernel
set_option maxRecDepth 20000 in
theorem ggX11_word_X11_isGraph : GoodIn wsX11_word wsX11_isGraph := goodIn_r _ [6, 7, 8, 9, 10, 11, 5, 12, 13, 14, 15, 117, 118, 119, 120, 121, 122, 123, 124, 125, 126, 127, 128, 129, 130, 131, 132, 133, 134, 135, 136, 137, 138, 139, 140, 141, 142, 143, 144, 145, 146, 147, 148, 149, 150, 151, 152, 153, 154, 155] (by decide +kernel) (by decide +kernel)
set_option maxRecDepth 20000 in
theorem gX11_word_X11_isGraph : GoodIn wsX11_word (wsV RX11 236 RX11 yX11_isGraph wsX11_isGraph) := goodIn_app (goodIn_of _ (by decide +kernel)) ggX11_word_X11_isGraph
set_option maxRecDepth 20000 in
theorem ggX11_word_X11_isPart : GoodIn wsX11_word wsX11_isPart := goodIn_r _ [18] (by decide +kernel) (by decide +kernel)
set_option maxRecDepth 20000 in
theorem gX11_word_X11_isPart : GoodIn wsX11_word (va_wsS RX11 244 yX11_isPart wsX11_isPart) := goodIn_app (goodIn_of _ (by decide +kernel)) ggX11_word_X11_isPart
set_option maxRecDepth 20000 in
theorem ggX11_word_X11_tell : GoodIn wsX11_word wsX11_tell := goodIn_r _ [22, 23, 24, 25, 26, 27, 28, 29, 5, 30, 8, 31, 32, 33, 34, 35, 13, 14, 15, 36, 37, 38, 39, 40, 41, 42, 43, 44, 45, 46, 47, 48, 49, 50, 51, 52, 53, 54, 55, 56, 57, 58, 59, 60, 61, 62, 63, 64, 65, 66, 67, 68, 69, 70, 71, 72, 73, 74, 75, 76, 77, 78, 79, 80, 81, 82, 83, 84, 85, 86, 87, 88, 89, 90, 91, 92, 93, 94, 95, 96, 97, 98, 99, 100, 101, 102, 103, 104, 105, 106, 107, 108, 109, 110, 111, 112, 117, 118, 119, 120, 121, 122, 123, 124, 125, 126, 127, 128, 129, 130, 131, 132, 133, 134, 135, 136, 137, 138, 139, 140, 141, 142, 143, 144, 145, 146, 147, 148, 149, 150, 151, 152, 153, 154, 155] (by decide +kernel) (by decide +kernel)
set_option maxRecDepth 20000 in
theorem gX11_word_X11_tell : GoodIn wsX11_word (wsV RX11 247 RX11 yX11_tell wsX11_tell) := goodIn_app (goodIn_of _ (by decide +kernel)) ggX11_word_X11_tell
set_option maxRecDepth 20000 in
theorem ggX11_word_X11_wordOf : GoodIn wsX11_word wsX11_wordOf := goodIn_r _ [116, 24, 25, 1, 61, 117, 118, 119, 120, 121, 122, 123, 124, 125, 126, 127, 128, 129, 130, 131, 132, 133, 134, 135, 136, 137, 138, 139, 140, 141, 142, 143, 144, 145, 146, 147, 148, 149, 150, 151, 152, 153, 154, 155] (by decide +kernel) (by decide +kernel)
set_option maxRecDepth 20000 in
theorem gX11_word_X11_wordOf : GoodIn wsX11_word (wsV RX11 251 RX11 yX11_wordOf wsX11_wordOf) := goodIn_app (goodIn_of _ (by decide +kernel)) ggX11_word_X11_wordOf
theorem dX11_word_0 : decode cX11_word 0 = .ok (.aload_n 0, 1) := by decide +kernel
theorem dX11_word_1 : decode cX11_word 1 = .ok (.iload_n 1, 1) := by decide +kernel
theorem dX11_word_2 : decode cX11_word 2 = .ok (.invokevirtual 236, 3) := by decide +kernel
theorem dX11_word_5 : decode cX11_word 5 = .ok (.ifCond .eq 10, 3) := by decide +kernel
theorem dX11_word_8 : decode cX11_word 8 = .ok (.iload_n 2, 1) := by decide +kernel
theorem dX11_word_9 : decode cX11_word 9 = .ok (.invokestatic 244, 3) := by decide +kernel
theorem dX11_word_12 : decode cX11_word 12 = .ok (.ifCond .ne 7, 3) := by decide +kernel
theorem dX11_word_15 : decode cX11_word 15 = .ok (.ldc2_w 242, 3) := by decide +kernel
theorem dX11_word_18 : decode cX11_word 18 = .ok (.lreturn, 1) := by decide +kernel
theorem dX11_word_19 : decode cX11_word 19 = .ok (.aload_n 0, 1) := by decide +kernel
theorem dX11_word_20 : decode cX11_word 20 = .ok (.iload_n 1, 1) := by decide +kernel
theorem dX11_word_21 : decode cX11_word 21 = .ok (.invokevirtual 247, 3) := by decide +kernel
theorem dX11_word_24 : decode cX11_word 24 = .ok (.aload_n 0, 1) := by decide +kernel
theorem dX11_word_25 : decode cX11_word 25 = .ok (.iload_n 2, 1) := by decide +kernel
theorem dX11_word_26 : decode cX11_word 26 = .ok (.iload_n 3, 1) := by decide +kernel
theorem dX11_word_27 : decode cX11_word 27 = .ok (.invokevirtual 251, 3) := by decide +kernel
theorem dX11_word_30 : decode cX11_word 30 = .ok (.lreturn, 1) := by decide +kernel
set_option maxRecDepth 20000 in
theorem ggX11_compare_X11_isGraph : GoodIn wsX11_compare wsX11_isGraph := goodIn_r _ [5, 6, 7, 8, 9, 10, 4, 11, 12, 13, 14, 111, 112, 113, 114, 115, 116, 117, 118, 119, 120, 121, 122, 123, 124, 125, 126, 127, 128, 129, 130, 131, 132, 133, 134, 135, 136, 137, 138, 139, 140, 141, 142, 143, 144, 145, 146, 147, 148, 149] (by decide +kernel) (by decide +kernel)
set_option maxRecDepth 20000 in
theorem gX11_compare_X11_isGraph : GoodIn wsX11_compare (wsV RX11 236 RX11 yX11_isGraph wsX11_isGraph) := goodIn_app (goodIn_of _ (by decide +kernel)) ggX11_compare_X11_isGraph
set_option maxRecDepth 20000 in
theorem ggX11_compare_X11_signOf : GoodIn wsX11_compare wsX11_signOf := goodIn_r _ [18, 19, 20, 21, 22, 23, 24, 25, 4, 26, 7, 27, 28, 29, 30, 31, 12, 13, 14, 32, 33, 34, 35, 36, 37, 38, 39, 40, 41, 42, 43, 44, 45, 46, 47, 48, 49, 50, 51, 52, 53, 54, 55, 56, 57, 58, 59, 60, 61, 62, 63, 64, 65, 66, 67, 68, 69, 70, 71, 72, 73, 74, 75, 76, 77, 78, 79, 80, 81, 82, 83, 84, 85, 86, 87, 88, 89, 90, 91, 92, 93, 94, 95, 96, 97, 98, 99, 100, 101, 102, 103, 104, 105, 106, 107, 108, 109, 110, 111, 112, 113, 114, 115, 116, 117, 118, 119, 120, 121, 122, 123, 124, 125, 126, 127, 128, 129, 130, 131, 132, 133, 134, 135, 136, 137, 138, 139, 140, 141, 142, 143, 144, 145, 146, 147, 148, 149] (by decide +kernel) (by decide +kernel)
set_option maxRecDepth 20000 in
theorem gX11_compare_X11_signOf : GoodIn wsX11_compare (wsV RX11 255 RX11 yX11_signOf wsX11_signOf) := goodIn_app (goodIn_of _ (by decide +kernel)) ggX11_compare_X11_signOf
theorem dX11_compare_0 : decode cX11_compare 0 = .ok (.aload_n 0, 1) := by decide +kernel
theorem dX11_compare_1 : decode cX11_compare 1 = .ok (.iload_n 1, 1) := by decide +kernel
theorem dX11_compare_2 : decode cX11_compare 2 = .ok (.invokevirtual 236, 3) := by decide +kernel
theorem dX11_compare_5 : decode cX11_compare 5 = .ok (.ifCond .eq 11, 3) := by decide +kernel
theorem dX11_compare_8 : decode cX11_compare 8 = .ok (.aload_n 0, 1) := by decide +kernel
theorem dX11_compare_9 : decode cX11_compare 9 = .ok (.iload_n 2, 1) := by decide +kernel
theorem dX11_compare_10 : decode cX11_compare 10 = .ok (.invokevirtual 236, 3) := by decide +kernel
theorem dX11_compare_13 : decode cX11_compare 13 = .ok (.ifCond .ne 5, 3) := by decide +kernel
theorem dX11_compare_16 : decode cX11_compare 16 = .ok (.iconst (-1), 1) := by decide +kernel
theorem dX11_compare_17 : decode cX11_compare 17 = .ok (.ireturn, 1) := by decide +kernel
theorem dX11_compare_18 : decode cX11_compare 18 = .ok (.aload_n 0, 1) := by decide +kernel
theorem dX11_compare_19 : decode cX11_compare 19 = .ok (.iload_n 1, 1) := by decide +kernel
theorem dX11_compare_20 : decode cX11_compare 20 = .ok (.iload_n 2, 1) := by decide +kernel
theorem dX11_compare_21 : decode cX11_compare 21 = .ok (.invokevirtual 255, 3) := by decide +kernel
theorem dX11_compare_24 : decode cX11_compare 24 = .ok (.istore_n 3, 1) := by decide +kernel
theorem dX11_compare_25 : decode cX11_compare 25 = .ok (.iload_n 3, 1) := by decide +kernel
theorem dX11_compare_26 : decode cX11_compare 26 = .ok (.ifCond .ge 7, 3) := by decide +kernel
theorem dX11_compare_29 : decode cX11_compare 29 = .ok (.iconst 0, 1) := by decide +kernel
theorem dX11_compare_30 : decode cX11_compare 30 = .ok (.goto 12, 3) := by decide +kernel
theorem dX11_compare_33 : decode cX11_compare 33 = .ok (.iload_n 3, 1) := by decide +kernel
theorem dX11_compare_34 : decode cX11_compare 34 = .ok (.ifCond .ne 7, 3) := by decide +kernel
theorem dX11_compare_37 : decode cX11_compare 37 = .ok (.iconst 1, 1) := by decide +kernel
theorem dX11_compare_38 : decode cX11_compare 38 = .ok (.goto 4, 3) := by decide +kernel
theorem dX11_compare_41 : decode cX11_compare 41 = .ok (.iconst 2, 1) := by decide +kernel
theorem dX11_compare_42 : decode cX11_compare 42 = .ok (.ireturn, 1) := by decide +kernel
set_option maxRecDepth 20000 in
theorem ggX11_bestParents_X11_family : GoodIn wsX11_bestParents wsX11_family := goodIn_r _ [12, 13, 1, 14, 3, 15, 16, 17, 11, 18, 19, 20, 21, 22, 23, 24, 25, 26, 27, 28, 29, 30, 31, 32, 33, 34, 35, 36, 37, 38, 39, 40, 41, 42, 43, 44, 45, 46, 47, 48, 49, 50, 51, 52, 53, 54, 55, 56, 57, 58, 59, 60, 61, 62, 63, 64, 65, 66, 67, 68, 69, 70, 71, 72, 73, 86, 87, 88, 89, 90, 91, 92, 93, 94, 95, 96, 97, 98, 99, 100, 101, 102, 103, 104, 105, 106, 107, 108, 109, 110, 111, 112, 113, 114, 115, 116, 117, 118, 119, 120, 121, 122, 123, 124] (by decide +kernel) (by decide +kernel)
set_option maxRecDepth 20000 in
theorem gX11_bestParents_X11_family : GoodIn wsX11_bestParents (wsV RX11 197 RX11 yX11_family wsX11_family) := goodIn_app (goodIn_of _ (by decide +kernel)) ggX11_bestParents_X11_family
set_option maxRecDepth 20000 in
theorem ggX11_bestParents_X11_load : GoodIn wsX11_bestParents wsX11_load := goodIn_r _ [38] (by decide +kernel) (by decide +kernel)
set_option maxRecDepth 20000 in
theorem gX11_bestParents_X11_load : GoodIn wsX11_bestParents (va_wsS RX11 171 yX11_load wsX11_load) := goodIn_app (goodIn_of _ (by decide +kernel)) ggX11_bestParents_X11_load
set_option maxRecDepth 20000 in
theorem ggX11_bestParents_X11_bits : GoodIn wsX11_bestParents wsX11_bits := goodIn_r _ [76] (by decide +kernel) (by decide +kernel)
set_option maxRecDepth 20000 in
theorem gX11_bestParents_X11_bits : GoodIn wsX11_bestParents (va_wsS RX11 216 yX11_bits wsX11_bits) := goodIn_app (goodIn_of _ (by decide +kernel)) ggX11_bestParents_X11_bits
set_option maxRecDepth 20000 in
theorem ggX11_bestParents_X11_sign : GoodIn wsX11_bestParents wsX11_sign := goodIn_r _ [80, 6, 4, 81, 2, 7, 82, 83, 84, 11, 85, 35, 55, 56, 57, 58, 59, 60, 86, 87, 88, 89, 90, 91, 92, 93, 94, 95, 96, 97, 98, 99, 100, 101, 102, 103, 104, 105, 106, 107, 108, 109, 110, 111, 112, 113, 114, 115, 116, 117, 118, 119, 120, 121, 122, 123, 124] (by decide +kernel) (by decide +kernel)
set_option maxRecDepth 20000 in
theorem gX11_bestParents_X11_sign : GoodIn wsX11_bestParents (wsV RX11 207 RX11 yX11_sign wsX11_sign) := goodIn_app (goodIn_of _ (by decide +kernel)) ggX11_bestParents_X11_sign
set_option maxRecDepth 20000 in
theorem ggX11_bestParents_X11_copy : GoodIn wsX11_bestParents wsX11_copy := goodIn_r _ [48] (by decide +kernel) (by decide +kernel)
set_option maxRecDepth 20000 in
theorem gX11_bestParents_X11_copy : GoodIn wsX11_bestParents (va_wsS RX11 129 yX11_copy wsX11_copy) := goodIn_app (goodIn_of _ (by decide +kernel)) ggX11_bestParents_X11_copy
theorem dX11_bestParents_0 : decode cX11_bestParents 0 = .ok (.iconst 0, 1) := by decide +kernel
theorem dX11_bestParents_1 : decode cX11_bestParents 1 = .ok (.istore_n 3, 1) := by decide +kernel
theorem dX11_bestParents_2 : decode cX11_bestParents 2 = .ok (.aload_n 0, 1) := by decide +kernel
theorem dX11_bestParents_3 : decode cX11_bestParents 3 = .ok (.getfield 42, 3) := by decide +kernel
theorem dX11_bestParents_6 : decode cX11_bestParents 6 = .ok (.aload_n 0, 1) := by decide +kernel
theorem dX11_bestParents_7 : decode cX11_bestParents 7 = .ok (.iload_n 1, 1) := by decide +kernel
theorem dX11_bestParents_8 : decode cX11_bestParents 8 = .ok (.iconst 0, 1) := by decide +kernel
theorem dX11_bestParents_9 : decode cX11_bestParents 9 = .ok (.invokevirtual 197, 3) := by decide +kernel
theorem dX11_bestParents_12 : decode cX11_bestParents 12 = .ok (.aload_n 0, 1) := by decide +kernel
theorem dX11_bestParents_13 : decode cX11_bestParents 13 = .ok (.getfield 66, 3) := by decide +kernel
theorem dX11_bestParents_16 : decode cX11_bestParents 16 = .ok (.invokestatic 171, 3) := by decide +kernel
theorem dX11_bestParents_19 : decode cX11_bestParents 19 = .ok (.aload_n 0, 1) := by decide +kernel
theorem dX11_bestParents_20 : decode cX11_bestParents 20 = .ok (.getfield 45, 3) := by decide +kernel
theorem dX11_bestParents_23 : decode cX11_bestParents 23 = .ok (.aload_n 0, 1) := by decide +kernel
theorem dX11_bestParents_24 : decode cX11_bestParents 24 = .ok (.iload_n 1, 1) := by decide +kernel
theorem dX11_bestParents_25 : decode cX11_bestParents 25 = .ok (.iconst 0, 1) := by decide +kernel
theorem dX11_bestParents_26 : decode cX11_bestParents 26 = .ok (.invokevirtual 197, 3) := by decide +kernel
theorem dX11_bestParents_29 : decode cX11_bestParents 29 = .ok (.aload_n 0, 1) := by decide +kernel
theorem dX11_bestParents_30 : decode cX11_bestParents 30 = .ok (.getfield 69, 3) := by decide +kernel
theorem dX11_bestParents_33 : decode cX11_bestParents 33 = .ok (.invokestatic 171, 3) := by decide +kernel
theorem dX11_bestParents_36 : decode cX11_bestParents 36 = .ok (.iconst 1, 1) := by decide +kernel
theorem dX11_bestParents_37 : decode cX11_bestParents 37 = .ok (.istore 4, 2) := by decide +kernel
theorem dX11_bestParents_39 : decode cX11_bestParents 39 = .ok (.iload 4, 2) := by decide +kernel
theorem dX11_bestParents_41 : decode cX11_bestParents 41 = .ok (.iload_n 2, 1) := by decide +kernel
theorem dX11_bestParents_42 : decode cX11_bestParents 42 = .ok (.if_icmp .gt 98, 3) := by decide +kernel
theorem dX11_bestParents_45 : decode cX11_bestParents 45 = .ok (.iload 4, 2) := by decide +kernel
theorem dX11_bestParents_47 : decode cX11_bestParents 47 = .ok (.iload_n 2, 1) := by decide +kernel
theorem dX11_bestParents_48 : decode cX11_bestParents 48 = .ok (.iconst (-1), 1) := by decide +kernel
theorem dX11_bestParents_49 : decode cX11_bestParents 49 = .ok (.ixor, 1) := by decide +kernel
theorem dX11_bestParents_50 : decode cX11_bestParents 50 = .ok (.iand, 1) := by decide +kernel
theorem dX11_bestParents_51 : decode cX11_bestParents 51 = .ok (.ifCond .ne 83, 3) := by decide +kernel
theorem dX11_bestParents_54 : decode cX11_bestParents 54 = .ok (.iload 4, 2) := by decide +kernel
theorem dX11_bestParents_56 : decode cX11_bestParents 56 = .ok (.invokestatic 216, 3) := by decide +kernel
theorem dX11_bestParents_59 : decode cX11_bestParents 59 = .ok (.aload_n 0, 1) := by decide +kernel
theorem dX11_bestParents_60 : decode cX11_bestParents 60 = .ok (.getfield 20, 3) := by decide +kernel
theorem dX11_bestParents_63 : decode cX11_bestParents 63 = .ok (.if_icmp .gt 71, 3) := by decide +kernel
theorem dX11_bestParents_66 : decode cX11_bestParents 66 = .ok (.aload_n 0, 1) := by decide +kernel
theorem dX11_bestParents_67 : decode cX11_bestParents 67 = .ok (.getfield 42, 3) := by decide +kernel
theorem dX11_bestParents_70 : decode cX11_bestParents 70 = .ok (.aload_n 0, 1) := by decide +kernel
theorem dX11_bestParents_71 : decode cX11_bestParents 71 = .ok (.iload_n 1, 1) := by decide +kernel
theorem dX11_bestParents_72 : decode cX11_bestParents 72 = .ok (.iload 4, 2) := by decide +kernel
theorem dX11_bestParents_74 : decode cX11_bestParents 74 = .ok (.invokevirtual 197, 3) := by decide +kernel
theorem dX11_bestParents_77 : decode cX11_bestParents 77 = .ok (.aload_n 0, 1) := by decide +kernel
theorem dX11_bestParents_78 : decode cX11_bestParents 78 = .ok (.getfield 60, 3) := by decide +kernel
theorem dX11_bestParents_81 : decode cX11_bestParents 81 = .ok (.invokestatic 171, 3) := by decide +kernel
theorem dX11_bestParents_84 : decode cX11_bestParents 84 = .ok (.aload_n 0, 1) := by decide +kernel
theorem dX11_bestParents_85 : decode cX11_bestParents 85 = .ok (.getfield 45, 3) := by decide +kernel
theorem dX11_bestParents_88 : decode cX11_bestParents 88 = .ok (.aload_n 0, 1) := by decide +kernel
theorem dX11_bestParents_89 : decode cX11_bestParents 89 = .ok (.iload_n 1, 1) := by decide +kernel
theorem dX11_bestParents_90 : decode cX11_bestParents 90 = .ok (.iload 4, 2) := by decide +kernel
theorem dX11_bestParents_92 : decode cX11_bestParents 92 = .ok (.invokevirtual 197, 3) := by decide +kernel
theorem dX11_bestParents_95 : decode cX11_bestParents 95 = .ok (.aload_n 0, 1) := by decide +kernel
theorem dX11_bestParents_96 : decode cX11_bestParents 96 = .ok (.getfield 63, 3) := by decide +kernel
theorem dX11_bestParents_99 : decode cX11_bestParents 99 = .ok (.invokestatic 171, 3) := by decide +kernel
theorem dX11_bestParents_102 : decode cX11_bestParents 102 = .ok (.aload_n 0, 1) := by decide +kernel
theorem dX11_bestParents_103 : decode cX11_bestParents 103 = .ok (.invokevirtual 207, 3) := by decide +kernel
theorem dX11_bestParents_106 : decode cX11_bestParents 106 = .ok (.ifCond .le 28, 3) := by decide +kernel
theorem dX11_bestParents_109 : decode cX11_bestParents 109 = .ok (.iload 4, 2) := by decide +kernel
theorem dX11_bestParents_111 : decode cX11_bestParents 111 = .ok (.istore_n 3, 1) := by decide +kernel
theorem dX11_bestParents_112 : decode cX11_bestParents 112 = .ok (.aload_n 0, 1) := by decide +kernel
theorem dX11_bestParents_113 : decode cX11_bestParents 113 = .ok (.getfield 60, 3) := by decide +kernel
theorem dX11_bestParents_116 : decode cX11_bestParents 116 = .ok (.aload_n 0, 1) := by decide +kernel
theorem dX11_bestParents_117 : decode cX11_bestParents 117 = .ok (.getfield 66, 3) := by decide +kernel
theorem dX11_bestParents_120 : decode cX11_bestParents 120 = .ok (.invokestatic 129, 3) := by decide +kernel
theorem dX11_bestParents_123 : decode cX11_bestParents 123 = .ok (.aload_n 0, 1) := by decide +kernel
theorem dX11_bestParents_124 : decode cX11_bestParents 124 = .ok (.getfield 63, 3) := by decide +kernel
theorem dX11_bestParents_127 : decode cX11_bestParents 127 = .ok (.aload_n 0, 1) := by decide +kernel
theorem dX11_bestParents_128 : decode cX11_bestParents 128 = .ok (.getfield 69, 3) := by decide +kernel
theorem dX11_bestParents_131 : decode cX11_bestParents 131 = .ok (.invokestatic 129, 3) := by decide +kernel
theorem dX11_bestParents_134 : decode cX11_bestParents 134 = .ok (.iinc 4 1, 3) := by decide +kernel
theorem dX11_bestParents_137 : decode cX11_bestParents 137 = .ok (.goto (-98), 3) := by decide +kernel
theorem dX11_bestParents_140 : decode cX11_bestParents 140 = .ok (.iload_n 3, 1) := by decide +kernel
theorem dX11_bestParents_141 : decode cX11_bestParents 141 = .ok (.ireturn, 1) := by decide +kernel
set_option maxRecDepth 20000 in
theorem ggX11_parents_X11_isName : GoodIn wsX11_parents wsX11_isName := goodIn_r _ [5, 6, 98, 99, 100, 101, 102, 103, 104, 105, 106, 107, 108, 109, 110, 111, 112, 113, 114, 115, 116, 117, 118, 119, 120, 121, 122, 123, 124, 125, 126, 127, 128, 129, 130, 131, 132, 133, 134, 135, 136] (by decide +kernel) (by decide +kernel)
set_option maxRecDepth 20000 in
theorem gX11_parents_X11_isName : GoodIn wsX11_parents (wsV RX11 233 RX11 yX11_isName wsX11_isName) := goodIn_app (goodIn_of _ (by decide +kernel)) ggX11_parents_X11_isName
set_option maxRecDepth 20000 in
theorem ggX11_parents_X11_isSet : GoodIn wsX11_parents wsX11_isSet := goodIn_r _ [10, 6, 98, 99, 100, 101, 102, 103, 104, 105, 106, 107, 108, 109, 110, 111, 112, 113, 114, 115, 116, 117, 118, 119, 120, 121, 122, 123, 124, 125, 126, 127, 128, 129, 130, 131, 132, 133, 134, 135, 136] (by decide +kernel) (by decide +kernel)
set_option maxRecDepth 20000 in
theorem gX11_parents_X11_isSet : GoodIn wsX11_parents (wsV RX11 212 RX11 yX11_isSet wsX11_isSet) := goodIn_app (goodIn_of _ (by decide +kernel)) ggX11_parents_X11_isSet
set_option maxRecDepth 20000 in
theorem ggX11_parents_X11_bestParents : GoodIn wsX11_parents wsX11_bestParents := goodIn_r _ [14, 15, 16, 17, 18, 19, 20, 21, 22, 23, 24, 4, 25, 26, 27, 28, 29, 30, 31, 32, 33, 34, 35, 36, 6, 37, 38, 39, 40, 41, 42, 43, 44, 45, 46, 47, 48, 49, 50, 51, 52, 53, 54, 55, 56, 57, 58, 59, 60, 61, 62, 63, 64, 65, 66, 67, 68, 69, 70, 71, 72, 73, 74, 75, 76, 77, 78, 79, 80, 81, 82, 83, 84, 85, 86, 87, 88, 89, 90, 91, 92, 93, 94, 95, 96, 97, 98, 99, 100, 101, 102, 103, 104, 105, 106, 107, 108, 109, 110, 111, 112, 113, 114, 115, 116, 117, 118, 119, 120, 121, 122, 123, 124, 125, 126, 127, 128, 129, 130, 131, 132, 133, 134, 135, 136] (by decide +kernel) (by decide +kernel)
set_option maxRecDepth 20000 in
theorem gX11_parents_X11_bestParents : GoodIn wsX11_parents (wsV RX11 258 RX11 yX11_bestParents wsX11_bestParents) := goodIn_app (goodIn_of _ (by decide +kernel)) ggX11_parents_X11_bestParents
theorem dX11_parents_0 : decode cX11_parents 0 = .ok (.aload_n 0, 1) := by decide +kernel
theorem dX11_parents_1 : decode cX11_parents 1 = .ok (.iload_n 1, 1) := by decide +kernel
theorem dX11_parents_2 : decode cX11_parents 2 = .ok (.invokevirtual 233, 3) := by decide +kernel
theorem dX11_parents_5 : decode cX11_parents 5 = .ok (.ifCond .eq 20, 3) := by decide +kernel
theorem dX11_parents_8 : decode cX11_parents 8 = .ok (.aload_n 0, 1) := by decide +kernel
theorem dX11_parents_9 : decode cX11_parents 9 = .ok (.iload_n 2, 1) := by decide +kernel
theorem dX11_parents_10 : decode cX11_parents 10 = .ok (.invokevirtual 212, 3) := by decide +kernel
theorem dX11_parents_13 : decode cX11_parents 13 = .ok (.ifCond .eq 12, 3) := by decide +kernel
theorem dX11_parents_16 : decode cX11_parents 16 = .ok (.iload_n 2, 1) := by decide +kernel
theorem dX11_parents_17 : decode cX11_parents 17 = .ok (.iload_n 1, 1) := by decide +kernel
theorem dX11_parents_18 : decode cX11_parents 18 = .ok (.ishr, 1) := by decide +kernel
theorem dX11_parents_19 : decode cX11_parents 19 = .ok (.iconst 1, 1) := by decide +kernel
theorem dX11_parents_20 : decode cX11_parents 20 = .ok (.iand, 1) := by decide +kernel
theorem dX11_parents_21 : decode cX11_parents 21 = .ok (.iconst 1, 1) := by decide +kernel
theorem dX11_parents_22 : decode cX11_parents 22 = .ok (.if_icmp .ne 7, 3) := by decide +kernel
theorem dX11_parents_25 : decode cX11_parents 25 = .ok (.iconst (-1), 1) := by decide +kernel
theorem dX11_parents_26 : decode cX11_parents 26 = .ok (.goto 9, 3) := by decide +kernel
theorem dX11_parents_29 : decode cX11_parents 29 = .ok (.aload_n 0, 1) := by decide +kernel
theorem dX11_parents_30 : decode cX11_parents 30 = .ok (.iload_n 1, 1) := by decide +kernel
theorem dX11_parents_31 : decode cX11_parents 31 = .ok (.iload_n 2, 1) := by decide +kernel
theorem dX11_parents_32 : decode cX11_parents 32 = .ok (.invokevirtual 258, 3) := by decide +kernel
theorem dX11_parents_35 : decode cX11_parents 35 = .ok (.ireturn, 1) := by decide +kernel
theorem dX11_arcs_0 : decode cX11_arcs 0 = .ok (.iconst 0, 1) := by decide +kernel
theorem dX11_arcs_1 : decode cX11_arcs 1 = .ok (.istore_n 2, 1) := by decide +kernel
theorem dX11_arcs_2 : decode cX11_arcs 2 = .ok (.iconst 0, 1) := by decide +kernel
theorem dX11_arcs_3 : decode cX11_arcs 3 = .ok (.istore_n 3, 1) := by decide +kernel
theorem dX11_arcs_4 : decode cX11_arcs 4 = .ok (.iload_n 3, 1) := by decide +kernel
theorem dX11_arcs_5 : decode cX11_arcs 5 = .ok (.iconst 5, 1) := by decide +kernel
theorem dX11_arcs_6 : decode cX11_arcs 6 = .ok (.if_icmp .ge 23, 3) := by decide +kernel
theorem dX11_arcs_9 : decode cX11_arcs 9 = .ok (.iload_n 2, 1) := by decide +kernel
theorem dX11_arcs_10 : decode cX11_arcs 10 = .ok (.iload_n 1, 1) := by decide +kernel
theorem dX11_arcs_11 : decode cX11_arcs 11 = .ok (.iload_n 3, 1) := by decide +kernel
theorem dX11_arcs_12 : decode cX11_arcs 12 = .ok (.ishr, 1) := by decide +kernel
theorem dX11_arcs_13 : decode cX11_arcs 13 = .ok (.iconst 1, 1) := by decide +kernel
theorem dX11_arcs_14 : decode cX11_arcs 14 = .ok (.iand, 1) := by decide +kernel
theorem dX11_arcs_15 : decode cX11_arcs 15 = .ok (.iconst 5, 1) := by decide +kernel
theorem dX11_arcs_16 : decode cX11_arcs 16 = .ok (.iload_n 3, 1) := by decide +kernel
theorem dX11_arcs_17 : decode cX11_arcs 17 = .ok (.imul, 1) := by decide +kernel
theorem dX11_arcs_18 : decode cX11_arcs 18 = .ok (.iload_n 0, 1) := by decide +kernel
theorem dX11_arcs_19 : decode cX11_arcs 19 = .ok (.iadd, 1) := by decide +kernel
theorem dX11_arcs_20 : decode cX11_arcs 20 = .ok (.ishl, 1) := by decide +kernel
theorem dX11_arcs_21 : decode cX11_arcs 21 = .ok (.ior, 1) := by decide +kernel
theorem dX11_arcs_22 : decode cX11_arcs 22 = .ok (.istore_n 2, 1) := by decide +kernel
theorem dX11_arcs_23 : decode cX11_arcs 23 = .ok (.iinc 3 1, 3) := by decide +kernel
theorem dX11_arcs_26 : decode cX11_arcs 26 = .ok (.goto (-22), 3) := by decide +kernel
theorem dX11_arcs_29 : decode cX11_arcs 29 = .ok (.iload_n 2, 1) := by decide +kernel
theorem dX11_arcs_30 : decode cX11_arcs 30 = .ok (.ireturn, 1) := by decide +kernel
set_option maxRecDepth 20000 in
theorem ggX11_best_X11_bestParents : GoodIn wsX11_best wsX11_bestParents := goodIn_r _ [7, 8, 9, 10, 11, 12, 13, 14, 15, 16, 17, 6, 18, 19, 20, 21, 22, 23, 24, 25, 26, 27, 28, 29, 2, 30, 31, 32, 33, 34, 35, 36, 37, 38, 39, 40, 41, 42, 43, 44, 45, 46, 47, 48, 49, 50, 51, 52, 53, 54, 55, 56, 57, 58, 59, 60, 61, 62, 63, 64, 65, 66, 67, 68, 69, 70, 71, 72, 73, 74, 75, 76, 77, 78, 79, 80, 81, 82, 83, 84, 85, 86, 87, 88, 89, 90, 114, 115, 116, 117, 118, 119, 120, 121, 122, 123, 124, 125, 126, 127, 128, 129, 130, 131, 132, 133, 134, 135, 136, 137, 138, 139, 140, 141, 142, 143, 144, 145, 146, 147, 148, 149, 150, 151, 152] (by decide +kernel) (by decide +kernel)
set_option maxRecDepth 20000 in
theorem gX11_best_X11_bestParents : GoodIn wsX11_best (wsV RX11 258 RX11 yX11_bestParents wsX11_bestParents) := goodIn_app (goodIn_of _ (by decide +kernel)) ggX11_best_X11_bestParents
set_option maxRecDepth 20000 in
theorem ggX11_best_X11_arcs : GoodIn wsX11_best wsX11_arcs := goodIn_r _ [93] (by decide +kernel) (by decide +kernel)
set_option maxRecDepth 20000 in
theorem gX11_best_X11_arcs : GoodIn wsX11_best (va_wsS RX11 261 yX11_arcs wsX11_arcs) := goodIn_app (goodIn_of _ (by decide +kernel)) ggX11_best_X11_arcs
set_option maxRecDepth 20000 in
theorem ggX11_best_X11_signIn : GoodIn wsX11_best wsX11_signIn := goodIn_r _ [97, 13, 14, 9, 11, 98, 99, 100, 6, 101, 2, 8, 10, 102, 103, 104, 105, 106, 107, 15, 16, 17, 18, 19, 20, 21, 22, 23, 24, 25, 26, 27, 28, 29, 30, 31, 32, 33, 34, 35, 36, 37, 38, 39, 40, 41, 42, 43, 44, 45, 46, 47, 48, 49, 50, 51, 52, 53, 54, 55, 56, 57, 58, 59, 60, 61, 62, 63, 64, 65, 66, 67, 68, 69, 70, 71, 72, 73, 74, 75, 76, 77, 78, 108, 109, 110, 111, 112, 113, 88, 89, 90, 82, 83, 84, 85, 86, 87, 114, 115, 116, 117, 118, 119, 120, 121, 122, 123, 124, 125, 126, 127, 128, 129, 130, 131, 132, 133, 134, 135, 136, 137, 138, 139, 140, 141, 142, 143, 144, 145, 146, 147, 148, 149, 150, 151, 152] (by decide +kernel) (by decide +kernel)
set_option maxRecDepth 20000 in
theorem gX11_best_X11_signIn : GoodIn wsX11_best (wsV RX11 264 RX11 yX11_signIn wsX11_signIn) := goodIn_app (goodIn_of _ (by decide +kernel)) ggX11_best_X11_signIn
theorem dX11_best_0 : decode cX11_best 0 = .ok (.aload_n 0, 1) := by decide +kernel
theorem dX11_best_1 : decode cX11_best 1 = .ok (.getfield 84, 3) := by decide +kernel
theorem dX11_best_4 : decode cX11_best 4 = .ok (.iconst 0, 1) := by decide +kernel
theorem dX11_best_5 : decode cX11_best 5 = .ok (.iconst 0, 1) := by decide +kernel
theorem dX11_best_6 : decode cX11_best 6 = .ok (.iastore, 1) := by decide +kernel
theorem dX11_best_7 : decode cX11_best 7 = .ok (.iconst 1, 1) := by decide +kernel
theorem dX11_best_8 : decode cX11_best 8 = .ok (.istore_n 1, 1) := by decide +kernel
theorem dX11_best_9 : decode cX11_best 9 = .ok (.iload_n 1, 1) := by decide +kernel
theorem dX11_best_10 : decode cX11_best 10 = .ok (.iconst 1, 1) := by decide +kernel
theorem dX11_best_11 : decode cX11_best 11 = .ok (.aload_n 0, 1) := by decide +kernel
theorem dX11_best_12 : decode cX11_best 12 = .ok (.getfield 160, 3) := by decide +kernel
theorem dX11_best_15 : decode cX11_best 15 = .ok (.ishl, 1) := by decide +kernel
theorem dX11_best_16 : decode cX11_best 16 = .ok (.if_icmp .ge 114, 3) := by decide +kernel
theorem dX11_best_19 : decode cX11_best 19 = .ok (.iconst (-1), 1) := by decide +kernel
theorem dX11_best_20 : decode cX11_best 20 = .ok (.istore_n 2, 1) := by decide +kernel
theorem dX11_best_21 : decode cX11_best 21 = .ok (.iconst 0, 1) := by decide +kernel
theorem dX11_best_22 : decode cX11_best 22 = .ok (.istore_n 3, 1) := by decide +kernel
theorem dX11_best_23 : decode cX11_best 23 = .ok (.iload_n 3, 1) := by decide +kernel
theorem dX11_best_24 : decode cX11_best 24 = .ok (.aload_n 0, 1) := by decide +kernel
theorem dX11_best_25 : decode cX11_best 25 = .ok (.getfield 160, 3) := by decide +kernel
theorem dX11_best_28 : decode cX11_best 28 = .ok (.if_icmp .ge 89, 3) := by decide +kernel
theorem dX11_best_31 : decode cX11_best 31 = .ok (.iload_n 1, 1) := by decide +kernel
theorem dX11_best_32 : decode cX11_best 32 = .ok (.iload_n 3, 1) := by decide +kernel
theorem dX11_best_33 : decode cX11_best 33 = .ok (.ishr, 1) := by decide +kernel
theorem dX11_best_34 : decode cX11_best 34 = .ok (.iconst 1, 1) := by decide +kernel
theorem dX11_best_35 : decode cX11_best 35 = .ok (.iand, 1) := by decide +kernel
theorem dX11_best_36 : decode cX11_best 36 = .ok (.iconst 1, 1) := by decide +kernel
theorem dX11_best_37 : decode cX11_best 37 = .ok (.if_icmp .ne 74, 3) := by decide +kernel
theorem dX11_best_40 : decode cX11_best 40 = .ok (.iload_n 1, 1) := by decide +kernel
theorem dX11_best_41 : decode cX11_best 41 = .ok (.iconst 1, 1) := by decide +kernel
theorem dX11_best_42 : decode cX11_best 42 = .ok (.iload_n 3, 1) := by decide +kernel
theorem dX11_best_43 : decode cX11_best 43 = .ok (.ishl, 1) := by decide +kernel
theorem dX11_best_44 : decode cX11_best 44 = .ok (.iconst (-1), 1) := by decide +kernel
theorem dX11_best_45 : decode cX11_best 45 = .ok (.ixor, 1) := by decide +kernel
theorem dX11_best_46 : decode cX11_best 46 = .ok (.iand, 1) := by decide +kernel
theorem dX11_best_47 : decode cX11_best 47 = .ok (.istore 4, 2) := by decide +kernel
theorem dX11_best_49 : decode cX11_best 49 = .ok (.aload_n 0, 1) := by decide +kernel
theorem dX11_best_50 : decode cX11_best 50 = .ok (.getfield 84, 3) := by decide +kernel
theorem dX11_best_53 : decode cX11_best 53 = .ok (.iload 4, 2) := by decide +kernel
theorem dX11_best_55 : decode cX11_best 55 = .ok (.iaload, 1) := by decide +kernel
theorem dX11_best_56 : decode cX11_best 56 = .ok (.iload_n 3, 1) := by decide +kernel
theorem dX11_best_57 : decode cX11_best 57 = .ok (.aload_n 0, 1) := by decide +kernel
theorem dX11_best_58 : decode cX11_best 58 = .ok (.iload_n 3, 1) := by decide +kernel
theorem dX11_best_59 : decode cX11_best 59 = .ok (.iload 4, 2) := by decide +kernel
theorem dX11_best_61 : decode cX11_best 61 = .ok (.invokevirtual 258, 3) := by decide +kernel
theorem dX11_best_64 : decode cX11_best 64 = .ok (.invokestatic 261, 3) := by decide +kernel
theorem dX11_best_67 : decode cX11_best 67 = .ok (.ior, 1) := by decide +kernel
theorem dX11_best_68 : decode cX11_best 68 = .ok (.istore 5, 2) := by decide +kernel
theorem dX11_best_70 : decode cX11_best 70 = .ok (.iload_n 2, 1) := by decide +kernel
theorem dX11_best_71 : decode cX11_best 71 = .ok (.ifCond .ge 7, 3) := by decide +kernel
theorem dX11_best_74 : decode cX11_best 74 = .ok (.iconst 1, 1) := by decide +kernel
theorem dX11_best_75 : decode cX11_best 75 = .ok (.goto 11, 3) := by decide +kernel
theorem dX11_best_78 : decode cX11_best 78 = .ok (.aload_n 0, 1) := by decide +kernel
theorem dX11_best_79 : decode cX11_best 79 = .ok (.iload_n 1, 1) := by decide +kernel
theorem dX11_best_80 : decode cX11_best 80 = .ok (.iload 5, 2) := by decide +kernel
theorem dX11_best_82 : decode cX11_best 82 = .ok (.iload_n 2, 1) := by decide +kernel
theorem dX11_best_83 : decode cX11_best 83 = .ok (.invokevirtual 264, 3) := by decide +kernel
theorem dX11_best_86 : decode cX11_best 86 = .ok (.istore 6, 2) := by decide +kernel
theorem dX11_best_88 : decode cX11_best 88 = .ok (.iload 6, 2) := by decide +kernel
theorem dX11_best_90 : decode cX11_best 90 = .ok (.ifCond .gt 14, 3) := by decide +kernel
theorem dX11_best_93 : decode cX11_best 93 = .ok (.iload 6, 2) := by decide +kernel
theorem dX11_best_95 : decode cX11_best 95 = .ok (.ifCond .ne 14, 3) := by decide +kernel
theorem dX11_best_98 : decode cX11_best 98 = .ok (.iload 5, 2) := by decide +kernel
theorem dX11_best_100 : decode cX11_best 100 = .ok (.iload_n 2, 1) := by decide +kernel
theorem dX11_best_101 : decode cX11_best 101 = .ok (.if_icmp .ge 8, 3) := by decide +kernel
theorem dX11_best_104 : decode cX11_best 104 = .ok (.iload 5, 2) := by decide +kernel
theorem dX11_best_106 : decode cX11_best 106 = .ok (.goto 4, 3) := by decide +kernel
theorem dX11_best_109 : decode cX11_best 109 = .ok (.iload_n 2, 1) := by decide +kernel
theorem dX11_best_110 : decode cX11_best 110 = .ok (.istore_n 2, 1) := by decide +kernel
theorem dX11_best_111 : decode cX11_best 111 = .ok (.iinc 3 1, 3) := by decide +kernel
theorem dX11_best_114 : decode cX11_best 114 = .ok (.goto (-91), 3) := by decide +kernel
theorem dX11_best_117 : decode cX11_best 117 = .ok (.aload_n 0, 1) := by decide +kernel
theorem dX11_best_118 : decode cX11_best 118 = .ok (.getfield 84, 3) := by decide +kernel
theorem dX11_best_121 : decode cX11_best 121 = .ok (.iload_n 1, 1) := by decide +kernel
theorem dX11_best_122 : decode cX11_best 122 = .ok (.iload_n 2, 1) := by decide +kernel
theorem dX11_best_123 : decode cX11_best 123 = .ok (.iastore, 1) := by decide +kernel
theorem dX11_best_124 : decode cX11_best 124 = .ok (.iinc 1 1, 3) := by decide +kernel
theorem dX11_best_127 : decode cX11_best 127 = .ok (.goto (-118), 3) := by decide +kernel
theorem dX11_best_130 : decode cX11_best 130 = .ok (.aload_n 0, 1) := by decide +kernel
theorem dX11_best_131 : decode cX11_best 131 = .ok (.getfield 84, 3) := by decide +kernel
theorem dX11_best_134 : decode cX11_best 134 = .ok (.iconst 1, 1) := by decide +kernel
theorem dX11_best_135 : decode cX11_best 135 = .ok (.aload_n 0, 1) := by decide +kernel
theorem dX11_best_136 : decode cX11_best 136 = .ok (.getfield 160, 3) := by decide +kernel
theorem dX11_best_139 : decode cX11_best 139 = .ok (.ishl, 1) := by decide +kernel
theorem dX11_best_140 : decode cX11_best 140 = .ok (.iconst 1, 1) := by decide +kernel
theorem dX11_best_141 : decode cX11_best 141 = .ok (.isub, 1) := by decide +kernel
theorem dX11_best_142 : decode cX11_best 142 = .ok (.iaload, 1) := by decide +kernel
theorem dX11_best_143 : decode cX11_best 143 = .ok (.ireturn, 1) := by decide +kernel
set_option maxRecDepth 20000 in
theorem ggX11_fitIn_X11_put : GoodIn wsX11_fitIn wsX11_put := goodIn_r _ [7] (by decide +kernel) (by decide +kernel)
set_option maxRecDepth 20000 in
theorem gX11_fitIn_X11_put : GoodIn wsX11_fitIn (va_wsS RX11 151 yX11_put wsX11_put) := goodIn_app (goodIn_of _ (by decide +kernel)) ggX11_fitIn_X11_put
set_option maxRecDepth 20000 in
theorem ggX11_fitIn_X11_parentsOf : GoodIn wsX11_fitIn wsX11_parentsOf := goodIn_r _ [10] (by decide +kernel) (by decide +kernel)
set_option maxRecDepth 20000 in
theorem gX11_fitIn_X11_parentsOf : GoodIn wsX11_fitIn (va_wsS RX11 194 yX11_parentsOf wsX11_parentsOf) := goodIn_app (goodIn_of _ (by decide +kernel)) ggX11_fitIn_X11_parentsOf
set_option maxRecDepth 20000 in
theorem ggX11_fitIn_X11_family : GoodIn wsX11_fitIn wsX11_family := goodIn_r _ [14, 15, 2, 16, 3, 17, 18, 19, 6, 20, 21, 22, 23, 24, 25, 1, 26, 27, 28, 29, 30, 31, 32, 33, 34, 35, 36, 37, 38, 39, 40, 41, 42, 43, 44, 45, 46, 47, 48, 49, 50, 51, 52, 53, 54, 55, 56, 57, 58, 59, 60, 61, 62, 63, 64, 65, 66, 67, 68, 69, 70, 71, 72, 73, 74, 84, 85, 86, 87, 88, 89, 90, 91, 92, 93, 94, 95, 96, 97, 98, 99, 100, 101, 102, 103, 104, 105, 106, 107, 108, 109, 110, 111, 112, 113, 114, 115, 116, 117, 118, 119, 120, 121, 122] (by decide +kernel) (by decide +kernel)
set_option maxRecDepth 20000 in
theorem gX11_fitIn_X11_family : GoodIn wsX11_fitIn (wsV RX11 197 RX11 yX11_family wsX11_family) := goodIn_app (goodIn_of _ (by decide +kernel)) ggX11_fitIn_X11_family
set_option maxRecDepth 20000 in
theorem ggX11_fitIn_X11_multiply : GoodIn wsX11_fitIn wsX11_multiply := goodIn_r _ [78, 79, 80, 37, 38, 6, 39, 81, 82, 83, 36, 56, 57, 58, 47, 48, 49, 84, 85, 86, 87, 88, 89, 90, 91, 92, 93, 94, 95, 96, 97, 98, 99, 100, 101, 102, 103, 104, 105, 106, 107, 108, 109, 110, 111, 112, 113, 114, 115, 116, 117, 118, 119, 120, 121, 122] (by decide +kernel) (by decide +kernel)
set_option maxRecDepth 20000 in
theorem gX11_fitIn_X11_multiply : GoodIn wsX11_fitIn (wsV RX11 200 RX11 yX11_multiply wsX11_multiply) := goodIn_app (goodIn_of _ (by decide +kernel)) ggX11_fitIn_X11_multiply
theorem dX11_fitIn_0 : decode cX11_fitIn 0 = .ok (.aload_n 3, 1) := by decide +kernel
theorem dX11_fitIn_1 : decode cX11_fitIn 1 = .ok (.iconst 1, 1) := by decide +kernel
theorem dX11_fitIn_2 : decode cX11_fitIn 2 = .ok (.invokestatic 151, 3) := by decide +kernel
theorem dX11_fitIn_5 : decode cX11_fitIn 5 = .ok (.aload 4, 2) := by decide +kernel
theorem dX11_fitIn_7 : decode cX11_fitIn 7 = .ok (.iconst 1, 1) := by decide +kernel
theorem dX11_fitIn_8 : decode cX11_fitIn 8 = .ok (.invokestatic 151, 3) := by decide +kernel
theorem dX11_fitIn_11 : decode cX11_fitIn 11 = .ok (.iconst 0, 1) := by decide +kernel
theorem dX11_fitIn_12 : decode cX11_fitIn 12 = .ok (.istore 5, 2) := by decide +kernel
theorem dX11_fitIn_14 : decode cX11_fitIn 14 = .ok (.iload 5, 2) := by decide +kernel
theorem dX11_fitIn_16 : decode cX11_fitIn 16 = .ok (.aload_n 0, 1) := by decide +kernel
theorem dX11_fitIn_17 : decode cX11_fitIn 17 = .ok (.getfield 160, 3) := by decide +kernel
theorem dX11_fitIn_20 : decode cX11_fitIn 20 = .ok (.if_icmp .ge 56, 3) := by decide +kernel
theorem dX11_fitIn_23 : decode cX11_fitIn 23 = .ok (.iload_n 1, 1) := by decide +kernel
theorem dX11_fitIn_24 : decode cX11_fitIn 24 = .ok (.iload 5, 2) := by decide +kernel
theorem dX11_fitIn_26 : decode cX11_fitIn 26 = .ok (.ishr, 1) := by decide +kernel
theorem dX11_fitIn_27 : decode cX11_fitIn 27 = .ok (.iconst 1, 1) := by decide +kernel
theorem dX11_fitIn_28 : decode cX11_fitIn 28 = .ok (.iand, 1) := by decide +kernel
theorem dX11_fitIn_29 : decode cX11_fitIn 29 = .ok (.iconst 1, 1) := by decide +kernel
theorem dX11_fitIn_30 : decode cX11_fitIn 30 = .ok (.if_icmp .ne 40, 3) := by decide +kernel
theorem dX11_fitIn_33 : decode cX11_fitIn 33 = .ok (.aload_n 0, 1) := by decide +kernel
theorem dX11_fitIn_34 : decode cX11_fitIn 34 = .ok (.iload 5, 2) := by decide +kernel
theorem dX11_fitIn_36 : decode cX11_fitIn 36 = .ok (.iload_n 2, 1) := by decide +kernel
theorem dX11_fitIn_37 : decode cX11_fitIn 37 = .ok (.iload 5, 2) := by decide +kernel
theorem dX11_fitIn_39 : decode cX11_fitIn 39 = .ok (.invokestatic 194, 3) := by decide +kernel
theorem dX11_fitIn_42 : decode cX11_fitIn 42 = .ok (.invokevirtual 197, 3) := by decide +kernel
theorem dX11_fitIn_45 : decode cX11_fitIn 45 = .ok (.istore 6, 2) := by decide +kernel
theorem dX11_fitIn_47 : decode cX11_fitIn 47 = .ok (.aload_n 0, 1) := by decide +kernel
theorem dX11_fitIn_48 : decode cX11_fitIn 48 = .ok (.aload_n 3, 1) := by decide +kernel
theorem dX11_fitIn_49 : decode cX11_fitIn 49 = .ok (.aload_n 0, 1) := by decide +kernel
theorem dX11_fitIn_50 : decode cX11_fitIn 50 = .ok (.getfield 42, 3) := by decide +kernel
theorem dX11_fitIn_53 : decode cX11_fitIn 53 = .ok (.iload 6, 2) := by decide +kernel
theorem dX11_fitIn_55 : decode cX11_fitIn 55 = .ok (.invokevirtual 200, 3) := by decide +kernel
theorem dX11_fitIn_58 : decode cX11_fitIn 58 = .ok (.aload_n 0, 1) := by decide +kernel
theorem dX11_fitIn_59 : decode cX11_fitIn 59 = .ok (.aload 4, 2) := by decide +kernel
theorem dX11_fitIn_61 : decode cX11_fitIn 61 = .ok (.aload_n 0, 1) := by decide +kernel
theorem dX11_fitIn_62 : decode cX11_fitIn 62 = .ok (.getfield 45, 3) := by decide +kernel
theorem dX11_fitIn_65 : decode cX11_fitIn 65 = .ok (.iload 6, 2) := by decide +kernel
theorem dX11_fitIn_67 : decode cX11_fitIn 67 = .ok (.invokevirtual 200, 3) := by decide +kernel
theorem dX11_fitIn_70 : decode cX11_fitIn 70 = .ok (.iinc 5 1, 3) := by decide +kernel
theorem dX11_fitIn_73 : decode cX11_fitIn 73 = .ok (.goto (-59), 3) := by decide +kernel
theorem dX11_fitIn_76 : decode cX11_fitIn 76 = .ok (.return_, 1) := by decide +kernel
set_option maxRecDepth 20000 in
theorem ggX11_signIn_X11_fitIn : GoodIn wsX11_signIn wsX11_fitIn := goodIn_r _ [9, 10, 11, 12, 13, 14, 8, 15, 16, 17, 18, 19, 20, 21, 22, 23, 24, 25, 26, 27, 28, 29, 30, 31, 32, 33, 34, 35, 36, 37, 38, 39, 40, 41, 42, 43, 44, 45, 46, 47, 48, 49, 50, 51, 52, 53, 54, 55, 56, 57, 58, 59, 60, 61, 62, 63, 64, 65, 66, 67, 68, 69, 70, 71, 72, 73, 74, 75, 76, 77, 78, 79, 80, 81, 82, 83, 84, 85, 86, 87, 88, 89, 90, 91, 98, 99, 100, 101, 102, 103, 104, 105, 106, 107, 108, 109, 110, 111, 112, 113, 114, 115, 116, 117, 118, 119, 120, 121, 122, 123, 124, 125, 126, 127, 128, 129, 130, 131, 132, 133, 134, 135, 136] (by decide +kernel) (by decide +kernel)
set_option maxRecDepth 20000 in
theorem gX11_signIn_X11_fitIn : GoodIn wsX11_signIn (wsV RX11 268 RX11 yX11_fitIn wsX11_fitIn) := goodIn_app (goodIn_of _ (by decide +kernel)) ggX11_signIn_X11_fitIn
set_option maxRecDepth 20000 in
theorem ggX11_signIn_X11_sign : GoodIn wsX11_signIn wsX11_sign := goodIn_r _ [95, 1, 4, 96, 3, 2, 97, 89, 90, 8, 91, 44, 64, 65, 66, 67, 68, 69, 98, 99, 100, 101, 102, 103, 104, 105, 106, 107, 108, 109, 110, 111, 112, 113, 114, 115, 116, 117, 118, 119, 120, 121, 122, 123, 124, 125, 126, 127, 128, 129, 130, 131, 132, 133, 134, 135, 136] (by decide +kernel) (by decide +kernel)
set_option maxRecDepth 20000 in
theorem gX11_signIn_X11_sign : GoodIn wsX11_signIn (wsV RX11 207 RX11 yX11_sign wsX11_sign) := goodIn_app (goodIn_of _ (by decide +kernel)) ggX11_signIn_X11_sign
theorem dX11_signIn_0 : decode cX11_signIn 0 = .ok (.aload_n 0, 1) := by decide +kernel
theorem dX11_signIn_1 : decode cX11_signIn 1 = .ok (.iload_n 1, 1) := by decide +kernel
theorem dX11_signIn_2 : decode cX11_signIn 2 = .ok (.iload_n 2, 1) := by decide +kernel
theorem dX11_signIn_3 : decode cX11_signIn 3 = .ok (.aload_n 0, 1) := by decide +kernel
theorem dX11_signIn_4 : decode cX11_signIn 4 = .ok (.getfield 60, 3) := by decide +kernel
theorem dX11_signIn_7 : decode cX11_signIn 7 = .ok (.aload_n 0, 1) := by decide +kernel
theorem dX11_signIn_8 : decode cX11_signIn 8 = .ok (.getfield 63, 3) := by decide +kernel
theorem dX11_signIn_11 : decode cX11_signIn 11 = .ok (.invokevirtual 268, 3) := by decide +kernel
theorem dX11_signIn_14 : decode cX11_signIn 14 = .ok (.aload_n 0, 1) := by decide +kernel
theorem dX11_signIn_15 : decode cX11_signIn 15 = .ok (.iload_n 1, 1) := by decide +kernel
theorem dX11_signIn_16 : decode cX11_signIn 16 = .ok (.iload_n 3, 1) := by decide +kernel
theorem dX11_signIn_17 : decode cX11_signIn 17 = .ok (.aload_n 0, 1) := by decide +kernel
theorem dX11_signIn_18 : decode cX11_signIn 18 = .ok (.getfield 66, 3) := by decide +kernel
theorem dX11_signIn_21 : decode cX11_signIn 21 = .ok (.aload_n 0, 1) := by decide +kernel
theorem dX11_signIn_22 : decode cX11_signIn 22 = .ok (.getfield 69, 3) := by decide +kernel
theorem dX11_signIn_25 : decode cX11_signIn 25 = .ok (.invokevirtual 268, 3) := by decide +kernel
theorem dX11_signIn_28 : decode cX11_signIn 28 = .ok (.aload_n 0, 1) := by decide +kernel
theorem dX11_signIn_29 : decode cX11_signIn 29 = .ok (.invokevirtual 207, 3) := by decide +kernel
theorem dX11_signIn_32 : decode cX11_signIn 32 = .ok (.ireturn, 1) := by decide +kernel
set_option maxRecDepth 20000 in
theorem ggX11_better_X11_isGraph : GoodIn wsX11_better wsX11_isGraph := goodIn_r _ [5, 6, 7, 8, 9, 10, 4, 11, 12, 13, 14, 119, 120, 121, 122, 123, 124, 125, 126, 127, 128, 129, 130, 131, 132, 133, 134, 135, 136, 137, 138, 139, 140, 141, 142, 143, 144, 145, 146, 147, 148, 149, 150, 151, 152, 153, 154, 155, 156, 157] (by decide +kernel) (by decide +kernel)
set_option maxRecDepth 20000 in
theorem gX11_better_X11_isGraph : GoodIn wsX11_better (wsV RX11 236 RX11 yX11_isGraph wsX11_isGraph) := goodIn_app (goodIn_of _ (by decide +kernel)) ggX11_better_X11_isGraph
set_option maxRecDepth 20000 in
theorem ggX11_better_X11_isBounded : GoodIn wsX11_better wsX11_isBounded := goodIn_r _ [18, 7, 19, 12, 13, 4, 14, 20, 21, 22, 119, 120, 121, 122, 123, 124, 125, 126, 127, 128, 129, 130, 131, 132, 133, 134, 135, 136, 137, 138, 139, 140, 141, 142, 143, 144, 145, 146, 147, 148, 149, 150, 151, 152, 153, 154, 155, 156, 157] (by decide +kernel) (by decide +kernel)
set_option maxRecDepth 20000 in
theorem gX11_better_X11_isBounded : GoodIn wsX11_better (wsV RX11 272 RX11 yX11_isBounded wsX11_isBounded) := goodIn_app (goodIn_of _ (by decide +kernel)) ggX11_better_X11_isBounded
set_option maxRecDepth 20000 in
theorem ggX11_better_X11_signOf : GoodIn wsX11_better wsX11_signOf := goodIn_r _ [26, 27, 28, 29, 30, 31, 32, 33, 4, 34, 7, 35, 36, 37, 38, 39, 12, 13, 14, 40, 41, 42, 43, 44, 45, 46, 47, 48, 49, 50, 51, 52, 53, 54, 55, 56, 57, 58, 59, 60, 61, 62, 63, 64, 65, 66, 67, 68, 69, 70, 71, 72, 73, 74, 75, 76, 77, 78, 79, 80, 81, 82, 83, 84, 85, 86, 87, 88, 89, 90, 91, 92, 93, 94, 95, 96, 97, 98, 99, 100, 101, 102, 103, 104, 105, 106, 107, 108, 109, 110, 111, 112, 113, 114, 115, 116, 117, 118, 119, 120, 121, 122, 123, 124, 125, 126, 127, 128, 129, 130, 131, 132, 133, 134, 135, 136, 137, 138, 139, 140, 141, 142, 143, 144, 145, 146, 147, 148, 149, 150, 151, 152, 153, 154, 155, 156, 157] (by decide +kernel) (by decide +kernel)
set_option maxRecDepth 20000 in
theorem gX11_better_X11_signOf : GoodIn wsX11_better (wsV RX11 255 RX11 yX11_signOf wsX11_signOf) := goodIn_app (goodIn_of _ (by decide +kernel)) ggX11_better_X11_signOf
