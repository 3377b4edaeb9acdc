theorem dX6_init_0 : decode cX6_init 0 = .ok (.aload_n 0, 1) := by decide +kernel
theorem dX6_init_1 : decode cX6_init 1 = .ok (.invokespecial 3, 3) := by decide +kernel
theorem dX6_init_4 : decode cX6_init 4 = .ok (.aload_n 0, 1) := by decide +kernel
theorem dX6_init_5 : decode cX6_init 5 = .ok (.aload_n 1, 1) := by decide +kernel
theorem dX6_init_6 : decode cX6_init 6 = .ok (.putfield 9, 3) := by decide +kernel
theorem dX6_init_9 : decode cX6_init 9 = .ok (.aload_n 0, 1) := by decide +kernel
theorem dX6_init_10 : decode cX6_init 10 = .ok (.aload_n 2, 1) := by decide +kernel
theorem dX6_init_11 : decode cX6_init 11 = .ok (.putfield 15, 3) := by decide +kernel
theorem dX6_init_14 : decode cX6_init 14 = .ok (.aload_n 0, 1) := by decide +kernel
theorem dX6_init_15 : decode cX6_init 15 = .ok (.bipush 32, 2) := by decide +kernel
theorem dX6_init_17 : decode cX6_init 17 = .ok (.newarray .int, 2) := by decide +kernel
theorem dX6_init_19 : decode cX6_init 19 = .ok (.putfield 19, 3) := by decide +kernel
theorem dX6_init_22 : decode cX6_init 22 = .ok (.return_, 1) := by decide +kernel
set_option maxRecDepth 20000 in
theorem ggX6_bestParents_J6_bitCount_0f7a4 : GoodIn wsX6_bestParents wsJ6_bitCount_0f7a4 := goodIn_r _ [7, 8, 9, 10] (by decide +kernel) (by decide +kernel)
set_option maxRecDepth 20000 in
theorem gX6_bestParents_J6_bitCount_0f7a4 : GoodIn wsX6_bestParents (va_wsS RX6 23 yJ6_bitCount_0f7a4 wsJ6_bitCount_0f7a4) := goodIn_app (goodIn_of _ (by decide +kernel)) ggX6_bestParents_J6_bitCount_0f7a4
set_option maxRecDepth 20000 in
theorem ggX6_bestParents_X0_fromAll : GoodIn wsX6_bestParents wsX0_fromAll := goodIn_r _ [14, 15, 16, 13, 17, 18, 19, 20] (by decide +kernel) (by decide +kernel)
set_option maxRecDepth 20000 in
theorem gX6_bestParents_X0_fromAll : GoodIn wsX6_bestParents (va_wsS RX6 35 yX0_fromAll wsX0_fromAll) := goodIn_app (goodIn_of _ (by decide +kernel)) ggX6_bestParents_X0_fromAll
set_option maxRecDepth 20000 in
theorem ggX6_bestParents_X2_weigh : GoodIn wsX6_bestParents wsX2_weigh := goodIn_r _ [25, 26, 27, 28, 29, 30, 31, 32, 33, 34, 35, 36, 37, 38, 39, 40, 13, 41, 42, 43, 44, 24, 45, 46, 47, 48, 49, 50, 51, 52, 53, 54, 55, 56, 57, 58, 59, 60, 61, 62, 63, 64, 65, 66, 67, 68, 69, 70, 71, 72, 73, 74, 75, 76, 77, 78, 79, 80, 81, 82, 83, 84, 85, 86, 87, 88, 89, 90, 91, 92, 93, 16, 17, 94, 95, 96, 97, 98, 99, 100, 101, 102, 103, 104, 105, 106, 107, 108, 109, 110, 111, 112, 113, 114, 115, 116, 117, 118, 119, 120, 121, 122, 123, 124, 125, 126, 127, 128, 129, 130, 131, 132, 133, 134, 135, 136, 137, 138, 139, 140, 141, 142, 152, 153, 154, 155, 156, 157, 158, 159, 146, 147, 148, 149, 150, 151, 160, 161, 162, 163, 164, 165, 166] (by decide +kernel) (by decide +kernel)
set_option maxRecDepth 20000 in
theorem gX6_bestParents_X2_weigh : GoodIn wsX6_bestParents (wsV RX6 41 RX2 yX2_weigh wsX2_weigh) := goodIn_app (goodIn_of _ (by decide +kernel)) ggX6_bestParents_X2_weigh
theorem dX6_bestParents_0 : decode cX6_bestParents 0 = .ok (.iconst 0, 1) := by decide +kernel
theorem dX6_bestParents_1 : decode cX6_bestParents 1 = .ok (.istore_n 3, 1) := by decide +kernel
theorem dX6_bestParents_2 : decode cX6_bestParents 2 = .ok (.iconst 1, 1) := by decide +kernel
theorem dX6_bestParents_3 : decode cX6_bestParents 3 = .ok (.istore 4, 2) := by decide +kernel
theorem dX6_bestParents_5 : decode cX6_bestParents 5 = .ok (.iload 4, 2) := by decide +kernel
theorem dX6_bestParents_7 : decode cX6_bestParents 7 = .ok (.iload_n 2, 1) := by decide +kernel
theorem dX6_bestParents_8 : decode cX6_bestParents 8 = .ok (.if_icmp .gt 67, 3) := by decide +kernel
theorem dX6_bestParents_11 : decode cX6_bestParents 11 = .ok (.iload 4, 2) := by decide +kernel
theorem dX6_bestParents_13 : decode cX6_bestParents 13 = .ok (.bipush 32, 2) := by decide +kernel
theorem dX6_bestParents_15 : decode cX6_bestParents 15 = .ok (.if_icmp .ge 60, 3) := by decide +kernel
theorem dX6_bestParents_18 : decode cX6_bestParents 18 = .ok (.iload 4, 2) := by decide +kernel
theorem dX6_bestParents_20 : decode cX6_bestParents 20 = .ok (.iload_n 2, 1) := by decide +kernel
theorem dX6_bestParents_21 : decode cX6_bestParents 21 = .ok (.iconst (-1), 1) := by decide +kernel
theorem dX6_bestParents_22 : decode cX6_bestParents 22 = .ok (.ixor, 1) := by decide +kernel
theorem dX6_bestParents_23 : decode cX6_bestParents 23 = .ok (.iand, 1) := by decide +kernel
theorem dX6_bestParents_24 : decode cX6_bestParents 24 = .ok (.ifCond .ne 45, 3) := by decide +kernel
theorem dX6_bestParents_27 : decode cX6_bestParents 27 = .ok (.iload 4, 2) := by decide +kernel
theorem dX6_bestParents_29 : decode cX6_bestParents 29 = .ok (.invokestatic 23, 3) := by decide +kernel
theorem dX6_bestParents_32 : decode cX6_bestParents 32 = .ok (.aload_n 0, 1) := by decide +kernel
theorem dX6_bestParents_33 : decode cX6_bestParents 33 = .ok (.getfield 9, 3) := by decide +kernel
theorem dX6_bestParents_36 : decode cX6_bestParents 36 = .ok (.getfield 29, 3) := by decide +kernel
theorem dX6_bestParents_39 : decode cX6_bestParents 39 = .ok (.if_icmp .le 6, 3) := by decide +kernel
theorem dX6_bestParents_42 : decode cX6_bestParents 42 = .ok (.goto 27, 3) := by decide +kernel
theorem dX6_bestParents_45 : decode cX6_bestParents 45 = .ok (.aload_n 0, 1) := by decide +kernel
theorem dX6_bestParents_46 : decode cX6_bestParents 46 = .ok (.getfield 15, 3) := by decide +kernel
theorem dX6_bestParents_49 : decode cX6_bestParents 49 = .ok (.iload 4, 2) := by decide +kernel
theorem dX6_bestParents_51 : decode cX6_bestParents 51 = .ok (.iload_n 1, 1) := by decide +kernel
theorem dX6_bestParents_52 : decode cX6_bestParents 52 = .ok (.invokestatic 35, 3) := by decide +kernel
theorem dX6_bestParents_55 : decode cX6_bestParents 55 = .ok (.iload_n 3, 1) := by decide +kernel
theorem dX6_bestParents_56 : decode cX6_bestParents 56 = .ok (.iload_n 1, 1) := by decide +kernel
theorem dX6_bestParents_57 : decode cX6_bestParents 57 = .ok (.invokestatic 35, 3) := by decide +kernel
theorem dX6_bestParents_60 : decode cX6_bestParents 60 = .ok (.invokevirtual 41, 3) := by decide +kernel
theorem dX6_bestParents_63 : decode cX6_bestParents 63 = .ok (.ifCond .le 6, 3) := by decide +kernel
theorem dX6_bestParents_66 : decode cX6_bestParents 66 = .ok (.iload 4, 2) := by decide +kernel
theorem dX6_bestParents_68 : decode cX6_bestParents 68 = .ok (.istore_n 3, 1) := by decide +kernel
theorem dX6_bestParents_69 : decode cX6_bestParents 69 = .ok (.iinc 4 1, 3) := by decide +kernel
theorem dX6_bestParents_72 : decode cX6_bestParents 72 = .ok (.goto (-67), 3) := by decide +kernel
theorem dX6_bestParents_75 : decode cX6_bestParents 75 = .ok (.iload_n 3, 1) := by decide +kernel
theorem dX6_bestParents_76 : decode cX6_bestParents 76 = .ok (.ireturn, 1) := by decide +kernel
set_option maxRecDepth 20000 in
theorem ggX6_bestGraph_X0_isIn : GoodIn wsX6_bestGraph wsX0_isIn := goodIn_r _ [6] (by decide +kernel) (by decide +kernel)
set_option maxRecDepth 20000 in
theorem gX6_bestGraph_X0_isIn : GoodIn wsX6_bestGraph (va_wsS RX6 49 yX0_isIn wsX0_isIn) := goodIn_app (goodIn_of _ (by decide +kernel)) ggX6_bestGraph_X0_isIn
set_option maxRecDepth 20000 in
theorem ggX6_bestGraph_X6_kept : GoodIn wsX6_bestGraph wsX6_kept := goodIn_r _ [11, 12, 163, 164, 165] (by decide +kernel) (by decide +kernel)
set_option maxRecDepth 20000 in
theorem gX6_bestGraph_X6_kept : GoodIn wsX6_bestGraph (wsV RX6 53 RX6 yX6_kept wsX6_kept) := goodIn_app (goodIn_of _ (by decide +kernel)) ggX6_bestGraph_X6_kept
set_option maxRecDepth 20000 in
theorem ggX6_bestGraph_X6_bestParents : GoodIn wsX6_bestGraph wsX6_bestParents := goodIn_r _ [16, 1, 17, 18, 19, 20, 21, 22, 23, 24, 25, 26, 27, 5, 28, 29, 4, 6, 30, 31, 32, 33, 34, 35, 36, 37, 38, 39, 40, 41, 42, 43, 44, 45, 46, 47, 48, 49, 50, 51, 52, 53, 54, 55, 56, 57, 58, 59, 60, 61, 62, 63, 64, 65, 66, 67, 68, 69, 70, 71, 72, 73, 74, 75, 76, 77, 78, 79, 80, 81, 82, 83, 84, 85, 86, 87, 88, 89, 90, 91, 92, 93, 94, 95, 96, 97, 98, 99, 100, 101, 102, 103, 104, 105, 106, 107, 108, 109, 110, 111, 112, 113, 114, 115, 116, 117, 118, 119, 120, 121, 122, 123, 124, 125, 126, 127, 128, 129, 130, 131, 132, 133, 134, 135, 136, 137, 138, 139, 140, 141, 142, 143, 144, 145, 146, 147, 148, 149, 150, 151, 152, 153, 154, 163, 164, 165, 166, 167, 168, 169, 170, 171, 172, 173, 174, 175, 176, 177, 178, 179, 180, 181, 182, 183, 184, 185, 186] (by decide +kernel) (by decide +kernel)
set_option maxRecDepth 20000 in
theorem gX6_bestGraph_X6_bestParents : GoodIn wsX6_bestGraph (wsV RX6 56 RX6 yX6_bestParents wsX6_bestParents) := goodIn_app (goodIn_of _ (by decide +kernel)) ggX6_bestGraph_X6_bestParents
set_option maxRecDepth 20000 in
theorem ggX6_bestGraph_X0_fromAll : GoodIn wsX6_bestGraph wsX0_fromAll := goodIn_r _ [28, 29, 4, 5, 6, 30, 31, 32] (by decide +kernel) (by decide +kernel)
set_option maxRecDepth 20000 in
theorem gX6_bestGraph_X0_fromAll : GoodIn wsX6_bestGraph (va_wsS RX6 35 yX0_fromAll wsX0_fromAll) := goodIn_app (goodIn_of _ (by decide +kernel)) ggX6_bestGraph_X0_fromAll
set_option maxRecDepth 20000 in
theorem ggX6_bestGraph_X6_better : GoodIn wsX6_bestGraph wsX6_better := goodIn_r _ [158, 18, 33, 34, 35, 36, 37, 38, 39, 40, 41, 42, 43, 44, 45, 46, 47, 48, 49, 50, 51, 52, 5, 53, 54, 55, 56, 57, 58, 59, 60, 61, 62, 63, 64, 65, 66, 67, 68, 69, 70, 71, 72, 73, 74, 75, 76, 77, 78, 79, 80, 81, 82, 83, 84, 85, 86, 87, 88, 89, 90, 91, 92, 93, 94, 95, 96, 97, 98, 99, 100, 101, 102, 103, 104, 105, 4, 6, 106, 107, 108, 109, 110, 111, 112, 113, 114, 115, 116, 117, 118, 119, 120, 121, 122, 123, 124, 125, 126, 127, 128, 129, 130, 131, 132, 133, 134, 135, 136, 137, 138, 139, 140, 141, 142, 143, 144, 145, 146, 147, 148, 149, 150, 151, 152, 153, 154, 163, 164, 165, 172, 173, 174, 175, 176, 177, 178, 179, 166, 167, 168, 169, 170, 171, 180, 181, 182, 183, 184, 185, 186] (by decide +kernel) (by decide +kernel)
set_option maxRecDepth 20000 in
theorem gX6_bestGraph_X6_better : GoodIn wsX6_bestGraph (wsV RX6 59 RX6 yX6_better wsX6_better) := goodIn_app (goodIn_of _ (by decide +kernel)) ggX6_bestGraph_X6_better
set_option maxRecDepth 20000 in
theorem ggX6_bestGraph_X6_keep : GoodIn wsX6_bestGraph wsX6_keep := goodIn_r _ [162, 12, 163, 164, 165] (by decide +kernel) (by decide +kernel)
set_option maxRecDepth 20000 in
theorem gX6_bestGraph_X6_keep : GoodIn wsX6_bestGraph (wsV RX6 62 RX6 yX6_keep wsX6_keep) := goodIn_app (goodIn_of _ (by decide +kernel)) ggX6_bestGraph_X6_keep
theorem dX6_bestGraph_0 : decode cX6_bestGraph 0 = .ok (.iconst 0, 1) := by decide +kernel
theorem dX6_bestGraph_1 : decode cX6_bestGraph 1 = .ok (.istore_n 1, 1) := by decide +kernel
theorem dX6_bestGraph_2 : decode cX6_bestGraph 2 = .ok (.iconst 1, 1) := by decide +kernel
theorem dX6_bestGraph_3 : decode cX6_bestGraph 3 = .ok (.istore_n 2, 1) := by decide +kernel
theorem dX6_bestGraph_4 : decode cX6_bestGraph 4 = .ok (.iload_n 2, 1) := by decide +kernel
theorem dX6_bestGraph_5 : decode cX6_bestGraph 5 = .ok (.iconst 1, 1) := by decide +kernel
theorem dX6_bestGraph_6 : decode cX6_bestGraph 6 = .ok (.aload_n 0, 1) := by decide +kernel
theorem dX6_bestGraph_7 : decode cX6_bestGraph 7 = .ok (.getfield 9, 3) := by decide +kernel
theorem dX6_bestGraph_10 : decode cX6_bestGraph 10 = .ok (.getfield 46, 3) := by decide +kernel
theorem dX6_bestGraph_13 : decode cX6_bestGraph 13 = .ok (.ishl, 1) := by decide +kernel
theorem dX6_bestGraph_14 : decode cX6_bestGraph 14 = .ok (.if_icmp .ge 86, 3) := by decide +kernel
theorem dX6_bestGraph_17 : decode cX6_bestGraph 17 = .ok (.iload_n 2, 1) := by decide +kernel
theorem dX6_bestGraph_18 : decode cX6_bestGraph 18 = .ok (.bipush 32, 2) := by decide +kernel
theorem dX6_bestGraph_20 : decode cX6_bestGraph 20 = .ok (.if_icmp .ge 80, 3) := by decide +kernel
theorem dX6_bestGraph_23 : decode cX6_bestGraph 23 = .ok (.iconst (-1), 1) := by decide +kernel
theorem dX6_bestGraph_24 : decode cX6_bestGraph 24 = .ok (.istore_n 1, 1) := by decide +kernel
theorem dX6_bestGraph_25 : decode cX6_bestGraph 25 = .ok (.iconst 0, 1) := by decide +kernel
theorem dX6_bestGraph_26 : decode cX6_bestGraph 26 = .ok (.istore_n 3, 1) := by decide +kernel
theorem dX6_bestGraph_27 : decode cX6_bestGraph 27 = .ok (.iload_n 3, 1) := by decide +kernel
theorem dX6_bestGraph_28 : decode cX6_bestGraph 28 = .ok (.aload_n 0, 1) := by decide +kernel
theorem dX6_bestGraph_29 : decode cX6_bestGraph 29 = .ok (.getfield 9, 3) := by decide +kernel
theorem dX6_bestGraph_32 : decode cX6_bestGraph 32 = .ok (.getfield 46, 3) := by decide +kernel
theorem dX6_bestGraph_35 : decode cX6_bestGraph 35 = .ok (.if_icmp .ge 53, 3) := by decide +kernel
theorem dX6_bestGraph_38 : decode cX6_bestGraph 38 = .ok (.iload_n 2, 1) := by decide +kernel
theorem dX6_bestGraph_39 : decode cX6_bestGraph 39 = .ok (.iload_n 3, 1) := by decide +kernel
theorem dX6_bestGraph_40 : decode cX6_bestGraph 40 = .ok (.invokestatic 49, 3) := by decide +kernel
theorem dX6_bestGraph_43 : decode cX6_bestGraph 43 = .ok (.ifCond .ne 6, 3) := by decide +kernel
theorem dX6_bestGraph_46 : decode cX6_bestGraph 46 = .ok (.goto 36, 3) := by decide +kernel
theorem dX6_bestGraph_49 : decode cX6_bestGraph 49 = .ok (.iload_n 2, 1) := by decide +kernel
theorem dX6_bestGraph_50 : decode cX6_bestGraph 50 = .ok (.iconst 1, 1) := by decide +kernel
theorem dX6_bestGraph_51 : decode cX6_bestGraph 51 = .ok (.iload_n 3, 1) := by decide +kernel
theorem dX6_bestGraph_52 : decode cX6_bestGraph 52 = .ok (.ishl, 1) := by decide +kernel
theorem dX6_bestGraph_53 : decode cX6_bestGraph 53 = .ok (.iconst (-1), 1) := by decide +kernel
theorem dX6_bestGraph_54 : decode cX6_bestGraph 54 = .ok (.ixor, 1) := by decide +kernel
theorem dX6_bestGraph_55 : decode cX6_bestGraph 55 = .ok (.iand, 1) := by decide +kernel
theorem dX6_bestGraph_56 : decode cX6_bestGraph 56 = .ok (.istore 4, 2) := by decide +kernel
theorem dX6_bestGraph_58 : decode cX6_bestGraph 58 = .ok (.aload_n 0, 1) := by decide +kernel
theorem dX6_bestGraph_59 : decode cX6_bestGraph 59 = .ok (.aload_n 0, 1) := by decide +kernel
theorem dX6_bestGraph_60 : decode cX6_bestGraph 60 = .ok (.iload 4, 2) := by decide +kernel
theorem dX6_bestGraph_62 : decode cX6_bestGraph 62 = .ok (.invokevirtual 53, 3) := by decide +kernel
theorem dX6_bestGraph_65 : decode cX6_bestGraph 65 = .ok (.aload_n 0, 1) := by decide +kernel
theorem dX6_bestGraph_66 : decode cX6_bestGraph 66 = .ok (.iload_n 3, 1) := by decide +kernel
theorem dX6_bestGraph_67 : decode cX6_bestGraph 67 = .ok (.iload 4, 2) := by decide +kernel
theorem dX6_bestGraph_69 : decode cX6_bestGraph 69 = .ok (.invokevirtual 56, 3) := by decide +kernel
theorem dX6_bestGraph_72 : decode cX6_bestGraph 72 = .ok (.iload_n 3, 1) := by decide +kernel
theorem dX6_bestGraph_73 : decode cX6_bestGraph 73 = .ok (.invokestatic 35, 3) := by decide +kernel
theorem dX6_bestGraph_76 : decode cX6_bestGraph 76 = .ok (.ior, 1) := by decide +kernel
theorem dX6_bestGraph_77 : decode cX6_bestGraph 77 = .ok (.iload_n 1, 1) := by decide +kernel
theorem dX6_bestGraph_78 : decode cX6_bestGraph 78 = .ok (.invokevirtual 59, 3) := by decide +kernel
theorem dX6_bestGraph_81 : decode cX6_bestGraph 81 = .ok (.istore_n 1, 1) := by decide +kernel
theorem dX6_bestGraph_82 : decode cX6_bestGraph 82 = .ok (.iinc 3 1, 3) := by decide +kernel
theorem dX6_bestGraph_85 : decode cX6_bestGraph 85 = .ok (.goto (-58), 3) := by decide +kernel
theorem dX6_bestGraph_88 : decode cX6_bestGraph 88 = .ok (.aload_n 0, 1) := by decide +kernel
theorem dX6_bestGraph_89 : decode cX6_bestGraph 89 = .ok (.iload_n 2, 1) := by decide +kernel
theorem dX6_bestGraph_90 : decode cX6_bestGraph 90 = .ok (.iload_n 1, 1) := by decide +kernel
theorem dX6_bestGraph_91 : decode cX6_bestGraph 91 = .ok (.invokevirtual 62, 3) := by decide +kernel
theorem dX6_bestGraph_94 : decode cX6_bestGraph 94 = .ok (.iinc 2 1, 3) := by decide +kernel
theorem dX6_bestGraph_97 : decode cX6_bestGraph 97 = .ok (.goto (-93), 3) := by decide +kernel
theorem dX6_bestGraph_100 : decode cX6_bestGraph 100 = .ok (.iload_n 1, 1) := by decide +kernel
theorem dX6_bestGraph_101 : decode cX6_bestGraph 101 = .ok (.ireturn, 1) := by decide +kernel
set_option maxRecDepth 20000 in
theorem ggX6_climbFrom_X6_bestNear : GoodIn wsX6_climbFrom wsX6_bestNear := goodIn_r _ [6, 7, 8, 9, 10, 11, 12, 13, 14, 15, 16, 17, 18, 19, 5, 20, 21, 22, 23, 24, 25, 26, 27, 28, 29, 30, 31, 32, 33, 34, 35, 36, 37, 38, 39, 40, 41, 42, 43, 44, 45, 46, 47, 1, 48, 49, 50, 51, 52, 53, 54, 55, 56, 57, 58, 59, 60, 61, 62, 63, 64, 65, 66, 67, 68, 69, 70, 71, 72, 73, 74, 75, 76, 77, 78, 79, 80, 81, 82, 83, 84, 85, 86, 87, 88, 89, 90, 91, 92, 93, 94, 95, 96, 97, 98, 99, 100, 101, 102, 103, 104, 105, 106, 107, 108, 109, 110, 111, 112, 113, 114, 115, 116, 117, 118, 119, 120, 121, 122, 123, 124, 125, 126, 127, 128, 129, 130, 131, 132, 133, 134, 135, 136, 137, 138, 139, 140, 141, 142, 143, 144, 145, 146, 147, 148, 149, 150, 151, 152, 153, 154, 155, 156, 157, 158, 159, 160, 161, 162, 163, 164, 165, 166, 167, 168, 169, 170, 171, 172, 173, 174, 175, 176, 177, 178, 179, 180, 181, 182, 183, 184, 185, 186, 187, 188, 189, 190, 191] (by decide +kernel) (by decide +kernel)
set_option maxRecDepth 20000 in
theorem gX6_climbFrom_X6_bestNear : GoodIn wsX6_climbFrom (wsV RX6 66 RX6 yX6_bestNear wsX6_bestNear) := goodIn_app (goodIn_of _ (by decide +kernel)) ggX6_climbFrom_X6_bestNear
set_option maxRecDepth 20000 in
theorem ggX6_climbFrom_X2_weigh : GoodIn wsX6_climbFrom wsX2_weigh := goodIn_r _ [52, 53, 54, 55, 56, 57, 58, 59, 60, 61, 62, 63, 64, 65, 66, 26, 11, 27, 67, 68, 69, 51, 70, 71, 72, 73, 74, 75, 76, 77, 78, 79, 80, 81, 82, 83, 84, 85, 86, 87, 88, 89, 90, 91, 92, 93, 94, 95, 96, 97, 98, 99, 100, 101, 102, 103, 104, 105, 106, 107, 108, 109, 110, 111, 112, 113, 114, 115, 116, 117, 118, 42, 43, 119, 120, 121, 122, 123, 124, 125, 126, 127, 128, 129, 130, 131, 132, 133, 134, 135, 136, 137, 138, 139, 140, 141, 142, 143, 144, 145, 146, 147, 148, 149, 150, 151, 152, 153, 154, 155, 156, 157, 158, 159, 160, 161, 162, 163, 164, 165, 166, 167, 177, 178, 179, 180, 181, 182, 183, 184, 171, 172, 173, 174, 175, 176, 185, 186, 187, 188, 189, 190, 191] (by decide +kernel) (by decide +kernel)
set_option maxRecDepth 20000 in
theorem gX6_climbFrom_X2_weigh : GoodIn wsX6_climbFrom (wsV RX6 41 RX2 yX2_weigh wsX2_weigh) := goodIn_app (goodIn_of _ (by decide +kernel)) ggX6_climbFrom_X2_weigh
theorem dX6_climbFrom_0 : decode cX6_climbFrom 0 = .ok (.iload_n 1, 1) := by decide +kernel
theorem dX6_climbFrom_1 : decode cX6_climbFrom 1 = .ok (.istore_n 3, 1) := by decide +kernel
theorem dX6_climbFrom_2 : decode cX6_climbFrom 2 = .ok (.iconst 0, 1) := by decide +kernel
theorem dX6_climbFrom_3 : decode cX6_climbFrom 3 = .ok (.istore 4, 2) := by decide +kernel
theorem dX6_climbFrom_5 : decode cX6_climbFrom 5 = .ok (.iload 4, 2) := by decide +kernel
theorem dX6_climbFrom_7 : decode cX6_climbFrom 7 = .ok (.iload_n 2, 1) := by decide +kernel
theorem dX6_climbFrom_8 : decode cX6_climbFrom 8 = .ok (.if_icmp .ge 40, 3) := by decide +kernel
theorem dX6_climbFrom_11 : decode cX6_climbFrom 11 = .ok (.aload_n 0, 1) := by decide +kernel
theorem dX6_climbFrom_12 : decode cX6_climbFrom 12 = .ok (.iload_n 3, 1) := by decide +kernel
theorem dX6_climbFrom_13 : decode cX6_climbFrom 13 = .ok (.invokevirtual 66, 3) := by decide +kernel
theorem dX6_climbFrom_16 : decode cX6_climbFrom 16 = .ok (.istore 5, 2) := by decide +kernel
theorem dX6_climbFrom_18 : decode cX6_climbFrom 18 = .ok (.iload 5, 2) := by decide +kernel
theorem dX6_climbFrom_20 : decode cX6_climbFrom 20 = .ok (.ifCond .lt 28, 3) := by decide +kernel
theorem dX6_climbFrom_23 : decode cX6_climbFrom 23 = .ok (.aload_n 0, 1) := by decide +kernel
theorem dX6_climbFrom_24 : decode cX6_climbFrom 24 = .ok (.getfield 15, 3) := by decide +kernel
theorem dX6_climbFrom_27 : decode cX6_climbFrom 27 = .ok (.iload 5, 2) := by decide +kernel
theorem dX6_climbFrom_29 : decode cX6_climbFrom 29 = .ok (.iload_n 3, 1) := by decide +kernel
theorem dX6_climbFrom_30 : decode cX6_climbFrom 30 = .ok (.invokevirtual 41, 3) := by decide +kernel
theorem dX6_climbFrom_33 : decode cX6_climbFrom 33 = .ok (.ifCond .gt 6, 3) := by decide +kernel
theorem dX6_climbFrom_36 : decode cX6_climbFrom 36 = .ok (.goto 12, 3) := by decide +kernel
theorem dX6_climbFrom_39 : decode cX6_climbFrom 39 = .ok (.iload 5, 2) := by decide +kernel
theorem dX6_climbFrom_41 : decode cX6_climbFrom 41 = .ok (.istore_n 3, 1) := by decide +kernel
theorem dX6_climbFrom_42 : decode cX6_climbFrom 42 = .ok (.iinc 4 1, 3) := by decide +kernel
theorem dX6_climbFrom_45 : decode cX6_climbFrom 45 = .ok (.goto (-40), 3) := by decide +kernel
theorem dX6_climbFrom_48 : decode cX6_climbFrom 48 = .ok (.iload_n 3, 1) := by decide +kernel
theorem dX6_climbFrom_49 : decode cX6_climbFrom 49 = .ok (.ireturn, 1) := by decide +kernel
theorem dX6_kept_0 : decode cX6_kept 0 = .ok (.iload_n 1, 1) := by decide +kernel
theorem dX6_kept_1 : decode cX6_kept 1 = .ok (.ifCond .le 21, 3) := by decide +kernel
theorem dX6_kept_4 : decode cX6_kept 4 = .ok (.iload_n 1, 1) := by decide +kernel
theorem dX6_kept_5 : decode cX6_kept 5 = .ok (.aload_n 0, 1) := by decide +kernel
theorem dX6_kept_6 : decode cX6_kept 6 = .ok (.getfield 19, 3) := by decide +kernel
theorem dX6_kept_9 : decode cX6_kept 9 = .ok (.arraylength, 1) := by decide +kernel
theorem dX6_kept_10 : decode cX6_kept 10 = .ok (.if_icmp .ge 12, 3) := by decide +kernel
theorem dX6_kept_13 : decode cX6_kept 13 = .ok (.aload_n 0, 1) := by decide +kernel
theorem dX6_kept_14 : decode cX6_kept 14 = .ok (.getfield 19, 3) := by decide +kernel
theorem dX6_kept_17 : decode cX6_kept 17 = .ok (.iload_n 1, 1) := by decide +kernel
theorem dX6_kept_18 : decode cX6_kept 18 = .ok (.iaload, 1) := by decide +kernel
theorem dX6_kept_19 : decode cX6_kept 19 = .ok (.goto 4, 3) := by decide +kernel
theorem dX6_kept_22 : decode cX6_kept 22 = .ok (.iconst 0, 1) := by decide +kernel
theorem dX6_kept_23 : decode cX6_kept 23 = .ok (.ireturn, 1) := by decide +kernel
theorem dX6_keep_0 : decode cX6_keep 0 = .ok (.iload_n 1, 1) := by decide +kernel
theorem dX6_keep_1 : decode cX6_keep 1 = .ok (.ifCond .le 19, 3) := by decide +kernel
theorem dX6_keep_4 : decode cX6_keep 4 = .ok (.iload_n 1, 1) := by decide +kernel
theorem dX6_keep_5 : decode cX6_keep 5 = .ok (.aload_n 0, 1) := by decide +kernel
theorem dX6_keep_6 : decode cX6_keep 6 = .ok (.getfield 19, 3) := by decide +kernel
theorem dX6_keep_9 : decode cX6_keep 9 = .ok (.arraylength, 1) := by decide +kernel
theorem dX6_keep_10 : decode cX6_keep 10 = .ok (.if_icmp .ge 10, 3) := by decide +kernel
theorem dX6_keep_13 : decode cX6_keep 13 = .ok (.aload_n 0, 1) := by decide +kernel
theorem dX6_keep_14 : decode cX6_keep 14 = .ok (.getfield 19, 3) := by decide +kernel
theorem dX6_keep_17 : decode cX6_keep 17 = .ok (.iload_n 1, 1) := by decide +kernel
theorem dX6_keep_18 : decode cX6_keep 18 = .ok (.iload_n 2, 1) := by decide +kernel
theorem dX6_keep_19 : decode cX6_keep 19 = .ok (.iastore, 1) := by decide +kernel
theorem dX6_keep_20 : decode cX6_keep 20 = .ok (.return_, 1) := by decide +kernel
set_option maxRecDepth 20000 in
theorem ggX6_bestNear_X0_arc : GoodIn wsX6_bestNear wsX0_arc := goodIn_r _ [6] (by decide +kernel) (by decide +kernel)
set_option maxRecDepth 20000 in
theorem gX6_bestNear_X0_arc : GoodIn wsX6_bestNear (va_wsS RX6 69 yX0_arc wsX0_arc) := goodIn_app (goodIn_of _ (by decide +kernel)) ggX6_bestNear_X0_arc
set_option maxRecDepth 20000 in
theorem ggX6_bestNear_X0_has : GoodIn wsX6_bestNear wsX0_has := goodIn_r _ [9, 10, 4, 5, 6] (by decide +kernel) (by decide +kernel)
set_option maxRecDepth 20000 in
theorem gX6_bestNear_X0_has : GoodIn wsX6_bestNear (va_wsS RX6 72 yX0_has wsX0_has) := goodIn_app (goodIn_of _ (by decide +kernel)) ggX6_bestNear_X0_has
set_option maxRecDepth 20000 in
theorem ggX6_bestNear_X6_isOpen : GoodIn wsX6_bestNear wsX6_isOpen := goodIn_r _ [15, 1, 16, 2, 17, 18, 5, 19, 20, 21, 22, 23, 24, 25, 26, 27, 28, 29, 30, 31, 32, 33, 34, 35, 36, 37, 38, 164, 165, 166, 167, 168, 169, 170, 171, 172] (by decide +kernel) (by decide +kernel)
set_option maxRecDepth 20000 in
theorem gX6_bestNear_X6_isOpen : GoodIn wsX6_bestNear (wsV RX6 76 RX6 yX6_isOpen wsX6_isOpen) := goodIn_app (goodIn_of _ (by decide +kernel)) ggX6_bestNear_X6_isOpen
set_option maxRecDepth 20000 in
theorem ggX6_bestNear_X6_better : GoodIn wsX6_bestNear wsX6_better := goodIn_r _ [42, 43, 44, 45, 46, 47, 48, 49, 50, 51, 52, 53, 54, 55, 56, 57, 58, 59, 60, 61, 62, 21, 5, 22, 63, 64, 65, 66, 67, 68, 69, 70, 71, 72, 73, 74, 75, 76, 77, 78, 79, 80, 81, 82, 83, 84, 85, 86, 87, 88, 89, 90, 91, 92, 93, 94, 95, 96, 97, 98, 99, 100, 101, 102, 103, 104, 105, 106, 107, 108, 109, 110, 111, 112, 113, 114, 37, 38, 115, 116, 117, 118, 119, 120, 121, 122, 123, 124, 125, 126, 127, 128, 129, 130, 131, 132, 133, 134, 135, 136, 137, 138, 139, 140, 141, 142, 143, 144, 145, 146, 147, 148, 149, 150, 151, 152, 153, 154, 155, 156, 157, 158, 159, 160, 161, 162, 163, 164, 165, 166, 173, 174, 175, 176, 177, 178, 179, 180, 167, 168, 169, 170, 171, 172, 181, 182, 183, 184, 185, 186, 187] (by decide +kernel) (by decide +kernel)
set_option maxRecDepth 20000 in
theorem gX6_bestNear_X6_better : GoodIn wsX6_bestNear (wsV RX6 59 RX6 yX6_better wsX6_better) := goodIn_app (goodIn_of _ (by decide +kernel)) ggX6_bestNear_X6_better
theorem dX6_bestNear_0 : decode cX6_bestNear 0 = .ok (.iconst (-1), 1) := by decide +kernel
theorem dX6_bestNear_1 : decode cX6_bestNear 1 = .ok (.istore_n 2, 1) := by decide +kernel
theorem dX6_bestNear_2 : decode cX6_bestNear 2 = .ok (.iconst 0, 1) := by decide +kernel
theorem dX6_bestNear_3 : decode cX6_bestNear 3 = .ok (.istore_n 3, 1) := by decide +kernel
theorem dX6_bestNear_4 : decode cX6_bestNear 4 = .ok (.iload_n 3, 1) := by decide +kernel
theorem dX6_bestNear_5 : decode cX6_bestNear 5 = .ok (.aload_n 0, 1) := by decide +kernel
theorem dX6_bestNear_6 : decode cX6_bestNear 6 = .ok (.getfield 9, 3) := by decide +kernel
theorem dX6_bestNear_9 : decode cX6_bestNear 9 = .ok (.getfield 46, 3) := by decide +kernel
theorem dX6_bestNear_12 : decode cX6_bestNear 12 = .ok (.if_icmp .ge 87, 3) := by decide +kernel
theorem dX6_bestNear_15 : decode cX6_bestNear 15 = .ok (.iconst 0, 1) := by decide +kernel
theorem dX6_bestNear_16 : decode cX6_bestNear 16 = .ok (.istore 4, 2) := by decide +kernel
theorem dX6_bestNear_18 : decode cX6_bestNear 18 = .ok (.iload 4, 2) := by decide +kernel
theorem dX6_bestNear_20 : decode cX6_bestNear 20 = .ok (.aload_n 0, 1) := by decide +kernel
theorem dX6_bestNear_21 : decode cX6_bestNear 21 = .ok (.getfield 9, 3) := by decide +kernel
theorem dX6_bestNear_24 : decode cX6_bestNear 24 = .ok (.getfield 46, 3) := by decide +kernel
theorem dX6_bestNear_27 : decode cX6_bestNear 27 = .ok (.if_icmp .ge 66, 3) := by decide +kernel
theorem dX6_bestNear_30 : decode cX6_bestNear 30 = .ok (.iload_n 3, 1) := by decide +kernel
theorem dX6_bestNear_31 : decode cX6_bestNear 31 = .ok (.iload 4, 2) := by decide +kernel
theorem dX6_bestNear_33 : decode cX6_bestNear 33 = .ok (.if_icmp .ne 6, 3) := by decide +kernel
theorem dX6_bestNear_36 : decode cX6_bestNear 36 = .ok (.goto 51, 3) := by decide +kernel
theorem dX6_bestNear_39 : decode cX6_bestNear 39 = .ok (.iload_n 1, 1) := by decide +kernel
theorem dX6_bestNear_40 : decode cX6_bestNear 40 = .ok (.iload_n 3, 1) := by decide +kernel
theorem dX6_bestNear_41 : decode cX6_bestNear 41 = .ok (.iload 4, 2) := by decide +kernel
theorem dX6_bestNear_43 : decode cX6_bestNear 43 = .ok (.invokestatic 69, 3) := by decide +kernel
theorem dX6_bestNear_46 : decode cX6_bestNear 46 = .ok (.ixor, 1) := by decide +kernel
theorem dX6_bestNear_47 : decode cX6_bestNear 47 = .ok (.istore 5, 2) := by decide +kernel
theorem dX6_bestNear_49 : decode cX6_bestNear 49 = .ok (.iload_n 1, 1) := by decide +kernel
theorem dX6_bestNear_50 : decode cX6_bestNear 50 = .ok (.iload 4, 2) := by decide +kernel
theorem dX6_bestNear_52 : decode cX6_bestNear 52 = .ok (.iload_n 3, 1) := by decide +kernel
theorem dX6_bestNear_53 : decode cX6_bestNear 53 = .ok (.invokestatic 72, 3) := by decide +kernel
theorem dX6_bestNear_56 : decode cX6_bestNear 56 = .ok (.ifCond .eq 14, 3) := by decide +kernel
theorem dX6_bestNear_59 : decode cX6_bestNear 59 = .ok (.iload 5, 2) := by decide +kernel
theorem dX6_bestNear_61 : decode cX6_bestNear 61 = .ok (.iload 4, 2) := by decide +kernel
theorem dX6_bestNear_63 : decode cX6_bestNear 63 = .ok (.iload_n 3, 1) := by decide +kernel
theorem dX6_bestNear_64 : decode cX6_bestNear 64 = .ok (.invokestatic 69, 3) := by decide +kernel
theorem dX6_bestNear_67 : decode cX6_bestNear 67 = .ok (.ixor, 1) := by decide +kernel
theorem dX6_bestNear_68 : decode cX6_bestNear 68 = .ok (.istore 5, 2) := by decide +kernel
theorem dX6_bestNear_70 : decode cX6_bestNear 70 = .ok (.aload_n 0, 1) := by decide +kernel
theorem dX6_bestNear_71 : decode cX6_bestNear 71 = .ok (.iload 5, 2) := by decide +kernel
theorem dX6_bestNear_73 : decode cX6_bestNear 73 = .ok (.invokevirtual 76, 3) := by decide +kernel
theorem dX6_bestNear_76 : decode cX6_bestNear 76 = .ok (.ifCond .eq 11, 3) := by decide +kernel
theorem dX6_bestNear_79 : decode cX6_bestNear 79 = .ok (.aload_n 0, 1) := by decide +kernel
theorem dX6_bestNear_80 : decode cX6_bestNear 80 = .ok (.iload 5, 2) := by decide +kernel
theorem dX6_bestNear_82 : decode cX6_bestNear 82 = .ok (.iload_n 2, 1) := by decide +kernel
theorem dX6_bestNear_83 : decode cX6_bestNear 83 = .ok (.invokevirtual 59, 3) := by decide +kernel
theorem dX6_bestNear_86 : decode cX6_bestNear 86 = .ok (.istore_n 2, 1) := by decide +kernel
theorem dX6_bestNear_87 : decode cX6_bestNear 87 = .ok (.iinc 4 1, 3) := by decide +kernel
theorem dX6_bestNear_90 : decode cX6_bestNear 90 = .ok (.goto (-72), 3) := by decide +kernel
theorem dX6_bestNear_93 : decode cX6_bestNear 93 = .ok (.iinc 3 1, 3) := by decide +kernel
theorem dX6_bestNear_96 : decode cX6_bestNear 96 = .ok (.goto (-92), 3) := by decide +kernel
theorem dX6_bestNear_99 : decode cX6_bestNear 99 = .ok (.iload_n 2, 1) := by decide +kernel
theorem dX6_bestNear_100 : decode cX6_bestNear 100 = .ok (.ireturn, 1) := by decide +kernel
set_option maxRecDepth 20000 in
theorem ggX6_isOpen_X0_areBounded : GoodIn wsX6_isOpen wsX0_areBounded := goodIn_r _ [7, 8, 9, 6, 10, 11, 12, 13, 14, 15, 16, 17] (by decide +kernel) (by decide +kernel)
set_option maxRecDepth 20000 in
theorem gX6_isOpen_X0_areBounded : GoodIn wsX6_isOpen (va_wsS RX6 80 yX0_areBounded wsX0_areBounded) := goodIn_app (goodIn_of _ (by decide +kernel)) ggX6_isOpen_X0_areBounded
set_option maxRecDepth 20000 in
theorem ggX6_isOpen_X0_haveNoRound : GoodIn wsX6_isOpen wsX0_haveNoRound := goodIn_r _ [20, 21, 22, 6, 23, 24, 25, 26, 8, 9, 10] (by decide +kernel) (by decide +kernel)
set_option maxRecDepth 20000 in
theorem gX6_isOpen_X0_haveNoRound : GoodIn wsX6_isOpen (va_wsS RX6 83 yX0_haveNoRound wsX0_haveNoRound) := goodIn_app (goodIn_of _ (by decide +kernel)) ggX6_isOpen_X0_haveNoRound
theorem dX6_isOpen_0 : decode cX6_isOpen 0 = .ok (.iload_n 1, 1) := by decide +kernel
theorem dX6_isOpen_1 : decode cX6_isOpen 1 = .ok (.aload_n 0, 1) := by decide +kernel
theorem dX6_isOpen_2 : decode cX6_isOpen 2 = .ok (.getfield 9, 3) := by decide +kernel
theorem dX6_isOpen_5 : decode cX6_isOpen 5 = .ok (.getfield 29, 3) := by decide +kernel
theorem dX6_isOpen_8 : decode cX6_isOpen 8 = .ok (.invokestatic 80, 3) := by decide +kernel
theorem dX6_isOpen_11 : decode cX6_isOpen 11 = .ok (.ifCond .eq 21, 3) := by decide +kernel
theorem dX6_isOpen_14 : decode cX6_isOpen 14 = .ok (.iload_n 1, 1) := by decide +kernel
theorem dX6_isOpen_15 : decode cX6_isOpen 15 = .ok (.aload_n 0, 1) := by decide +kernel
theorem dX6_isOpen_16 : decode cX6_isOpen 16 = .ok (.getfield 9, 3) := by decide +kernel
theorem dX6_isOpen_19 : decode cX6_isOpen 19 = .ok (.getfield 46, 3) := by decide +kernel
theorem dX6_isOpen_22 : decode cX6_isOpen 22 = .ok (.invokestatic 83, 3) := by decide +kernel
theorem dX6_isOpen_25 : decode cX6_isOpen 25 = .ok (.ifCond .eq 7, 3) := by decide +kernel
theorem dX6_isOpen_28 : decode cX6_isOpen 28 = .ok (.iconst 1, 1) := by decide +kernel
theorem dX6_isOpen_29 : decode cX6_isOpen 29 = .ok (.goto 4, 3) := by decide +kernel
theorem dX6_isOpen_32 : decode cX6_isOpen 32 = .ok (.iconst 0, 1) := by decide +kernel
theorem dX6_isOpen_33 : decode cX6_isOpen 33 = .ok (.ireturn, 1) := by decide +kernel
set_option maxRecDepth 20000 in
theorem ggX6_better_X2_weigh : GoodIn wsX6_better wsX2_weigh := goodIn_r _ [6, 7, 8, 9, 10, 11, 12, 13, 14, 15, 16, 17, 18, 19, 20, 21, 22, 23, 24, 25, 26, 5, 27, 28, 29, 30, 31, 32, 33, 34, 35, 36, 37, 38, 39, 40, 41, 42, 43, 44, 45, 46, 47, 48, 49, 50, 51, 52, 53, 54, 55, 56, 57, 58, 59, 60, 61, 62, 63, 64, 65, 66, 67, 68, 69, 70, 71, 72, 73, 74, 75, 76, 77, 78, 79, 80, 81, 82, 83, 84, 85, 86, 87, 88, 89, 90, 91, 92, 93, 94, 95, 96, 97, 98, 99, 100, 101, 102, 103, 104, 105, 106, 107, 108, 109, 110, 111, 112, 113, 114, 115, 116, 117, 118, 119, 120, 121, 122, 123, 124, 125, 126, 130, 131, 132, 133, 134, 135, 136, 137, 138, 139, 140, 141, 142, 143, 144, 145, 146, 147, 148, 149, 150] (by decide +kernel) (by decide +kernel)
set_option maxRecDepth 20000 in
theorem gX6_better_X2_weigh : GoodIn wsX6_better (wsV RX6 41 RX2 yX2_weigh wsX2_weigh) := goodIn_app (goodIn_of _ (by decide +kernel)) ggX6_better_X2_weigh
theorem dX6_better_0 : decode cX6_better 0 = .ok (.iload_n 2, 1) := by decide +kernel
theorem dX6_better_1 : decode cX6_better 1 = .ok (.ifCond .ge 5, 3) := by decide +kernel
theorem dX6_better_4 : decode cX6_better 4 = .ok (.iload_n 1, 1) := by decide +kernel
theorem dX6_better_5 : decode cX6_better 5 = .ok (.ireturn, 1) := by decide +kernel
theorem dX6_better_6 : decode cX6_better 6 = .ok (.aload_n 0, 1) := by decide +kernel
theorem dX6_better_7 : decode cX6_better 7 = .ok (.getfield 15, 3) := by decide +kernel
theorem dX6_better_10 : decode cX6_better 10 = .ok (.iload_n 1, 1) := by decide +kernel
theorem dX6_better_11 : decode cX6_better 11 = .ok (.iload_n 2, 1) := by decide +kernel
theorem dX6_better_12 : decode cX6_better 12 = .ok (.invokevirtual 41, 3) := by decide +kernel
theorem dX6_better_15 : decode cX6_better 15 = .ok (.istore_n 3, 1) := by decide +kernel
theorem dX6_better_16 : decode cX6_better 16 = .ok (.iload_n 3, 1) := by decide +kernel
theorem dX6_better_17 : decode cX6_better 17 = .ok (.ifCond .gt 12, 3) := by decide +kernel
theorem dX6_better_20 : decode cX6_better 20 = .ok (.iload_n 3, 1) := by decide +kernel
theorem dX6_better_21 : decode cX6_better 21 = .ok (.ifCond .ne 12, 3) := by decide +kernel
theorem dX6_better_24 : decode cX6_better 24 = .ok (.iload_n 1, 1) := by decide +kernel
theorem dX6_better_25 : decode cX6_better 25 = .ok (.iload_n 2, 1) := by decide +kernel
theorem dX6_better_26 : decode cX6_better 26 = .ok (.if_icmp .ge 7, 3) := by decide +kernel
theorem dX6_better_29 : decode cX6_better 29 = .ok (.iload_n 1, 1) := by decide +kernel
theorem dX6_better_30 : decode cX6_better 30 = .ok (.goto 4, 3) := by decide +kernel
theorem dX6_better_33 : decode cX6_better 33 = .ok (.iload_n 2, 1) := by decide +kernel
theorem dX6_better_34 : decode cX6_better 34 = .ok (.ireturn, 1) := by decide +kernel
set_option maxRecDepth 20000 in
theorem ggX7_init_X5_init : GoodIn wsX7_init wsX5_init := goodIn_r _ [27, 28, 2, 3, 29, 30, 31, 68, 69] (by decide +kernel) (by decide +kernel)
set_option maxRecDepth 20000 in
theorem gX7_init_X5_init : GoodIn wsX7_init (wsX5_init) := ggX7_init_X5_init
set_option maxRecDepth 20000 in
theorem ggX7_init_X0_isIn : GoodIn wsX7_init wsX0_isIn := goodIn_r _ [35] (by decide +kernel) (by decide +kernel)
set_option maxRecDepth 20000 in
theorem gX7_init_X0_isIn : GoodIn wsX7_init (va_wsS RX7 31 yX0_isIn wsX0_isIn) := goodIn_app (goodIn_of _ (by decide +kernel)) ggX7_init_X0_isIn
set_option maxRecDepth 20000 in
theorem ggX7_init_X1_init : GoodIn wsX7_init wsX1_init := goodIn_r _ [38, 39, 2, 3, 40, 41, 42, 43, 44, 45, 46, 70, 71] (by decide +kernel) (by decide +kernel)
set_option maxRecDepth 20000 in
theorem gX7_init_X1_init : GoodIn wsX7_init (wsX1_init) := ggX7_init_X1_init
set_option maxRecDepth 20000 in
theorem ggX7_init_X3_init : GoodIn wsX7_init wsX3_init := goodIn_r _ [49, 50, 2, 3, 51, 12, 13, 52, 53, 54, 55, 37, 38, 39, 40, 41, 42, 43, 44, 45, 46, 70, 71, 72, 73, 74] (by decide +kernel) (by decide +kernel)
set_option maxRecDepth 20000 in
theorem gX7_init_X3_init : GoodIn wsX7_init (wsX3_init) := ggX7_init_X3_init
theorem dX7_init_0 : decode cX7_init 0 = .ok (.aload_n 0, 1) := by decide +kernel
theorem dX7_init_1 : decode cX7_init 1 = .ok (.invokespecial 5, 3) := by decide +kernel
theorem dX7_init_4 : decode cX7_init 4 = .ok (.aload_n 0, 1) := by decide +kernel
theorem dX7_init_5 : decode cX7_init 5 = .ok (.aload_n 1, 1) := by decide +kernel
theorem dX7_init_6 : decode cX7_init 6 = .ok (.putfield 11, 3) := by decide +kernel
theorem dX7_init_9 : decode cX7_init 9 = .ok (.aload_n 0, 1) := by decide +kernel
theorem dX7_init_10 : decode cX7_init 10 = .ok (.aload_n 2, 1) := by decide +kernel
theorem dX7_init_11 : decode cX7_init 11 = .ok (.putfield 15, 3) := by decide +kernel
theorem dX7_init_14 : decode cX7_init 14 = .ok (.aload_n 0, 1) := by decide +kernel
theorem dX7_init_15 : decode cX7_init 15 = .ok (.new 19, 3) := by decide +kernel
theorem dX7_init_18 : decode cX7_init 18 = .ok (.dup, 1) := by decide +kernel
theorem dX7_init_19 : decode cX7_init 19 = .ok (.invokespecial 21, 3) := by decide +kernel
theorem dX7_init_22 : decode cX7_init 22 = .ok (.putfield 22, 3) := by decide +kernel
theorem dX7_init_25 : decode cX7_init 25 = .ok (.aload_n 0, 1) := by decide +kernel
theorem dX7_init_26 : decode cX7_init 26 = .ok (.bipush 64, 2) := by decide +kernel
theorem dX7_init_28 : decode cX7_init 28 = .ok (.anewarray 25, 3) := by decide +kernel
theorem dX7_init_31 : decode cX7_init 31 = .ok (.putfield 27, 3) := by decide +kernel
theorem dX7_init_34 : decode cX7_init 34 = .ok (.iconst 0, 1) := by decide +kernel
theorem dX7_init_35 : decode cX7_init 35 = .ok (.istore_n 3, 1) := by decide +kernel
theorem dX7_init_36 : decode cX7_init 36 = .ok (.iload_n 3, 1) := by decide +kernel
theorem dX7_init_37 : decode cX7_init 37 = .ok (.aload_n 0, 1) := by decide +kernel
theorem dX7_init_38 : decode cX7_init 38 = .ok (.getfield 27, 3) := by decide +kernel
theorem dX7_init_41 : decode cX7_init 41 = .ok (.arraylength, 1) := by decide +kernel
theorem dX7_init_42 : decode cX7_init 42 = .ok (.if_icmp .ge 38, 3) := by decide +kernel
theorem dX7_init_45 : decode cX7_init 45 = .ok (.iload_n 3, 1) := by decide +kernel
theorem dX7_init_46 : decode cX7_init 46 = .ok (.bipush 16, 2) := by decide +kernel
theorem dX7_init_48 : decode cX7_init 48 = .ok (.irem, 1) := by decide +kernel
theorem dX7_init_49 : decode cX7_init 49 = .ok (.iload_n 3, 1) := by decide +kernel
theorem dX7_init_50 : decode cX7_init 50 = .ok (.bipush 16, 2) := by decide +kernel
theorem dX7_init_52 : decode cX7_init 52 = .ok (.idiv, 1) := by decide +kernel
theorem dX7_init_53 : decode cX7_init 53 = .ok (.invokestatic 31, 3) := by decide +kernel
theorem dX7_init_56 : decode cX7_init 56 = .ok (.ifCond .ne 18, 3) := by decide +kernel
theorem dX7_init_59 : decode cX7_init 59 = .ok (.aload_n 0, 1) := by decide +kernel
theorem dX7_init_60 : decode cX7_init 60 = .ok (.getfield 27, 3) := by decide +kernel
theorem dX7_init_63 : decode cX7_init 63 = .ok (.iload_n 3, 1) := by decide +kernel
theorem dX7_init_64 : decode cX7_init 64 = .ok (.new 25, 3) := by decide +kernel
theorem dX7_init_67 : decode cX7_init 67 = .ok (.dup, 1) := by decide +kernel
theorem dX7_init_68 : decode cX7_init 68 = .ok (.bipush 42, 2) := by decide +kernel
theorem dX7_init_70 : decode cX7_init 70 = .ok (.invokespecial 37, 3) := by decide +kernel
theorem dX7_init_73 : decode cX7_init 73 = .ok (.aastore, 1) := by decide +kernel
theorem dX7_init_74 : decode cX7_init 74 = .ok (.iinc 3 1, 3) := by decide +kernel
theorem dX7_init_77 : decode cX7_init 77 = .ok (.goto (-41), 3) := by decide +kernel
theorem dX7_init_80 : decode cX7_init 80 = .ok (.aload_n 0, 1) := by decide +kernel
theorem dX7_init_81 : decode cX7_init 81 = .ok (.bipush 16, 2) := by decide +kernel
theorem dX7_init_83 : decode cX7_init 83 = .ok (.anewarray 25, 3) := by decide +kernel
theorem dX7_init_86 : decode cX7_init 86 = .ok (.putfield 40, 3) := by decide +kernel
theorem dX7_init_89 : decode cX7_init 89 = .ok (.iconst 0, 1) := by decide +kernel
theorem dX7_init_90 : decode cX7_init 90 = .ok (.istore_n 3, 1) := by decide +kernel
theorem dX7_init_91 : decode cX7_init 91 = .ok (.iload_n 3, 1) := by decide +kernel
theorem dX7_init_92 : decode cX7_init 92 = .ok (.aload_n 0, 1) := by decide +kernel
theorem dX7_init_93 : decode cX7_init 93 = .ok (.getfield 40, 3) := by decide +kernel
theorem dX7_init_96 : decode cX7_init 96 = .ok (.arraylength, 1) := by decide +kernel
theorem dX7_init_97 : decode cX7_init 97 = .ok (.if_icmp .ge 25, 3) := by decide +kernel
theorem dX7_init_100 : decode cX7_init 100 = .ok (.aload_n 0, 1) := by decide +kernel
theorem dX7_init_101 : decode cX7_init 101 = .ok (.getfield 40, 3) := by decide +kernel
theorem dX7_init_104 : decode cX7_init 104 = .ok (.iload_n 3, 1) := by decide +kernel
theorem dX7_init_105 : decode cX7_init 105 = .ok (.new 25, 3) := by decide +kernel
theorem dX7_init_108 : decode cX7_init 108 = .ok (.dup, 1) := by decide +kernel
theorem dX7_init_109 : decode cX7_init 109 = .ok (.sipush 168, 3) := by decide +kernel
theorem dX7_init_112 : decode cX7_init 112 = .ok (.invokespecial 37, 3) := by decide +kernel
theorem dX7_init_115 : decode cX7_init 115 = .ok (.aastore, 1) := by decide +kernel
theorem dX7_init_116 : decode cX7_init 116 = .ok (.iinc 3 1, 3) := by decide +kernel
theorem dX7_init_119 : decode cX7_init 119 = .ok (.goto (-28), 3) := by decide +kernel
theorem dX7_init_122 : decode cX7_init 122 = .ok (.aload_n 0, 1) := by decide +kernel
theorem dX7_init_123 : decode cX7_init 123 = .ok (.new 25, 3) := by decide +kernel
theorem dX7_init_126 : decode cX7_init 126 = .ok (.dup, 1) := by decide +kernel
theorem dX7_init_127 : decode cX7_init 127 = .ok (.iconst 1, 1) := by decide +kernel
theorem dX7_init_128 : decode cX7_init 128 = .ok (.invokespecial 37, 3) := by decide +kernel
theorem dX7_init_131 : decode cX7_init 131 = .ok (.putfield 43, 3) := by decide +kernel
theorem dX7_init_134 : decode cX7_init 134 = .ok (.aload_n 0, 1) := by decide +kernel
theorem dX7_init_135 : decode cX7_init 135 = .ok (.new 25, 3) := by decide +kernel
theorem dX7_init_138 : decode cX7_init 138 = .ok (.dup, 1) := by decide +kernel
theorem dX7_init_139 : decode cX7_init 139 = .ok (.sipush 168, 3) := by decide +kernel
theorem dX7_init_142 : decode cX7_init 142 = .ok (.invokespecial 37, 3) := by decide +kernel
theorem dX7_init_145 : decode cX7_init 145 = .ok (.putfield 47, 3) := by decide +kernel
theorem dX7_init_148 : decode cX7_init 148 = .ok (.aload_n 0, 1) := by decide +kernel
theorem dX7_init_149 : decode cX7_init 149 = .ok (.new 25, 3) := by decide +kernel
theorem dX7_init_152 : decode cX7_init 152 = .ok (.dup, 1) := by decide +kernel
theorem dX7_init_153 : decode cX7_init 153 = .ok (.sipush 168, 3) := by decide +kernel
theorem dX7_init_156 : decode cX7_init 156 = .ok (.invokespecial 37, 3) := by decide +kernel
theorem dX7_init_159 : decode cX7_init 159 = .ok (.putfield 50, 3) := by decide +kernel
theorem dX7_init_162 : decode cX7_init 162 = .ok (.aload_n 0, 1) := by decide +kernel
theorem dX7_init_163 : decode cX7_init 163 = .ok (.new 25, 3) := by decide +kernel
theorem dX7_init_166 : decode cX7_init 166 = .ok (.dup, 1) := by decide +kernel
theorem dX7_init_167 : decode cX7_init 167 = .ok (.sipush 168, 3) := by decide +kernel
theorem dX7_init_170 : decode cX7_init 170 = .ok (.invokespecial 37, 3) := by decide +kernel
theorem dX7_init_173 : decode cX7_init 173 = .ok (.putfield 53, 3) := by decide +kernel
theorem dX7_init_176 : decode cX7_init 176 = .ok (.aload_n 0, 1) := by decide +kernel
theorem dX7_init_177 : decode cX7_init 177 = .ok (.new 56, 3) := by decide +kernel
theorem dX7_init_180 : decode cX7_init 180 = .ok (.dup, 1) := by decide +kernel
theorem dX7_init_181 : decode cX7_init 181 = .ok (.sipush 168, 3) := by decide +kernel
theorem dX7_init_184 : decode cX7_init 184 = .ok (.invokespecial 58, 3) := by decide +kernel
theorem dX7_init_187 : decode cX7_init 187 = .ok (.putfield 59, 3) := by decide +kernel
theorem dX7_init_190 : decode cX7_init 190 = .ok (.aload_n 0, 1) := by decide +kernel
theorem dX7_init_191 : decode cX7_init 191 = .ok (.iconst 0, 1) := by decide +kernel
theorem dX7_init_192 : decode cX7_init 192 = .ok (.putfield 63, 3) := by decide +kernel
theorem dX7_init_195 : decode cX7_init 195 = .ok (.aload_n 0, 1) := by decide +kernel
theorem dX7_init_196 : decode cX7_init 196 = .ok (.iconst 0, 1) := by decide +kernel
theorem dX7_init_197 : decode cX7_init 197 = .ok (.putfield 67, 3) := by decide +kernel
theorem dX7_init_200 : decode cX7_init 200 = .ok (.return_, 1) := by decide +kernel
theorem dX7_forget_0 : decode cX7_forget 0 = .ok (.aload_n 0, 1) := by decide +kernel
theorem dX7_forget_1 : decode cX7_forget 1 = .ok (.getfield 59, 3) := by decide +kernel
theorem dX7_forget_4 : decode cX7_forget 4 = .ok (.iconst 0, 1) := by decide +kernel
theorem dX7_forget_5 : decode cX7_forget 5 = .ok (.putfield 70, 3) := by decide +kernel
theorem dX7_forget_8 : decode cX7_forget 8 = .ok (.return_, 1) := by decide +kernel
set_option maxRecDepth 20000 in
theorem ggX7_of_X7_weigh : GoodIn wsX7_of wsX7_weigh := goodIn_r _ [13, 5, 6, 14, 15, 16, 17, 18, 12, 19, 20, 21, 22, 23, 24, 25, 26, 27, 28, 29, 30, 31, 32, 33, 34, 35, 36, 37, 38, 39, 40, 41, 42, 43, 44, 45, 46, 47, 48, 49, 50, 51, 52, 53, 54, 55, 56, 57, 58, 59, 60, 61, 62, 63, 64, 65, 66, 67, 68, 69, 70, 71, 72, 73, 74, 75, 76, 77, 78, 79, 80, 81, 82, 83, 84, 85, 86, 87, 88, 89, 90, 91, 92, 93, 94, 95, 96, 97, 98, 99, 100, 101, 102, 103, 104, 105, 106, 107, 108, 109, 110, 111, 112, 113, 114, 115, 116, 117, 118, 119, 120, 121, 122, 123, 124, 125, 126, 127, 128, 224, 225, 226, 227, 228, 229, 230, 231, 232, 233, 234, 235, 239, 240, 241, 242, 243, 244, 245, 246, 247, 248] (by decide +kernel) (by decide +kernel)
set_option maxRecDepth 20000 in
theorem gX7_of_X7_weigh : GoodIn wsX7_of (wsV RX7 79 RX7 yX7_weigh wsX7_weigh) := goodIn_app (goodIn_of _ (by decide +kernel)) ggX7_of_X7_weigh
set_option maxRecDepth 20000 in
theorem ggX7_of_X7_sumGraphs : GoodIn wsX7_of wsX7_sumGraphs := goodIn_r _ [132, 5, 6, 133, 134, 135, 12, 136, 137, 138, 139, 140, 141, 142, 84, 85, 86, 87, 88, 89, 90, 91, 25, 26, 27, 28, 29, 30, 31, 143, 144, 145, 146, 147, 148, 149, 150, 106, 77, 65, 78, 151, 152, 153, 154, 21, 22, 23, 24, 79, 80, 81, 82, 83, 155, 156, 157, 158, 117, 118, 119, 120, 116, 64, 66, 121, 122, 123, 124, 107, 125, 126, 127, 128, 112, 113, 114, 115, 159, 160, 161, 162, 163, 164, 165, 166, 224, 225, 226, 227, 228, 229, 230, 231, 232, 233, 234, 235, 239, 240, 241, 242, 243, 244, 247, 248] (by decide +kernel) (by decide +kernel)
set_option maxRecDepth 20000 in
theorem gX7_of_X7_sumGraphs : GoodIn wsX7_of (wsV RX7 82 RX7 yX7_sumGraphs wsX7_sumGraphs) := goodIn_app (goodIn_of _ (by decide +kernel)) ggX7_of_X7_sumGraphs
set_option maxRecDepth 20000 in
theorem ggX7_of_X7_sum : GoodIn wsX7_of wsX7_sum := goodIn_r _ [141, 142, 84, 224, 225, 226, 227, 228, 229, 230, 231, 232, 233, 234, 235] (by decide +kernel) (by decide +kernel)
set_option maxRecDepth 20000 in
theorem gX7_of_X7_sum : GoodIn wsX7_of (wsV RX7 88 RX7 yX7_sum wsX7_sum) := goodIn_app (goodIn_of _ (by decide +kernel)) ggX7_of_X7_sum
set_option maxRecDepth 20000 in
theorem ggX7_of_X1_copy : GoodIn wsX7_of wsX1_copy := goodIn_r _ [150, 90, 91, 106, 77, 65, 78, 151, 152, 153, 154, 247, 248] (by decide +kernel) (by decide +kernel)
set_option maxRecDepth 20000 in
theorem gX7_of_X1_copy : GoodIn wsX7_of (wsV RX7 92 RX1 yX1_copy wsX1_copy) := goodIn_app (goodIn_of _ (by decide +kernel)) ggX7_of_X1_copy
set_option maxRecDepth 20000 in
theorem ggX7_of_X7_keepArc : GoodIn wsX7_of wsX7_keepArc := goodIn_r _ [170, 5, 6, 21, 22, 23, 24, 79, 80, 81, 12, 82, 83, 84, 159, 160, 161, 88, 162, 163, 164, 165, 166, 90, 91, 106, 77, 65, 78, 107, 125, 126, 127, 128, 85, 86, 87, 89, 224, 225, 226, 227, 228, 229, 230, 231, 232, 233, 234, 235, 239, 240, 241, 242, 243, 244, 247, 248] (by decide +kernel) (by decide +kernel)
set_option maxRecDepth 20000 in
theorem gX7_of_X7_keepArc : GoodIn wsX7_of (wsV RX7 96 RX7 yX7_keepArc wsX7_keepArc) := goodIn_app (goodIn_of _ (by decide +kernel)) ggX7_of_X7_keepArc
set_option maxRecDepth 20000 in
theorem ggX7_of_X7_lower : GoodIn wsX7_of wsX7_lower := goodIn_r _ [174, 137, 1, 7, 175, 8, 176, 147, 148, 149, 88, 150, 90, 91, 106, 77, 65, 78, 151, 152, 153, 154, 177, 178, 179, 180, 181, 182, 183, 184, 116, 64, 66, 185, 186, 187, 107, 188, 189, 190, 191, 192, 193, 194, 195, 196, 197, 198, 199, 200, 201, 202, 203, 204, 27, 205, 206, 207, 208, 209, 210, 211, 212, 213, 214, 163, 164, 165, 166, 125, 126, 127, 128, 215, 216, 217, 218, 117, 118, 119, 120, 219, 220, 221, 12, 222, 85, 86, 87, 89, 223, 224, 225, 226, 227, 228, 229, 230, 231, 232, 233, 234, 235, 236, 237, 238, 247, 248] (by decide +kernel) (by decide +kernel)
set_option maxRecDepth 20000 in
theorem gX7_of_X7_lower : GoodIn wsX7_of (wsV RX7 103 RX7 yX7_lower wsX7_lower) := goodIn_app (goodIn_of _ (by decide +kernel)) ggX7_of_X7_lower
theorem dX7_of_0 : decode cX7_of 0 = .ok (.aload_n 0, 1) := by decide +kernel
theorem dX7_of_1 : decode cX7_of 1 = .ok (.getfield 59, 3) := by decide +kernel
theorem dX7_of_4 : decode cX7_of 4 = .ok (.getfield 70, 3) := by decide +kernel
theorem dX7_of_7 : decode cX7_of 7 = .ok (.ifCond .eq 24, 3) := by decide +kernel
theorem dX7_of_10 : decode cX7_of 10 = .ok (.aload_n 0, 1) := by decide +kernel
theorem dX7_of_11 : decode cX7_of 11 = .ok (.getfield 63, 3) := by decide +kernel
theorem dX7_of_14 : decode cX7_of 14 = .ok (.iload_n 1, 1) := by decide +kernel
theorem dX7_of_15 : decode cX7_of 15 = .ok (.if_icmp .ne 16, 3) := by decide +kernel
theorem dX7_of_18 : decode cX7_of 18 = .ok (.aload_n 0, 1) := by decide +kernel
theorem dX7_of_19 : decode cX7_of 19 = .ok (.getfield 67, 3) := by decide +kernel
theorem dX7_of_22 : decode cX7_of 22 = .ok (.iload_n 2, 1) := by decide +kernel
theorem dX7_of_23 : decode cX7_of 23 = .ok (.if_icmp .ne 8, 3) := by decide +kernel
theorem dX7_of_26 : decode cX7_of 26 = .ok (.aload_n 0, 1) := by decide +kernel
theorem dX7_of_27 : decode cX7_of 27 = .ok (.getfield 59, 3) := by decide +kernel
theorem dX7_of_30 : decode cX7_of 30 = .ok (.areturn, 1) := by decide +kernel
theorem dX7_of_31 : decode cX7_of 31 = .ok (.iconst 1, 1) := by decide +kernel
theorem dX7_of_32 : decode cX7_of 32 = .ok (.aload_n 0, 1) := by decide +kernel
theorem dX7_of_33 : decode cX7_of 33 = .ok (.getfield 11, 3) := by decide +kernel
theorem dX7_of_36 : decode cX7_of 36 = .ok (.getfield 74, 3) := by decide +kernel
theorem dX7_of_39 : decode cX7_of 39 = .ok (.ishl, 1) := by decide +kernel
theorem dX7_of_40 : decode cX7_of 40 = .ok (.iconst 1, 1) := by decide +kernel
theorem dX7_of_41 : decode cX7_of 41 = .ok (.isub, 1) := by decide +kernel
theorem dX7_of_42 : decode cX7_of 42 = .ok (.istore_n 3, 1) := by decide +kernel
theorem dX7_of_43 : decode cX7_of 43 = .ok (.iconst 0, 1) := by decide +kernel
theorem dX7_of_44 : decode cX7_of 44 = .ok (.istore 4, 2) := by decide +kernel
theorem dX7_of_46 : decode cX7_of 46 = .ok (.iload 4, 2) := by decide +kernel
theorem dX7_of_48 : decode cX7_of 48 = .ok (.aload_n 0, 1) := by decide +kernel
theorem dX7_of_49 : decode cX7_of 49 = .ok (.getfield 11, 3) := by decide +kernel
theorem dX7_of_52 : decode cX7_of 52 = .ok (.getfield 74, 3) := by decide +kernel
theorem dX7_of_55 : decode cX7_of 55 = .ok (.if_icmp .ge 15, 3) := by decide +kernel
theorem dX7_of_58 : decode cX7_of 58 = .ok (.aload_n 0, 1) := by decide +kernel
theorem dX7_of_59 : decode cX7_of 59 = .ok (.iload 4, 2) := by decide +kernel
theorem dX7_of_61 : decode cX7_of 61 = .ok (.invokevirtual 79, 3) := by decide +kernel
theorem dX7_of_64 : decode cX7_of 64 = .ok (.iinc 4 1, 3) := by decide +kernel
theorem dX7_of_67 : decode cX7_of 67 = .ok (.goto (-21), 3) := by decide +kernel
theorem dX7_of_70 : decode cX7_of 70 = .ok (.aload_n 0, 1) := by decide +kernel
theorem dX7_of_71 : decode cX7_of 71 = .ok (.iconst 0, 1) := by decide +kernel
theorem dX7_of_72 : decode cX7_of 72 = .ok (.invokevirtual 82, 3) := by decide +kernel
theorem dX7_of_75 : decode cX7_of 75 = .ok (.aload_n 0, 1) := by decide +kernel
theorem dX7_of_76 : decode cX7_of 76 = .ok (.getfield 59, 3) := by decide +kernel
theorem dX7_of_79 : decode cX7_of 79 = .ok (.getfield 85, 3) := by decide +kernel
theorem dX7_of_82 : decode cX7_of 82 = .ok (.aload_n 0, 1) := by decide +kernel
theorem dX7_of_83 : decode cX7_of 83 = .ok (.iload_n 3, 1) := by decide +kernel
theorem dX7_of_84 : decode cX7_of 84 = .ok (.invokevirtual 88, 3) := by decide +kernel
theorem dX7_of_87 : decode cX7_of 87 = .ok (.invokevirtual 92, 3) := by decide +kernel
theorem dX7_of_90 : decode cX7_of 90 = .ok (.aload_n 0, 1) := by decide +kernel
theorem dX7_of_91 : decode cX7_of 91 = .ok (.iload_n 1, 1) := by decide +kernel
theorem dX7_of_92 : decode cX7_of 92 = .ok (.iload_n 2, 1) := by decide +kernel
theorem dX7_of_93 : decode cX7_of 93 = .ok (.invokevirtual 96, 3) := by decide +kernel
theorem dX7_of_96 : decode cX7_of 96 = .ok (.aload_n 0, 1) := by decide +kernel
theorem dX7_of_97 : decode cX7_of 97 = .ok (.iconst 1, 1) := by decide +kernel
theorem dX7_of_98 : decode cX7_of 98 = .ok (.iload_n 2, 1) := by decide +kernel
theorem dX7_of_99 : decode cX7_of 99 = .ok (.ishl, 1) := by decide +kernel
theorem dX7_of_100 : decode cX7_of 100 = .ok (.invokevirtual 82, 3) := by decide +kernel
theorem dX7_of_103 : decode cX7_of 103 = .ok (.aload_n 0, 1) := by decide +kernel
theorem dX7_of_104 : decode cX7_of 104 = .ok (.getfield 59, 3) := by decide +kernel
theorem dX7_of_107 : decode cX7_of 107 = .ok (.getfield 100, 3) := by decide +kernel
theorem dX7_of_110 : decode cX7_of 110 = .ok (.aload_n 0, 1) := by decide +kernel
theorem dX7_of_111 : decode cX7_of 111 = .ok (.iload_n 3, 1) := by decide +kernel
theorem dX7_of_112 : decode cX7_of 112 = .ok (.invokevirtual 88, 3) := by decide +kernel
theorem dX7_of_115 : decode cX7_of 115 = .ok (.invokevirtual 92, 3) := by decide +kernel
theorem dX7_of_118 : decode cX7_of 118 = .ok (.aload_n 0, 1) := by decide +kernel
theorem dX7_of_119 : decode cX7_of 119 = .ok (.invokevirtual 103, 3) := by decide +kernel
theorem dX7_of_122 : decode cX7_of 122 = .ok (.aload_n 0, 1) := by decide +kernel
theorem dX7_of_123 : decode cX7_of 123 = .ok (.iload_n 1, 1) := by decide +kernel
theorem dX7_of_124 : decode cX7_of 124 = .ok (.putfield 63, 3) := by decide +kernel
theorem dX7_of_127 : decode cX7_of 127 = .ok (.aload_n 0, 1) := by decide +kernel
theorem dX7_of_128 : decode cX7_of 128 = .ok (.iload_n 2, 1) := by decide +kernel
theorem dX7_of_129 : decode cX7_of 129 = .ok (.putfield 67, 3) := by decide +kernel
theorem dX7_of_132 : decode cX7_of 132 = .ok (.aload_n 0, 1) := by decide +kernel
theorem dX7_of_133 : decode cX7_of 133 = .ok (.getfield 59, 3) := by decide +kernel
theorem dX7_of_136 : decode cX7_of 136 = .ok (.iconst 1, 1) := by decide +kernel
theorem dX7_of_137 : decode cX7_of 137 = .ok (.putfield 70, 3) := by decide +kernel
theorem dX7_of_140 : decode cX7_of 140 = .ok (.aload_n 0, 1) := by decide +kernel
theorem dX7_of_141 : decode cX7_of 141 = .ok (.getfield 59, 3) := by decide +kernel
theorem dX7_of_144 : decode cX7_of 144 = .ok (.areturn, 1) := by decide +kernel
set_option maxRecDepth 20000 in
theorem ggX7_weigh_X7_isOpen : GoodIn wsX7_weigh wsX7_isOpen := goodIn_r _ [9, 1, 10, 11, 12, 13, 14, 15, 16, 17, 18, 19, 20, 21, 119, 120, 121, 122, 123, 124, 125, 126, 127, 128, 129, 130, 131, 132, 133, 134, 135, 136] (by decide +kernel) (by decide +kernel)
set_option maxRecDepth 20000 in
theorem gX7_weigh_X7_isOpen : GoodIn wsX7_weigh (wsV RX7 106 RX7 yX7_isOpen wsX7_isOpen) := goodIn_app (goodIn_of _ (by decide +kernel)) ggX7_weigh_X7_isOpen
set_option maxRecDepth 20000 in
theorem ggX7_weigh_X5_forget : GoodIn wsX7_weigh wsX5_forget := goodIn_r _ [26, 27, 28, 137, 138] (by decide +kernel) (by decide +kernel)
set_option maxRecDepth 20000 in
theorem gX7_weigh_X5_forget : GoodIn wsX7_weigh (wsV RX7 109 RX5 yX5_forget wsX5_forget) := goodIn_app (goodIn_of _ (by decide +kernel)) ggX7_weigh_X5_forget
set_option maxRecDepth 20000 in
theorem ggX7_weigh_X8_pourFit : GoodIn wsX7_weigh wsX8_pourFit := goodIn_r _ [33, 34, 35, 36, 37, 38, 39, 32, 40, 41, 42, 12, 13, 14, 43, 44, 45, 46, 47, 48, 49, 50, 25, 51, 28, 52, 27, 53, 54, 55, 56, 131, 132, 133, 134, 135, 136, 137, 138] (by decide +kernel) (by decide +kernel)
set_option maxRecDepth 20000 in
theorem gX7_weigh_X8_pourFit : GoodIn wsX7_weigh (wsV RX7 112 RX8 yX8_pourFit wsX8_pourFit) := goodIn_app (goodIn_of _ (by decide +kernel)) ggX7_weigh_X8_pourFit
set_option maxRecDepth 20000 in
theorem ggX7_weigh_X5_copy : GoodIn wsX7_weigh wsX5_copy := goodIn_r _ [60, 27, 28, 61, 23, 24, 25, 26, 137, 138] (by decide +kernel) (by decide +kernel)
set_option maxRecDepth 20000 in
theorem gX7_weigh_X5_copy : GoodIn wsX7_weigh (wsV RX7 116 RX5 yX5_copy wsX5_copy) := goodIn_app (goodIn_of _ (by decide +kernel)) ggX7_weigh_X5_copy
set_option maxRecDepth 20000 in
theorem ggX7_weigh_X5_lowerTo : GoodIn wsX7_weigh wsX5_lowerTo := goodIn_r _ [65, 27, 53, 54, 55, 56, 28, 66, 67, 68, 137, 138] (by decide +kernel) (by decide +kernel)
set_option maxRecDepth 20000 in
theorem gX7_weigh_X5_lowerTo : GoodIn wsX7_weigh (wsV RX7 119 RX5 yX5_lowerTo wsX5_lowerTo) := goodIn_app (goodIn_of _ (by decide +kernel)) ggX7_weigh_X5_lowerTo
set_option maxRecDepth 20000 in
theorem ggX7_weigh_X7_weight : GoodIn wsX7_weigh wsX7_weight := goodIn_r _ [72, 73, 74, 119, 120, 121, 122, 123, 124, 125, 126, 127, 128, 129, 130] (by decide +kernel) (by decide +kernel)
set_option maxRecDepth 20000 in
theorem gX7_weigh_X7_weight : GoodIn wsX7_weigh (wsV RX7 122 RX7 yX7_weight wsX7_weight) := goodIn_app (goodIn_of _ (by decide +kernel)) ggX7_weigh_X7_weight
set_option maxRecDepth 20000 in
theorem ggX7_weigh_X1_become : GoodIn wsX7_weigh wsX1_become := goodIn_r _ [79, 80, 81, 139, 140] (by decide +kernel) (by decide +kernel)
set_option maxRecDepth 20000 in
theorem gX7_weigh_X1_become : GoodIn wsX7_weigh (wsV RX7 126 RX1 yX1_become wsX1_become) := goodIn_app (goodIn_of _ (by decide +kernel)) ggX7_weigh_X1_become
set_option maxRecDepth 20000 in
theorem ggX7_weigh_X5_divide : GoodIn wsX7_weigh wsX5_divide := goodIn_r _ [85, 27, 53, 54, 55, 56, 28, 137, 138] (by decide +kernel) (by decide +kernel)
set_option maxRecDepth 20000 in
theorem gX7_weigh_X5_divide : GoodIn wsX7_weigh (wsV RX7 129 RX5 yX5_divide wsX5_divide) := goodIn_app (goodIn_of _ (by decide +kernel)) ggX7_weigh_X5_divide
set_option maxRecDepth 20000 in
theorem ggX7_weigh_X5_write : GoodIn wsX7_weigh wsX5_write := goodIn_r _ [89, 27, 28, 90, 91, 76, 77, 78, 79, 80, 81, 92, 93, 94, 95, 96, 67, 55, 68, 97, 137, 138, 139, 140] (by decide +kernel) (by decide +kernel)
set_option maxRecDepth 20000 in
theorem gX7_weigh_X5_write : GoodIn wsX7_weigh (wsV RX7 132 RX5 yX5_write wsX5_write) := goodIn_app (goodIn_of _ (by decide +kernel)) ggX7_weigh_X5_write
set_option maxRecDepth 20000 in
theorem ggX7_weigh_X7_addSmaller : GoodIn wsX7_weigh wsX7_addSmaller := goodIn_r _ [101, 1, 2, 11, 12, 13, 14, 69, 70, 71, 8, 72, 73, 74, 102, 103, 104, 78, 105, 80, 106, 54, 55, 56, 107, 108, 109, 110, 81, 96, 67, 68, 111, 112, 113, 114, 97, 115, 116, 117, 118, 119, 120, 121, 122, 123, 124, 125, 126, 127, 128, 129, 130, 131, 132, 133, 134, 135, 136, 139, 140] (by decide +kernel) (by decide +kernel)
set_option maxRecDepth 20000 in
theorem gX7_weigh_X7_addSmaller : GoodIn wsX7_weigh (wsV RX7 136 RX7 yX7_addSmaller wsX7_addSmaller) := goodIn_app (goodIn_of _ (by decide +kernel)) ggX7_weigh_X7_addSmaller
theorem dX7_weigh_0 : decode cX7_weigh 0 = .ok (.iconst 0, 1) := by decide +kernel
theorem dX7_weigh_1 : decode cX7_weigh 1 = .ok (.istore_n 2, 1) := by decide +kernel
theorem dX7_weigh_2 : decode cX7_weigh 2 = .ok (.iload_n 2, 1) := by decide +kernel
theorem dX7_weigh_3 : decode cX7_weigh 3 = .ok (.iconst 1, 1) := by decide +kernel
theorem dX7_weigh_4 : decode cX7_weigh 4 = .ok (.aload_n 0, 1) := by decide +kernel
theorem dX7_weigh_5 : decode cX7_weigh 5 = .ok (.getfield 11, 3) := by decide +kernel
theorem dX7_weigh_8 : decode cX7_weigh 8 = .ok (.getfield 74, 3) := by decide +kernel
theorem dX7_weigh_11 : decode cX7_weigh 11 = .ok (.ishl, 1) := by decide +kernel
theorem dX7_weigh_12 : decode cX7_weigh 12 = .ok (.if_icmp .ge 70, 3) := by decide +kernel
theorem dX7_weigh_15 : decode cX7_weigh 15 = .ok (.aload_n 0, 1) := by decide +kernel
theorem dX7_weigh_16 : decode cX7_weigh 16 = .ok (.iload_n 1, 1) := by decide +kernel
theorem dX7_weigh_17 : decode cX7_weigh 17 = .ok (.iload_n 2, 1) := by decide +kernel
theorem dX7_weigh_18 : decode cX7_weigh 18 = .ok (.invokevirtual 106, 3) := by decide +kernel
theorem dX7_weigh_21 : decode cX7_weigh 21 = .ok (.ifCond .ne 6, 3) := by decide +kernel
theorem dX7_weigh_24 : decode cX7_weigh 24 = .ok (.goto 52, 3) := by decide +kernel
theorem dX7_weigh_27 : decode cX7_weigh 27 = .ok (.aload_n 0, 1) := by decide +kernel
theorem dX7_weigh_28 : decode cX7_weigh 28 = .ok (.getfield 15, 3) := by decide +kernel
theorem dX7_weigh_31 : decode cX7_weigh 31 = .ok (.invokevirtual 109, 3) := by decide +kernel
theorem dX7_weigh_34 : decode cX7_weigh 34 = .ok (.aload_n 0, 1) := by decide +kernel
theorem dX7_weigh_35 : decode cX7_weigh 35 = .ok (.getfield 11, 3) := by decide +kernel
theorem dX7_weigh_38 : decode cX7_weigh 38 = .ok (.iload_n 1, 1) := by decide +kernel
theorem dX7_weigh_39 : decode cX7_weigh 39 = .ok (.iload_n 2, 1) := by decide +kernel
theorem dX7_weigh_40 : decode cX7_weigh 40 = .ok (.aload_n 0, 1) := by decide +kernel
theorem dX7_weigh_41 : decode cX7_weigh 41 = .ok (.getfield 15, 3) := by decide +kernel
theorem dX7_weigh_44 : decode cX7_weigh 44 = .ok (.invokevirtual 112, 3) := by decide +kernel
theorem dX7_weigh_47 : decode cX7_weigh 47 = .ok (.iload_n 2, 1) := by decide +kernel
theorem dX7_weigh_48 : decode cX7_weigh 48 = .ok (.ifCond .ne 17, 3) := by decide +kernel
theorem dX7_weigh_51 : decode cX7_weigh 51 = .ok (.aload_n 0, 1) := by decide +kernel
theorem dX7_weigh_52 : decode cX7_weigh 52 = .ok (.getfield 22, 3) := by decide +kernel
theorem dX7_weigh_55 : decode cX7_weigh 55 = .ok (.aload_n 0, 1) := by decide +kernel
theorem dX7_weigh_56 : decode cX7_weigh 56 = .ok (.getfield 15, 3) := by decide +kernel
theorem dX7_weigh_59 : decode cX7_weigh 59 = .ok (.invokevirtual 116, 3) := by decide +kernel
theorem dX7_weigh_62 : decode cX7_weigh 62 = .ok (.goto 14, 3) := by decide +kernel
theorem dX7_weigh_65 : decode cX7_weigh 65 = .ok (.aload_n 0, 1) := by decide +kernel
theorem dX7_weigh_66 : decode cX7_weigh 66 = .ok (.getfield 22, 3) := by decide +kernel
theorem dX7_weigh_69 : decode cX7_weigh 69 = .ok (.aload_n 0, 1) := by decide +kernel
theorem dX7_weigh_70 : decode cX7_weigh 70 = .ok (.getfield 15, 3) := by decide +kernel
theorem dX7_weigh_73 : decode cX7_weigh 73 = .ok (.invokevirtual 119, 3) := by decide +kernel
theorem dX7_weigh_76 : decode cX7_weigh 76 = .ok (.iinc 2 1, 3) := by decide +kernel
theorem dX7_weigh_79 : decode cX7_weigh 79 = .ok (.goto (-77), 3) := by decide +kernel
theorem dX7_weigh_82 : decode cX7_weigh 82 = .ok (.iconst 0, 1) := by decide +kernel
theorem dX7_weigh_83 : decode cX7_weigh 83 = .ok (.istore_n 2, 1) := by decide +kernel
theorem dX7_weigh_84 : decode cX7_weigh 84 = .ok (.iload_n 2, 1) := by decide +kernel
theorem dX7_weigh_85 : decode cX7_weigh 85 = .ok (.iconst 1, 1) := by decide +kernel
theorem dX7_weigh_86 : decode cX7_weigh 86 = .ok (.aload_n 0, 1) := by decide +kernel
theorem dX7_weigh_87 : decode cX7_weigh 87 = .ok (.getfield 11, 3) := by decide +kernel
theorem dX7_weigh_90 : decode cX7_weigh 90 = .ok (.getfield 74, 3) := by decide +kernel
theorem dX7_weigh_93 : decode cX7_weigh 93 = .ok (.ishl, 1) := by decide +kernel
theorem dX7_weigh_94 : decode cX7_weigh 94 = .ok (.if_icmp .ge 76, 3) := by decide +kernel
theorem dX7_weigh_97 : decode cX7_weigh 97 = .ok (.aload_n 0, 1) := by decide +kernel
theorem dX7_weigh_98 : decode cX7_weigh 98 = .ok (.iload_n 1, 1) := by decide +kernel
theorem dX7_weigh_99 : decode cX7_weigh 99 = .ok (.iload_n 2, 1) := by decide +kernel
theorem dX7_weigh_100 : decode cX7_weigh 100 = .ok (.invokevirtual 122, 3) := by decide +kernel
theorem dX7_weigh_103 : decode cX7_weigh 103 = .ok (.iconst 0, 1) := by decide +kernel
theorem dX7_weigh_104 : decode cX7_weigh 104 = .ok (.invokevirtual 126, 3) := by decide +kernel
theorem dX7_weigh_107 : decode cX7_weigh 107 = .ok (.aload_n 0, 1) := by decide +kernel
theorem dX7_weigh_108 : decode cX7_weigh 108 = .ok (.iload_n 1, 1) := by decide +kernel
theorem dX7_weigh_109 : decode cX7_weigh 109 = .ok (.iload_n 2, 1) := by decide +kernel
theorem dX7_weigh_110 : decode cX7_weigh 110 = .ok (.invokevirtual 106, 3) := by decide +kernel
theorem dX7_weigh_113 : decode cX7_weigh 113 = .ok (.ifCond .ne 6, 3) := by decide +kernel
theorem dX7_weigh_116 : decode cX7_weigh 116 = .ok (.goto 48, 3) := by decide +kernel
theorem dX7_weigh_119 : decode cX7_weigh 119 = .ok (.aload_n 0, 1) := by decide +kernel
theorem dX7_weigh_120 : decode cX7_weigh 120 = .ok (.getfield 15, 3) := by decide +kernel
theorem dX7_weigh_123 : decode cX7_weigh 123 = .ok (.invokevirtual 109, 3) := by decide +kernel
theorem dX7_weigh_126 : decode cX7_weigh 126 = .ok (.aload_n 0, 1) := by decide +kernel
theorem dX7_weigh_127 : decode cX7_weigh 127 = .ok (.getfield 11, 3) := by decide +kernel
theorem dX7_weigh_130 : decode cX7_weigh 130 = .ok (.iload_n 1, 1) := by decide +kernel
theorem dX7_weigh_131 : decode cX7_weigh 131 = .ok (.iload_n 2, 1) := by decide +kernel
theorem dX7_weigh_132 : decode cX7_weigh 132 = .ok (.aload_n 0, 1) := by decide +kernel
theorem dX7_weigh_133 : decode cX7_weigh 133 = .ok (.getfield 15, 3) := by decide +kernel
theorem dX7_weigh_136 : decode cX7_weigh 136 = .ok (.invokevirtual 112, 3) := by decide +kernel
theorem dX7_weigh_139 : decode cX7_weigh 139 = .ok (.aload_n 0, 1) := by decide +kernel
theorem dX7_weigh_140 : decode cX7_weigh 140 = .ok (.getfield 15, 3) := by decide +kernel
theorem dX7_weigh_143 : decode cX7_weigh 143 = .ok (.aload_n 0, 1) := by decide +kernel
theorem dX7_weigh_144 : decode cX7_weigh 144 = .ok (.getfield 22, 3) := by decide +kernel
theorem dX7_weigh_147 : decode cX7_weigh 147 = .ok (.invokevirtual 129, 3) := by decide +kernel
theorem dX7_weigh_150 : decode cX7_weigh 150 = .ok (.aload_n 0, 1) := by decide +kernel
theorem dX7_weigh_151 : decode cX7_weigh 151 = .ok (.getfield 15, 3) := by decide +kernel
theorem dX7_weigh_154 : decode cX7_weigh 154 = .ok (.iconst 1, 1) := by decide +kernel
theorem dX7_weigh_155 : decode cX7_weigh 155 = .ok (.aload_n 0, 1) := by decide +kernel
theorem dX7_weigh_156 : decode cX7_weigh 156 = .ok (.iload_n 1, 1) := by decide +kernel
theorem dX7_weigh_157 : decode cX7_weigh 157 = .ok (.iload_n 2, 1) := by decide +kernel
theorem dX7_weigh_158 : decode cX7_weigh 158 = .ok (.invokevirtual 122, 3) := by decide +kernel
theorem dX7_weigh_161 : decode cX7_weigh 161 = .ok (.invokevirtual 132, 3) := by decide +kernel
theorem dX7_weigh_164 : decode cX7_weigh 164 = .ok (.iinc 2 1, 3) := by decide +kernel
theorem dX7_weigh_167 : decode cX7_weigh 167 = .ok (.goto (-83), 3) := by decide +kernel
theorem dX7_weigh_170 : decode cX7_weigh 170 = .ok (.iconst 0, 1) := by decide +kernel
theorem dX7_weigh_171 : decode cX7_weigh 171 = .ok (.istore_n 2, 1) := by decide +kernel
theorem dX7_weigh_172 : decode cX7_weigh 172 = .ok (.iload_n 2, 1) := by decide +kernel
theorem dX7_weigh_173 : decode cX7_weigh 173 = .ok (.aload_n 0, 1) := by decide +kernel
theorem dX7_weigh_174 : decode cX7_weigh 174 = .ok (.getfield 11, 3) := by decide +kernel
theorem dX7_weigh_177 : decode cX7_weigh 177 = .ok (.getfield 74, 3) := by decide +kernel
theorem dX7_weigh_180 : decode cX7_weigh 180 = .ok (.if_icmp .ge 20, 3) := by decide +kernel
theorem dX7_weigh_183 : decode cX7_weigh 183 = .ok (.iload_n 2, 1) := by decide +kernel
theorem dX7_weigh_184 : decode cX7_weigh 184 = .ok (.iload_n 1, 1) := by decide +kernel
theorem dX7_weigh_185 : decode cX7_weigh 185 = .ok (.if_icmp .eq 9, 3) := by decide +kernel
theorem dX7_weigh_188 : decode cX7_weigh 188 = .ok (.aload_n 0, 1) := by decide +kernel
theorem dX7_weigh_189 : decode cX7_weigh 189 = .ok (.iload_n 1, 1) := by decide +kernel
theorem dX7_weigh_190 : decode cX7_weigh 190 = .ok (.iload_n 2, 1) := by decide +kernel
theorem dX7_weigh_191 : decode cX7_weigh 191 = .ok (.invokevirtual 136, 3) := by decide +kernel
theorem dX7_weigh_194 : decode cX7_weigh 194 = .ok (.iinc 2 1, 3) := by decide +kernel
theorem dX7_weigh_197 : decode cX7_weigh 197 = .ok (.goto (-25), 3) := by decide +kernel
theorem dX7_weigh_200 : decode cX7_weigh 200 = .ok (.return_, 1) := by decide +kernel
set_option maxRecDepth 20000 in
theorem ggX7_addSmaller_X0_isIn : GoodIn wsX7_addSmaller wsX0_isIn := goodIn_r _ [6] (by decide +kernel) (by decide +kernel)
set_option maxRecDepth 20000 in
theorem gX7_addSmaller_X0_isIn : GoodIn wsX7_addSmaller (va_wsS RX7 31 yX0_isIn wsX0_isIn) := goodIn_app (goodIn_of _ (by decide +kernel)) ggX7_addSmaller_X0_isIn
set_option maxRecDepth 20000 in
theorem ggX7_addSmaller_X7_weight : GoodIn wsX7_addSmaller wsX7_weight := goodIn_r _ [11, 12, 13, 41, 42, 43, 44, 45, 46, 47, 48, 49, 50, 51, 52] (by decide +kernel) (by decide +kernel)
set_option maxRecDepth 20000 in
theorem gX7_addSmaller_X7_weight : GoodIn wsX7_addSmaller (wsV RX7 122 RX7 yX7_weight wsX7_weight) := goodIn_app (goodIn_of _ (by decide +kernel)) ggX7_addSmaller_X7_weight
set_option maxRecDepth 20000 in
theorem ggX7_addSmaller_X1_plus : GoodIn wsX7_addSmaller wsX1_plus := goodIn_r _ [18, 19, 20, 21, 22, 23, 24, 25, 26, 17, 27, 28, 29, 30, 31, 32, 33, 34, 35, 36, 37, 38, 39, 40, 59, 60] (by decide +kernel) (by decide +kernel)
set_option maxRecDepth 20000 in
theorem gX7_addSmaller_X1_plus : GoodIn wsX7_addSmaller (wsV RX7 139 RX1 yX1_plus wsX1_plus) := goodIn_app (goodIn_of _ (by decide +kernel)) ggX7_addSmaller_X1_plus
theorem dX7_addSmaller_0 : decode cX7_addSmaller 0 = .ok (.iconst 0, 1) := by decide +kernel
theorem dX7_addSmaller_1 : decode cX7_addSmaller 1 = .ok (.istore_n 3, 1) := by decide +kernel
theorem dX7_addSmaller_2 : decode cX7_addSmaller 2 = .ok (.iload_n 3, 1) := by decide +kernel
theorem dX7_addSmaller_3 : decode cX7_addSmaller 3 = .ok (.iconst 1, 1) := by decide +kernel
theorem dX7_addSmaller_4 : decode cX7_addSmaller 4 = .ok (.aload_n 0, 1) := by decide +kernel
theorem dX7_addSmaller_5 : decode cX7_addSmaller 5 = .ok (.getfield 11, 3) := by decide +kernel
theorem dX7_addSmaller_8 : decode cX7_addSmaller 8 = .ok (.getfield 74, 3) := by decide +kernel
theorem dX7_addSmaller_11 : decode cX7_addSmaller 11 = .ok (.ishl, 1) := by decide +kernel
theorem dX7_addSmaller_12 : decode cX7_addSmaller 12 = .ok (.if_icmp .ge 58, 3) := by decide +kernel
theorem dX7_addSmaller_15 : decode cX7_addSmaller 15 = .ok (.iload_n 3, 1) := by decide +kernel
theorem dX7_addSmaller_16 : decode cX7_addSmaller 16 = .ok (.iload_n 2, 1) := by decide +kernel
theorem dX7_addSmaller_17 : decode cX7_addSmaller 17 = .ok (.invokestatic 31, 3) := by decide +kernel
theorem dX7_addSmaller_20 : decode cX7_addSmaller 20 = .ok (.ifCond .eq 15, 3) := by decide +kernel
theorem dX7_addSmaller_23 : decode cX7_addSmaller 23 = .ok (.iload_n 3, 1) := by decide +kernel
theorem dX7_addSmaller_24 : decode cX7_addSmaller 24 = .ok (.iload_n 1, 1) := by decide +kernel
theorem dX7_addSmaller_25 : decode cX7_addSmaller 25 = .ok (.invokestatic 31, 3) := by decide +kernel
theorem dX7_addSmaller_28 : decode cX7_addSmaller 28 = .ok (.ifCond .ne 7, 3) := by decide +kernel
theorem dX7_addSmaller_31 : decode cX7_addSmaller 31 = .ok (.iconst 1, 1) := by decide +kernel
theorem dX7_addSmaller_32 : decode cX7_addSmaller 32 = .ok (.goto 4, 3) := by decide +kernel
theorem dX7_addSmaller_35 : decode cX7_addSmaller 35 = .ok (.iconst 0, 1) := by decide +kernel
theorem dX7_addSmaller_36 : decode cX7_addSmaller 36 = .ok (.istore 4, 2) := by decide +kernel
theorem dX7_addSmaller_38 : decode cX7_addSmaller 38 = .ok (.iload 4, 2) := by decide +kernel
theorem dX7_addSmaller_40 : decode cX7_addSmaller 40 = .ok (.ifCond .eq 24, 3) := by decide +kernel
theorem dX7_addSmaller_43 : decode cX7_addSmaller 43 = .ok (.aload_n 0, 1) := by decide +kernel
theorem dX7_addSmaller_44 : decode cX7_addSmaller 44 = .ok (.iload_n 1, 1) := by decide +kernel
theorem dX7_addSmaller_45 : decode cX7_addSmaller 45 = .ok (.iload_n 3, 1) := by decide +kernel
theorem dX7_addSmaller_46 : decode cX7_addSmaller 46 = .ok (.invokevirtual 122, 3) := by decide +kernel
theorem dX7_addSmaller_49 : decode cX7_addSmaller 49 = .ok (.aload_n 0, 1) := by decide +kernel
theorem dX7_addSmaller_50 : decode cX7_addSmaller 50 = .ok (.iload_n 1, 1) := by decide +kernel
theorem dX7_addSmaller_51 : decode cX7_addSmaller 51 = .ok (.iload_n 3, 1) := by decide +kernel
theorem dX7_addSmaller_52 : decode cX7_addSmaller 52 = .ok (.iconst 1, 1) := by decide +kernel
theorem dX7_addSmaller_53 : decode cX7_addSmaller 53 = .ok (.iload_n 2, 1) := by decide +kernel
theorem dX7_addSmaller_54 : decode cX7_addSmaller 54 = .ok (.ishl, 1) := by decide +kernel
theorem dX7_addSmaller_55 : decode cX7_addSmaller 55 = .ok (.iconst (-1), 1) := by decide +kernel
theorem dX7_addSmaller_56 : decode cX7_addSmaller 56 = .ok (.ixor, 1) := by decide +kernel
theorem dX7_addSmaller_57 : decode cX7_addSmaller 57 = .ok (.iand, 1) := by decide +kernel
theorem dX7_addSmaller_58 : decode cX7_addSmaller 58 = .ok (.invokevirtual 122, 3) := by decide +kernel
theorem dX7_addSmaller_61 : decode cX7_addSmaller 61 = .ok (.invokevirtual 139, 3) := by decide +kernel
theorem dX7_addSmaller_64 : decode cX7_addSmaller 64 = .ok (.iinc 3 1, 3) := by decide +kernel
theorem dX7_addSmaller_67 : decode cX7_addSmaller 67 = .ok (.goto (-65), 3) := by decide +kernel
theorem dX7_addSmaller_70 : decode cX7_addSmaller 70 = .ok (.return_, 1) := by decide +kernel
set_option maxRecDepth 20000 in
theorem ggX7_isOpen_X0_isIn : GoodIn wsX7_isOpen wsX0_isIn := goodIn_r _ [6] (by decide +kernel) (by decide +kernel)
set_option maxRecDepth 20000 in
theorem gX7_isOpen_X0_isIn : GoodIn wsX7_isOpen (va_wsS RX7 31 yX0_isIn wsX0_isIn) := goodIn_app (goodIn_of _ (by decide +kernel)) ggX7_isOpen_X0_isIn
set_option maxRecDepth 20000 in
theorem ggX7_isOpen_J6_bitCount_0f7a4 : GoodIn wsX7_isOpen wsJ6_bitCount_0f7a4 := goodIn_r _ [10, 11, 12, 13] (by decide +kernel) (by decide +kernel)
set_option maxRecDepth 20000 in
theorem gX7_isOpen_J6_bitCount_0f7a4 : GoodIn wsX7_isOpen (va_wsS RX7 142 yJ6_bitCount_0f7a4 wsJ6_bitCount_0f7a4) := goodIn_app (goodIn_of _ (by decide +kernel)) ggX7_isOpen_J6_bitCount_0f7a4
theorem dX7_isOpen_0 : decode cX7_isOpen 0 = .ok (.iload_n 2, 1) := by decide +kernel
theorem dX7_isOpen_1 : decode cX7_isOpen 1 = .ok (.iload_n 1, 1) := by decide +kernel
theorem dX7_isOpen_2 : decode cX7_isOpen 2 = .ok (.invokestatic 31, 3) := by decide +kernel
theorem dX7_isOpen_5 : decode cX7_isOpen 5 = .ok (.ifCond .ne 21, 3) := by decide +kernel
theorem dX7_isOpen_8 : decode cX7_isOpen 8 = .ok (.iload_n 2, 1) := by decide +kernel
theorem dX7_isOpen_9 : decode cX7_isOpen 9 = .ok (.invokestatic 142, 3) := by decide +kernel
theorem dX7_isOpen_12 : decode cX7_isOpen 12 = .ok (.aload_n 0, 1) := by decide +kernel
theorem dX7_isOpen_13 : decode cX7_isOpen 13 = .ok (.getfield 11, 3) := by decide +kernel
theorem dX7_isOpen_16 : decode cX7_isOpen 16 = .ok (.getfield 148, 3) := by decide +kernel
theorem dX7_isOpen_19 : decode cX7_isOpen 19 = .ok (.if_icmp .gt 7, 3) := by decide +kernel
theorem dX7_isOpen_22 : decode cX7_isOpen 22 = .ok (.iconst 1, 1) := by decide +kernel
theorem dX7_isOpen_23 : decode cX7_isOpen 23 = .ok (.goto 4, 3) := by decide +kernel
theorem dX7_isOpen_26 : decode cX7_isOpen 26 = .ok (.iconst 0, 1) := by decide +kernel
theorem dX7_isOpen_27 : decode cX7_isOpen 27 = .ok (.ireturn, 1) := by decide +kernel
set_option maxRecDepth 20000 in
theorem ggX7_keepArc_X0_isIn : GoodIn wsX7_keepArc wsX0_isIn := goodIn_r _ [6] (by decide +kernel) (by decide +kernel)
set_option maxRecDepth 20000 in
theorem gX7_keepArc_X0_isIn : GoodIn wsX7_keepArc (va_wsS RX7 31 yX0_isIn wsX0_isIn) := goodIn_app (goodIn_of _ (by decide +kernel)) ggX7_keepArc_X0_isIn
set_option maxRecDepth 20000 in
theorem ggX7_keepArc_X7_weight : GoodIn wsX7_keepArc wsX7_weight := goodIn_r _ [11, 12, 13, 38, 39, 40, 41, 42, 43, 44, 45, 46, 47, 48, 49] (by decide +kernel) (by decide +kernel)
set_option maxRecDepth 20000 in
theorem gX7_keepArc_X7_weight : GoodIn wsX7_keepArc (wsV RX7 122 RX7 yX7_weight wsX7_weight) := goodIn_app (goodIn_of _ (by decide +kernel)) ggX7_keepArc_X7_weight
set_option maxRecDepth 20000 in
theorem ggX7_keepArc_X1_minus : GoodIn wsX7_keepArc wsX1_minus := goodIn_r _ [18, 19, 20, 21, 17, 22, 23, 24, 25, 26, 27, 28, 29, 30, 31, 32, 33, 56, 57] (by decide +kernel) (by decide +kernel)
set_option maxRecDepth 20000 in
theorem gX7_keepArc_X1_minus : GoodIn wsX7_keepArc (wsV RX7 151 RX1 yX1_minus wsX1_minus) := goodIn_app (goodIn_of _ (by decide +kernel)) ggX7_keepArc_X1_minus
set_option maxRecDepth 20000 in
theorem ggX7_keepArc_X1_become : GoodIn wsX7_keepArc wsX1_become := goodIn_r _ [37, 23, 24, 56, 57] (by decide +kernel) (by decide +kernel)
set_option maxRecDepth 20000 in
theorem gX7_keepArc_X1_become : GoodIn wsX7_keepArc (wsV RX7 126 RX1 yX1_become wsX1_become) := goodIn_app (goodIn_of _ (by decide +kernel)) ggX7_keepArc_X1_become
theorem dX7_keepArc_0 : decode cX7_keepArc 0 = .ok (.iconst 0, 1) := by decide +kernel
theorem dX7_keepArc_1 : decode cX7_keepArc 1 = .ok (.istore_n 3, 1) := by decide +kernel
theorem dX7_keepArc_2 : decode cX7_keepArc 2 = .ok (.iload_n 3, 1) := by decide +kernel
theorem dX7_keepArc_3 : decode cX7_keepArc 3 = .ok (.iconst 1, 1) := by decide +kernel
theorem dX7_keepArc_4 : decode cX7_keepArc 4 = .ok (.aload_n 0, 1) := by decide +kernel
theorem dX7_keepArc_5 : decode cX7_keepArc 5 = .ok (.getfield 11, 3) := by decide +kernel
theorem dX7_keepArc_8 : decode cX7_keepArc 8 = .ok (.getfield 74, 3) := by decide +kernel
theorem dX7_keepArc_11 : decode cX7_keepArc 11 = .ok (.ishl, 1) := by decide +kernel
theorem dX7_keepArc_12 : decode cX7_keepArc 12 = .ok (.if_icmp .ge 59, 3) := by decide +kernel
theorem dX7_keepArc_15 : decode cX7_keepArc 15 = .ok (.iload_n 3, 1) := by decide +kernel
theorem dX7_keepArc_16 : decode cX7_keepArc 16 = .ok (.iload_n 1, 1) := by decide +kernel
theorem dX7_keepArc_17 : decode cX7_keepArc 17 = .ok (.invokestatic 31, 3) := by decide +kernel
theorem dX7_keepArc_20 : decode cX7_keepArc 20 = .ok (.ifCond .eq 45, 3) := by decide +kernel
theorem dX7_keepArc_23 : decode cX7_keepArc 23 = .ok (.iload_n 3, 1) := by decide +kernel
theorem dX7_keepArc_24 : decode cX7_keepArc 24 = .ok (.iload_n 2, 1) := by decide +kernel
theorem dX7_keepArc_25 : decode cX7_keepArc 25 = .ok (.invokestatic 31, 3) := by decide +kernel
theorem dX7_keepArc_28 : decode cX7_keepArc 28 = .ok (.ifCond .eq 6, 3) := by decide +kernel
theorem dX7_keepArc_31 : decode cX7_keepArc 31 = .ok (.goto 34, 3) := by decide +kernel
theorem dX7_keepArc_34 : decode cX7_keepArc 34 = .ok (.aload_n 0, 1) := by decide +kernel
theorem dX7_keepArc_35 : decode cX7_keepArc 35 = .ok (.iload_n 2, 1) := by decide +kernel
theorem dX7_keepArc_36 : decode cX7_keepArc 36 = .ok (.iload_n 3, 1) := by decide +kernel
theorem dX7_keepArc_37 : decode cX7_keepArc 37 = .ok (.iconst 1, 1) := by decide +kernel
theorem dX7_keepArc_38 : decode cX7_keepArc 38 = .ok (.iload_n 1, 1) := by decide +kernel
theorem dX7_keepArc_39 : decode cX7_keepArc 39 = .ok (.ishl, 1) := by decide +kernel
theorem dX7_keepArc_40 : decode cX7_keepArc 40 = .ok (.iconst (-1), 1) := by decide +kernel
theorem dX7_keepArc_41 : decode cX7_keepArc 41 = .ok (.ixor, 1) := by decide +kernel
theorem dX7_keepArc_42 : decode cX7_keepArc 42 = .ok (.iand, 1) := by decide +kernel
theorem dX7_keepArc_43 : decode cX7_keepArc 43 = .ok (.invokevirtual 122, 3) := by decide +kernel
theorem dX7_keepArc_46 : decode cX7_keepArc 46 = .ok (.astore 4, 2) := by decide +kernel
theorem dX7_keepArc_48 : decode cX7_keepArc 48 = .ok (.aload_n 0, 1) := by decide +kernel
theorem dX7_keepArc_49 : decode cX7_keepArc 49 = .ok (.iload_n 2, 1) := by decide +kernel
theorem dX7_keepArc_50 : decode cX7_keepArc 50 = .ok (.iload_n 3, 1) := by decide +kernel
theorem dX7_keepArc_51 : decode cX7_keepArc 51 = .ok (.invokevirtual 122, 3) := by decide +kernel
theorem dX7_keepArc_54 : decode cX7_keepArc 54 = .ok (.aload 4, 2) := by decide +kernel
theorem dX7_keepArc_56 : decode cX7_keepArc 56 = .ok (.invokevirtual 151, 3) := by decide +kernel
theorem dX7_keepArc_59 : decode cX7_keepArc 59 = .ok (.aload 4, 2) := by decide +kernel
theorem dX7_keepArc_61 : decode cX7_keepArc 61 = .ok (.iconst 0, 1) := by decide +kernel
theorem dX7_keepArc_62 : decode cX7_keepArc 62 = .ok (.invokevirtual 126, 3) := by decide +kernel
theorem dX7_keepArc_65 : decode cX7_keepArc 65 = .ok (.iinc 3 1, 3) := by decide +kernel
theorem dX7_keepArc_68 : decode cX7_keepArc 68 = .ok (.goto (-66), 3) := by decide +kernel
theorem dX7_keepArc_71 : decode cX7_keepArc 71 = .ok (.return_, 1) := by decide +kernel
set_option maxRecDepth 20000 in
theorem ggX7_sumGraphs_X7_sumGraphsOf : GoodIn wsX7_sumGraphs wsX7_sumGraphsOf := goodIn_r _ [7, 8, 9, 10, 11, 6, 12, 13, 14, 15, 16, 17, 18, 19, 20, 21, 22, 23, 24, 25, 26, 27, 28, 29, 30, 31, 32, 1, 2, 33, 34, 35, 36, 37, 38, 39, 40, 41, 42, 43, 44, 45, 46, 47, 48, 49, 50, 51, 52, 53, 54, 55, 56, 57, 58, 59, 60, 61, 62, 63, 64, 65, 66, 67, 68, 69, 70, 71, 72, 73, 74, 75, 76, 77, 78, 79, 80, 81, 82, 83, 84, 85, 86, 87, 88, 89, 90, 91, 92, 93, 94, 95, 96, 97, 104, 105, 98, 99, 100, 101, 102, 103] (by decide +kernel) (by decide +kernel)
set_option maxRecDepth 20000 in
theorem gX7_sumGraphs_X7_sumGraphsOf : GoodIn wsX7_sumGraphs (wsV RX7 154 RX7 yX7_sumGraphsOf wsX7_sumGraphsOf) := goodIn_app (goodIn_of _ (by decide +kernel)) ggX7_sumGraphs_X7_sumGraphsOf
theorem dX7_sumGraphs_0 : decode cX7_sumGraphs 0 = .ok (.iconst 0, 1) := by decide +kernel
theorem dX7_sumGraphs_1 : decode cX7_sumGraphs 1 = .ok (.istore_n 2, 1) := by decide +kernel
theorem dX7_sumGraphs_2 : decode cX7_sumGraphs 2 = .ok (.iload_n 2, 1) := by decide +kernel
theorem dX7_sumGraphs_3 : decode cX7_sumGraphs 3 = .ok (.iconst 1, 1) := by decide +kernel
theorem dX7_sumGraphs_4 : decode cX7_sumGraphs 4 = .ok (.aload_n 0, 1) := by decide +kernel
theorem dX7_sumGraphs_5 : decode cX7_sumGraphs 5 = .ok (.getfield 11, 3) := by decide +kernel
theorem dX7_sumGraphs_8 : decode cX7_sumGraphs 8 = .ok (.getfield 74, 3) := by decide +kernel
theorem dX7_sumGraphs_11 : decode cX7_sumGraphs 11 = .ok (.ishl, 1) := by decide +kernel
theorem dX7_sumGraphs_12 : decode cX7_sumGraphs 12 = .ok (.if_icmp .ge 21, 3) := by decide +kernel
theorem dX7_sumGraphs_15 : decode cX7_sumGraphs 15 = .ok (.iload_n 2, 1) := by decide +kernel
theorem dX7_sumGraphs_16 : decode cX7_sumGraphs 16 = .ok (.iload_n 1, 1) := by decide +kernel
theorem dX7_sumGraphs_17 : decode cX7_sumGraphs 17 = .ok (.iand, 1) := by decide +kernel
theorem dX7_sumGraphs_18 : decode cX7_sumGraphs 18 = .ok (.iload_n 1, 1) := by decide +kernel
theorem dX7_sumGraphs_19 : decode cX7_sumGraphs 19 = .ok (.if_icmp .ne 8, 3) := by decide +kernel
theorem dX7_sumGraphs_22 : decode cX7_sumGraphs 22 = .ok (.aload_n 0, 1) := by decide +kernel
theorem dX7_sumGraphs_23 : decode cX7_sumGraphs 23 = .ok (.iload_n 2, 1) := by decide +kernel
theorem dX7_sumGraphs_24 : decode cX7_sumGraphs 24 = .ok (.invokevirtual 154, 3) := by decide +kernel
theorem dX7_sumGraphs_27 : decode cX7_sumGraphs 27 = .ok (.iinc 2 1, 3) := by decide +kernel
theorem dX7_sumGraphs_30 : decode cX7_sumGraphs 30 = .ok (.goto (-28), 3) := by decide +kernel
theorem dX7_sumGraphs_33 : decode cX7_sumGraphs 33 = .ok (.return_, 1) := by decide +kernel
set_option maxRecDepth 20000 in
theorem ggX7_sumGraphsOf_X7_sum : GoodIn wsX7_sumGraphsOf wsX7_sum := goodIn_r _ [6, 7, 8, 82, 83, 84, 85, 86, 87, 88, 89, 90, 91, 92, 93] (by decide +kernel) (by decide +kernel)
set_option maxRecDepth 20000 in
theorem gX7_sumGraphsOf_X7_sum : GoodIn wsX7_sumGraphsOf (wsV RX7 88 RX7 yX7_sum wsX7_sum) := goodIn_app (goodIn_of _ (by decide +kernel)) ggX7_sumGraphsOf_X7_sum
set_option maxRecDepth 20000 in
theorem ggX7_sumGraphsOf_X1_become : GoodIn wsX7_sumGraphsOf wsX1_become := goodIn_r _ [13, 14, 15, 94, 95] (by decide +kernel) (by decide +kernel)
set_option maxRecDepth 20000 in
theorem gX7_sumGraphsOf_X1_become : GoodIn wsX7_sumGraphsOf (wsV RX7 126 RX1 yX1_become wsX1_become) := goodIn_app (goodIn_of _ (by decide +kernel)) ggX7_sumGraphsOf_X1_become
set_option maxRecDepth 20000 in
theorem ggX7_sumGraphsOf_J6_bitCount_0f7a4 : GoodIn wsX7_sumGraphsOf wsJ6_bitCount_0f7a4 := goodIn_r _ [19, 20, 21, 22] (by decide +kernel) (by decide +kernel)
set_option maxRecDepth 20000 in
theorem gX7_sumGraphsOf_J6_bitCount_0f7a4 : GoodIn wsX7_sumGraphsOf (va_wsS RX7 142 yJ6_bitCount_0f7a4 wsJ6_bitCount_0f7a4) := goodIn_app (goodIn_of _ (by decide +kernel)) ggX7_sumGraphsOf_J6_bitCount_0f7a4
set_option maxRecDepth 20000 in
theorem ggX7_sumGraphsOf_X7_multiplyOut : GoodIn wsX7_sumGraphsOf wsX7_multiplyOut := goodIn_r _ [26, 1, 27, 28, 2, 3, 4, 5, 6, 7, 8, 29, 30, 31, 12, 32, 14, 15, 33, 34, 35, 36, 37, 38, 39, 40, 41, 42, 43, 44, 45, 46, 47, 48, 49, 50, 51, 52, 53, 54, 55, 56, 57, 58, 59, 60, 61, 62, 63, 64, 65, 66, 67, 68, 69, 82, 83, 84, 85, 86, 87, 88, 89, 90, 91, 92, 93, 96, 97, 98, 99, 100, 101, 94, 95] (by decide +kernel) (by decide +kernel)
set_option maxRecDepth 20000 in
theorem gX7_sumGraphsOf_X7_multiplyOut : GoodIn wsX7_sumGraphsOf (wsV RX7 157 RX7 yX7_multiplyOut wsX7_multiplyOut) := goodIn_app (goodIn_of _ (by decide +kernel)) ggX7_sumGraphsOf_X7_multiplyOut
set_option maxRecDepth 20000 in
theorem ggX7_sumGraphsOf_X1_plus : GoodIn wsX7_sumGraphsOf wsX1_plus := goodIn_r _ [73, 14, 58, 59, 35, 60, 54, 55, 56, 12, 57, 15, 33, 34, 36, 61, 62, 63, 64, 65, 66, 67, 68, 69, 94, 95] (by decide +kernel) (by decide +kernel)
set_option maxRecDepth 20000 in
theorem gX7_sumGraphsOf_X1_plus : GoodIn wsX7_sumGraphsOf (wsV RX7 139 RX1 yX1_plus wsX1_plus) := goodIn_app (goodIn_of _ (by decide +kernel)) ggX7_sumGraphsOf_X1_plus
set_option maxRecDepth 20000 in
theorem ggX7_sumGraphsOf_X1_minus : GoodIn wsX7_sumGraphsOf wsX1_minus := goodIn_r _ [77, 78, 79, 80, 12, 81, 14, 15, 33, 34, 35, 36, 65, 66, 67, 68, 69, 94, 95] (by decide +kernel) (by decide +kernel)
set_option maxRecDepth 20000 in
theorem gX7_sumGraphsOf_X1_minus : GoodIn wsX7_sumGraphsOf (wsV RX7 151 RX1 yX1_minus wsX1_minus) := goodIn_app (goodIn_of _ (by decide +kernel)) ggX7_sumGraphsOf_X1_minus
theorem dX7_sumGraphsOf_0 : decode cX7_sumGraphsOf 0 = .ok (.aload_n 0, 1) := by decide +kernel
theorem dX7_sumGraphsOf_1 : decode cX7_sumGraphsOf 1 = .ok (.iload_n 1, 1) := by decide +kernel
theorem dX7_sumGraphsOf_2 : decode cX7_sumGraphsOf 2 = .ok (.invokevirtual 88, 3) := by decide +kernel
theorem dX7_sumGraphsOf_5 : decode cX7_sumGraphsOf 5 = .ok (.astore_n 2, 1) := by decide +kernel
theorem dX7_sumGraphsOf_6 : decode cX7_sumGraphsOf 6 = .ok (.aload_n 2, 1) := by decide +kernel
theorem dX7_sumGraphsOf_7 : decode cX7_sumGraphsOf 7 = .ok (.iload_n 1, 1) := by decide +kernel
theorem dX7_sumGraphsOf_8 : decode cX7_sumGraphsOf 8 = .ok (.ifCond .ne 7, 3) := by decide +kernel
theorem dX7_sumGraphsOf_11 : decode cX7_sumGraphsOf 11 = .ok (.iconst 1, 1) := by decide +kernel
theorem dX7_sumGraphsOf_12 : decode cX7_sumGraphsOf 12 = .ok (.goto 4, 3) := by decide +kernel
theorem dX7_sumGraphsOf_15 : decode cX7_sumGraphsOf 15 = .ok (.iconst 0, 1) := by decide +kernel
theorem dX7_sumGraphsOf_16 : decode cX7_sumGraphsOf 16 = .ok (.invokevirtual 126, 3) := by decide +kernel
theorem dX7_sumGraphsOf_19 : decode cX7_sumGraphsOf 19 = .ok (.iconst 1, 1) := by decide +kernel
theorem dX7_sumGraphsOf_20 : decode cX7_sumGraphsOf 20 = .ok (.istore_n 3, 1) := by decide +kernel
theorem dX7_sumGraphsOf_21 : decode cX7_sumGraphsOf 21 = .ok (.iload_n 3, 1) := by decide +kernel
theorem dX7_sumGraphsOf_22 : decode cX7_sumGraphsOf 22 = .ok (.ifCond .lt 83, 3) := by decide +kernel
theorem dX7_sumGraphsOf_25 : decode cX7_sumGraphsOf 25 = .ok (.iconst 1, 1) := by decide +kernel
theorem dX7_sumGraphsOf_26 : decode cX7_sumGraphsOf 26 = .ok (.istore 4, 2) := by decide +kernel
theorem dX7_sumGraphsOf_28 : decode cX7_sumGraphsOf 28 = .ok (.iload 4, 2) := by decide +kernel
theorem dX7_sumGraphsOf_30 : decode cX7_sumGraphsOf 30 = .ok (.iload_n 1, 1) := by decide +kernel
theorem dX7_sumGraphsOf_31 : decode cX7_sumGraphsOf 31 = .ok (.if_icmp .gt 68, 3) := by decide +kernel
theorem dX7_sumGraphsOf_34 : decode cX7_sumGraphsOf 34 = .ok (.iload 4, 2) := by decide +kernel
theorem dX7_sumGraphsOf_36 : decode cX7_sumGraphsOf 36 = .ok (.iload_n 1, 1) := by decide +kernel
theorem dX7_sumGraphsOf_37 : decode cX7_sumGraphsOf 37 = .ok (.iconst (-1), 1) := by decide +kernel
theorem dX7_sumGraphsOf_38 : decode cX7_sumGraphsOf 38 = .ok (.ixor, 1) := by decide +kernel
theorem dX7_sumGraphsOf_39 : decode cX7_sumGraphsOf 39 = .ok (.iand, 1) := by decide +kernel
theorem dX7_sumGraphsOf_40 : decode cX7_sumGraphsOf 40 = .ok (.ifCond .ne 53, 3) := by decide +kernel
theorem dX7_sumGraphsOf_43 : decode cX7_sumGraphsOf 43 = .ok (.iload 4, 2) := by decide +kernel
theorem dX7_sumGraphsOf_45 : decode cX7_sumGraphsOf 45 = .ok (.invokestatic 142, 3) := by decide +kernel
theorem dX7_sumGraphsOf_48 : decode cX7_sumGraphsOf 48 = .ok (.iconst 1, 1) := by decide +kernel
theorem dX7_sumGraphsOf_49 : decode cX7_sumGraphsOf 49 = .ok (.iand, 1) := by decide +kernel
theorem dX7_sumGraphsOf_50 : decode cX7_sumGraphsOf 50 = .ok (.iload_n 3, 1) := by decide +kernel
theorem dX7_sumGraphsOf_51 : decode cX7_sumGraphsOf 51 = .ok (.if_icmp .eq 6, 3) := by decide +kernel
theorem dX7_sumGraphsOf_54 : decode cX7_sumGraphsOf 54 = .ok (.goto 39, 3) := by decide +kernel
theorem dX7_sumGraphsOf_57 : decode cX7_sumGraphsOf 57 = .ok (.aload_n 0, 1) := by decide +kernel
theorem dX7_sumGraphsOf_58 : decode cX7_sumGraphsOf 58 = .ok (.iload_n 1, 1) := by decide +kernel
theorem dX7_sumGraphsOf_59 : decode cX7_sumGraphsOf 59 = .ok (.iload 4, 2) := by decide +kernel
theorem dX7_sumGraphsOf_61 : decode cX7_sumGraphsOf 61 = .ok (.iconst (-1), 1) := by decide +kernel
theorem dX7_sumGraphsOf_62 : decode cX7_sumGraphsOf 62 = .ok (.ixor, 1) := by decide +kernel
theorem dX7_sumGraphsOf_63 : decode cX7_sumGraphsOf 63 = .ok (.iand, 1) := by decide +kernel
theorem dX7_sumGraphsOf_64 : decode cX7_sumGraphsOf 64 = .ok (.iload 4, 2) := by decide +kernel
theorem dX7_sumGraphsOf_66 : decode cX7_sumGraphsOf 66 = .ok (.invokevirtual 157, 3) := by decide +kernel
theorem dX7_sumGraphsOf_69 : decode cX7_sumGraphsOf 69 = .ok (.iload_n 3, 1) := by decide +kernel
theorem dX7_sumGraphsOf_70 : decode cX7_sumGraphsOf 70 = .ok (.iconst 1, 1) := by decide +kernel
theorem dX7_sumGraphsOf_71 : decode cX7_sumGraphsOf 71 = .ok (.if_icmp .ne 14, 3) := by decide +kernel
theorem dX7_sumGraphsOf_74 : decode cX7_sumGraphsOf 74 = .ok (.aload_n 2, 1) := by decide +kernel
theorem dX7_sumGraphsOf_75 : decode cX7_sumGraphsOf 75 = .ok (.aload_n 0, 1) := by decide +kernel
theorem dX7_sumGraphsOf_76 : decode cX7_sumGraphsOf 76 = .ok (.getfield 47, 3) := by decide +kernel
theorem dX7_sumGraphsOf_79 : decode cX7_sumGraphsOf 79 = .ok (.invokevirtual 139, 3) := by decide +kernel
theorem dX7_sumGraphsOf_82 : decode cX7_sumGraphsOf 82 = .ok (.goto 11, 3) := by decide +kernel
theorem dX7_sumGraphsOf_85 : decode cX7_sumGraphsOf 85 = .ok (.aload_n 2, 1) := by decide +kernel
theorem dX7_sumGraphsOf_86 : decode cX7_sumGraphsOf 86 = .ok (.aload_n 0, 1) := by decide +kernel
theorem dX7_sumGraphsOf_87 : decode cX7_sumGraphsOf 87 = .ok (.getfield 47, 3) := by decide +kernel
theorem dX7_sumGraphsOf_90 : decode cX7_sumGraphsOf 90 = .ok (.invokevirtual 151, 3) := by decide +kernel
theorem dX7_sumGraphsOf_93 : decode cX7_sumGraphsOf 93 = .ok (.iinc 4 1, 3) := by decide +kernel
theorem dX7_sumGraphsOf_96 : decode cX7_sumGraphsOf 96 = .ok (.goto (-68), 3) := by decide +kernel
theorem dX7_sumGraphsOf_99 : decode cX7_sumGraphsOf 99 = .ok (.iinc 3 (-1), 3) := by decide +kernel
theorem dX7_sumGraphsOf_102 : decode cX7_sumGraphsOf 102 = .ok (.goto (-81), 3) := by decide +kernel
theorem dX7_sumGraphsOf_105 : decode cX7_sumGraphsOf 105 = .ok (.return_, 1) := by decide +kernel
set_option maxRecDepth 20000 in
theorem ggX7_multiplyOut_X7_sum : GoodIn wsX7_multiplyOut wsX7_sum := goodIn_r _ [8, 9, 10, 55, 56, 57, 58, 59, 60, 61, 62, 63, 64, 65, 66] (by decide +kernel) (by decide +kernel)
set_option maxRecDepth 20000 in
theorem gX7_multiplyOut_X7_sum : GoodIn wsX7_multiplyOut (wsV RX7 88 RX7 yX7_sum wsX7_sum) := goodIn_app (goodIn_of _ (by decide +kernel)) ggX7_multiplyOut_X7_sum
set_option maxRecDepth 20000 in
theorem ggX7_multiplyOut_X1_copy : GoodIn wsX7_multiplyOut wsX1_copy := goodIn_r _ [15, 16, 17, 18, 19, 20, 21, 22, 23, 24, 25, 73, 74] (by decide +kernel) (by decide +kernel)
set_option maxRecDepth 20000 in
theorem gX7_multiplyOut_X1_copy : GoodIn wsX7_multiplyOut (wsV RX7 92 RX1 yX1_copy wsX1_copy) := goodIn_app (goodIn_of _ (by decide +kernel)) ggX7_multiplyOut_X1_copy
set_option maxRecDepth 20000 in
theorem ggX7_multiplyOut_X0_isIn : GoodIn wsX7_multiplyOut wsX0_isIn := goodIn_r _ [29] (by decide +kernel) (by decide +kernel)
set_option maxRecDepth 20000 in
theorem gX7_multiplyOut_X0_isIn : GoodIn wsX7_multiplyOut (va_wsS RX7 31 yX0_isIn wsX0_isIn) := goodIn_app (goodIn_of _ (by decide +kernel)) ggX7_multiplyOut_X0_isIn
set_option maxRecDepth 20000 in
theorem ggX7_multiplyOut_X7_weight : GoodIn wsX7_multiplyOut wsX7_weight := goodIn_r _ [33, 34, 10, 55, 56, 57, 58, 59, 60, 61, 62, 63, 64, 65, 66] (by decide +kernel) (by decide +kernel)
set_option maxRecDepth 20000 in
theorem gX7_multiplyOut_X7_weight : GoodIn wsX7_multiplyOut (wsV RX7 122 RX7 yX7_weight wsX7_weight) := goodIn_app (goodIn_of _ (by decide +kernel)) ggX7_multiplyOut_X7_weight
set_option maxRecDepth 20000 in
theorem ggX7_multiplyOut_X1_times : GoodIn wsX7_multiplyOut wsX1_times := goodIn_r _ [38, 16, 17, 18, 19, 20, 21, 39, 40, 41, 14, 42, 43, 44, 45, 46, 47, 48, 49, 50, 51, 52, 53, 54, 73, 74] (by decide +kernel) (by decide +kernel)
set_option maxRecDepth 20000 in
theorem gX7_multiplyOut_X1_times : GoodIn wsX7_multiplyOut (wsV RX7 160 RX1 yX1_times wsX1_times) := goodIn_app (goodIn_of _ (by decide +kernel)) ggX7_multiplyOut_X1_times
theorem dX7_multiplyOut_0 : decode cX7_multiplyOut 0 = .ok (.aload_n 0, 1) := by decide +kernel
theorem dX7_multiplyOut_1 : decode cX7_multiplyOut 1 = .ok (.getfield 47, 3) := by decide +kernel
theorem dX7_multiplyOut_4 : decode cX7_multiplyOut 4 = .ok (.aload_n 0, 1) := by decide +kernel
theorem dX7_multiplyOut_5 : decode cX7_multiplyOut 5 = .ok (.iload_n 1, 1) := by decide +kernel
theorem dX7_multiplyOut_6 : decode cX7_multiplyOut 6 = .ok (.invokevirtual 88, 3) := by decide +kernel
theorem dX7_multiplyOut_9 : decode cX7_multiplyOut 9 = .ok (.invokevirtual 92, 3) := by decide +kernel
theorem dX7_multiplyOut_12 : decode cX7_multiplyOut 12 = .ok (.iconst 0, 1) := by decide +kernel
theorem dX7_multiplyOut_13 : decode cX7_multiplyOut 13 = .ok (.istore_n 3, 1) := by decide +kernel
theorem dX7_multiplyOut_14 : decode cX7_multiplyOut 14 = .ok (.iload_n 3, 1) := by decide +kernel
theorem dX7_multiplyOut_15 : decode cX7_multiplyOut 15 = .ok (.aload_n 0, 1) := by decide +kernel
theorem dX7_multiplyOut_16 : decode cX7_multiplyOut 16 = .ok (.getfield 11, 3) := by decide +kernel
theorem dX7_multiplyOut_19 : decode cX7_multiplyOut 19 = .ok (.getfield 74, 3) := by decide +kernel
theorem dX7_multiplyOut_22 : decode cX7_multiplyOut 22 = .ok (.if_icmp .ge 30, 3) := by decide +kernel
theorem dX7_multiplyOut_25 : decode cX7_multiplyOut 25 = .ok (.iload_n 2, 1) := by decide +kernel
theorem dX7_multiplyOut_26 : decode cX7_multiplyOut 26 = .ok (.iload_n 3, 1) := by decide +kernel
theorem dX7_multiplyOut_27 : decode cX7_multiplyOut 27 = .ok (.invokestatic 31, 3) := by decide +kernel
theorem dX7_multiplyOut_30 : decode cX7_multiplyOut 30 = .ok (.ifCond .eq 16, 3) := by decide +kernel
theorem dX7_multiplyOut_33 : decode cX7_multiplyOut 33 = .ok (.aload_n 0, 1) := by decide +kernel
theorem dX7_multiplyOut_34 : decode cX7_multiplyOut 34 = .ok (.getfield 47, 3) := by decide +kernel
theorem dX7_multiplyOut_37 : decode cX7_multiplyOut 37 = .ok (.aload_n 0, 1) := by decide +kernel
theorem dX7_multiplyOut_38 : decode cX7_multiplyOut 38 = .ok (.iload_n 3, 1) := by decide +kernel
theorem dX7_multiplyOut_39 : decode cX7_multiplyOut 39 = .ok (.iload_n 1, 1) := by decide +kernel
theorem dX7_multiplyOut_40 : decode cX7_multiplyOut 40 = .ok (.invokevirtual 122, 3) := by decide +kernel
theorem dX7_multiplyOut_43 : decode cX7_multiplyOut 43 = .ok (.invokevirtual 160, 3) := by decide +kernel
theorem dX7_multiplyOut_46 : decode cX7_multiplyOut 46 = .ok (.iinc 3 1, 3) := by decide +kernel
theorem dX7_multiplyOut_49 : decode cX7_multiplyOut 49 = .ok (.goto (-35), 3) := by decide +kernel
theorem dX7_multiplyOut_52 : decode cX7_multiplyOut 52 = .ok (.return_, 1) := by decide +kernel
set_option maxRecDepth 20000 in
theorem ggX7_lower_X1_copy : GoodIn wsX7_lower wsX1_copy := goodIn_r _ [11, 12, 13, 14, 15, 16, 17, 18, 19, 20, 21, 106, 107] (by decide +kernel) (by decide +kernel)
set_option maxRecDepth 20000 in
theorem gX7_lower_X1_copy : GoodIn wsX7_lower (wsV RX7 92 RX1 yX1_copy wsX1_copy) := goodIn_app (goodIn_of _ (by decide +kernel)) ggX7_lower_X1_copy
set_option maxRecDepth 20000 in
theorem ggX7_lower_X1_commonDivisor : GoodIn wsX7_lower wsX1_commonDivisor := goodIn_r _ [24, 25, 12, 26, 27, 28, 10, 29, 30, 31, 16, 32, 33, 34, 35, 36, 37, 38, 39, 40, 41, 42, 43, 44, 45, 46, 47, 13, 48, 49, 50, 51, 52, 53, 54, 55, 56, 57, 58, 59, 60, 61, 62, 63, 64, 65, 66, 67, 68, 14, 15, 17, 69, 70, 71, 72, 73, 74, 75, 76, 77, 78, 79, 80, 106, 107] (by decide +kernel) (by decide +kernel)
set_option maxRecDepth 20000 in
theorem gX7_lower_X1_commonDivisor : GoodIn wsX7_lower (va_wsS RX7 163 yX1_commonDivisor wsX1_commonDivisor) := goodIn_app (goodIn_of _ (by decide +kernel)) ggX7_lower_X1_commonDivisor
set_option maxRecDepth 20000 in
theorem ggX7_lower_X7_divide : GoodIn wsX7_lower wsX7_divide := goodIn_r _ [85, 1, 6, 86, 87, 88, 10, 89, 12, 13, 90, 27, 28, 29, 30, 31, 16, 32, 33, 34, 35, 25, 36, 37, 38, 39, 40, 41, 42, 43, 44, 45, 46, 47, 48, 49, 50, 51, 52, 53, 54, 55, 56, 57, 58, 59, 60, 61, 62, 63, 64, 65, 66, 67, 68, 14, 15, 17, 69, 70, 71, 72, 73, 74, 75, 76, 77, 78, 79, 80, 7, 8, 9, 11, 18, 19, 20, 21, 91, 92, 93, 94, 95, 96, 97, 98, 99, 100, 101, 102, 106, 107] (by decide +kernel) (by decide +kernel)
set_option maxRecDepth 20000 in
theorem gX7_lower_X7_divide : GoodIn wsX7_lower (wsV RX7 167 RX7 yX7_divide wsX7_divide) := goodIn_app (goodIn_of _ (by decide +kernel)) ggX7_lower_X7_divide
theorem dX7_lower_0 : decode cX7_lower 0 = .ok (.aload_n 0, 1) := by decide +kernel
theorem dX7_lower_1 : decode cX7_lower 1 = .ok (.getfield 47, 3) := by decide +kernel
theorem dX7_lower_4 : decode cX7_lower 4 = .ok (.aload_n 0, 1) := by decide +kernel
theorem dX7_lower_5 : decode cX7_lower 5 = .ok (.getfield 59, 3) := by decide +kernel
theorem dX7_lower_8 : decode cX7_lower 8 = .ok (.getfield 85, 3) := by decide +kernel
theorem dX7_lower_11 : decode cX7_lower 11 = .ok (.invokevirtual 92, 3) := by decide +kernel
theorem dX7_lower_14 : decode cX7_lower 14 = .ok (.aload_n 0, 1) := by decide +kernel
theorem dX7_lower_15 : decode cX7_lower 15 = .ok (.getfield 50, 3) := by decide +kernel
theorem dX7_lower_18 : decode cX7_lower 18 = .ok (.aload_n 0, 1) := by decide +kernel
theorem dX7_lower_19 : decode cX7_lower 19 = .ok (.getfield 59, 3) := by decide +kernel
theorem dX7_lower_22 : decode cX7_lower 22 = .ok (.getfield 100, 3) := by decide +kernel
theorem dX7_lower_25 : decode cX7_lower 25 = .ok (.invokevirtual 92, 3) := by decide +kernel
theorem dX7_lower_28 : decode cX7_lower 28 = .ok (.aload_n 0, 1) := by decide +kernel
theorem dX7_lower_29 : decode cX7_lower 29 = .ok (.getfield 53, 3) := by decide +kernel
theorem dX7_lower_32 : decode cX7_lower 32 = .ok (.aload_n 0, 1) := by decide +kernel
theorem dX7_lower_33 : decode cX7_lower 33 = .ok (.getfield 47, 3) := by decide +kernel
theorem dX7_lower_36 : decode cX7_lower 36 = .ok (.aload_n 0, 1) := by decide +kernel
theorem dX7_lower_37 : decode cX7_lower 37 = .ok (.getfield 50, 3) := by decide +kernel
theorem dX7_lower_40 : decode cX7_lower 40 = .ok (.invokestatic 163, 3) := by decide +kernel
theorem dX7_lower_43 : decode cX7_lower 43 = .ok (.invokevirtual 92, 3) := by decide +kernel
theorem dX7_lower_46 : decode cX7_lower 46 = .ok (.aload_n 0, 1) := by decide +kernel
theorem dX7_lower_47 : decode cX7_lower 47 = .ok (.aload_n 0, 1) := by decide +kernel
theorem dX7_lower_48 : decode cX7_lower 48 = .ok (.getfield 59, 3) := by decide +kernel
theorem dX7_lower_51 : decode cX7_lower 51 = .ok (.getfield 100, 3) := by decide +kernel
theorem dX7_lower_54 : decode cX7_lower 54 = .ok (.invokevirtual 167, 3) := by decide +kernel
theorem dX7_lower_57 : decode cX7_lower 57 = .ok (.aload_n 0, 1) := by decide +kernel
theorem dX7_lower_58 : decode cX7_lower 58 = .ok (.aload_n 0, 1) := by decide +kernel
theorem dX7_lower_59 : decode cX7_lower 59 = .ok (.getfield 59, 3) := by decide +kernel
theorem dX7_lower_62 : decode cX7_lower 62 = .ok (.getfield 85, 3) := by decide +kernel
theorem dX7_lower_65 : decode cX7_lower 65 = .ok (.invokevirtual 167, 3) := by decide +kernel
theorem dX7_lower_68 : decode cX7_lower 68 = .ok (.return_, 1) := by decide +kernel
set_option maxRecDepth 20000 in
theorem ggX7_divide_X1_become : GoodIn wsX7_divide wsX1_become := goodIn_r _ [7, 8, 9, 90, 91] (by decide +kernel) (by decide +kernel)
set_option maxRecDepth 20000 in
theorem gX7_divide_X1_become : GoodIn wsX7_divide (wsV RX7 126 RX1 yX1_become wsX1_become) := goodIn_app (goodIn_of _ (by decide +kernel)) ggX7_divide_X1_become
set_option maxRecDepth 20000 in
theorem ggX7_divide_X1_reduceBy : GoodIn wsX7_divide wsX1_reduceBy := goodIn_r _ [13, 8, 14, 15, 16, 17, 18, 19, 20, 21, 22, 23, 24, 25, 26, 27, 28, 6, 29, 30, 31, 32, 33, 9, 34, 35, 36, 37, 38, 39, 40, 41, 42, 43, 44, 45, 46, 47, 48, 49, 50, 51, 52, 53, 54, 55, 56, 57, 58, 59, 60, 61, 62, 63, 64, 65, 66, 67, 68, 69, 90, 91] (by decide +kernel) (by decide +kernel)
set_option maxRecDepth 20000 in
theorem gX7_divide_X1_reduceBy : GoodIn wsX7_divide (wsV RX7 169 RX1 yX1_reduceBy wsX1_reduceBy) := goodIn_app (goodIn_of _ (by decide +kernel)) ggX7_divide_X1_reduceBy
set_option maxRecDepth 20000 in
theorem ggX7_divide_X1_copy : GoodIn wsX7_divide wsX1_copy := goodIn_r _ [73, 8, 9, 55, 56, 16, 57, 74, 75, 76, 77, 90, 91] (by decide +kernel) (by decide +kernel)
set_option maxRecDepth 20000 in
theorem gX7_divide_X1_copy : GoodIn wsX7_divide (wsV RX7 92 RX1 yX1_copy wsX1_copy) := goodIn_app (goodIn_of _ (by decide +kernel)) ggX7_divide_X1_copy
theorem dX7_divide_0 : decode cX7_divide 0 = .ok (.aload_n 0, 1) := by decide +kernel
theorem dX7_divide_1 : decode cX7_divide 1 = .ok (.getfield 47, 3) := by decide +kernel
theorem dX7_divide_4 : decode cX7_divide 4 = .ok (.iconst 0, 1) := by decide +kernel
theorem dX7_divide_5 : decode cX7_divide 5 = .ok (.invokevirtual 126, 3) := by decide +kernel
theorem dX7_divide_8 : decode cX7_divide 8 = .ok (.aload_n 1, 1) := by decide +kernel
theorem dX7_divide_9 : decode cX7_divide 9 = .ok (.aload_n 0, 1) := by decide +kernel
theorem dX7_divide_10 : decode cX7_divide 10 = .ok (.getfield 53, 3) := by decide +kernel
theorem dX7_divide_13 : decode cX7_divide 13 = .ok (.aload_n 0, 1) := by decide +kernel
theorem dX7_divide_14 : decode cX7_divide 14 = .ok (.getfield 47, 3) := by decide +kernel
theorem dX7_divide_17 : decode cX7_divide 17 = .ok (.invokevirtual 169, 3) := by decide +kernel
theorem dX7_divide_20 : decode cX7_divide 20 = .ok (.aload_n 1, 1) := by decide +kernel
theorem dX7_divide_21 : decode cX7_divide 21 = .ok (.aload_n 0, 1) := by decide +kernel
theorem dX7_divide_22 : decode cX7_divide 22 = .ok (.getfield 47, 3) := by decide +kernel
theorem dX7_divide_25 : decode cX7_divide 25 = .ok (.invokevirtual 92, 3) := by decide +kernel
theorem dX7_divide_28 : decode cX7_divide 28 = .ok (.return_, 1) := by decide +kernel
theorem dX7_weight_0 : decode cX7_weight 0 = .ok (.iload_n 1, 1) := by decide +kernel
theorem dX7_weight_1 : decode cX7_weight 1 = .ok (.bipush 16, 2) := by decide +kernel
theorem dX7_weight_3 : decode cX7_weight 3 = .ok (.imul, 1) := by decide +kernel
theorem dX7_weight_4 : decode cX7_weight 4 = .ok (.iload_n 2, 1) := by decide +kernel
theorem dX7_weight_5 : decode cX7_weight 5 = .ok (.iadd, 1) := by decide +kernel
theorem dX7_weight_6 : decode cX7_weight 6 = .ok (.istore_n 3, 1) := by decide +kernel
theorem dX7_weight_7 : decode cX7_weight 7 = .ok (.iload_n 3, 1) := by decide +kernel
theorem dX7_weight_8 : decode cX7_weight 8 = .ok (.ifCond .lt 30, 3) := by decide +kernel
theorem dX7_weight_11 : decode cX7_weight 11 = .ok (.iload_n 3, 1) := by decide +kernel
theorem dX7_weight_12 : decode cX7_weight 12 = .ok (.aload_n 0, 1) := by decide +kernel
theorem dX7_weight_13 : decode cX7_weight 13 = .ok (.getfield 27, 3) := by decide +kernel
theorem dX7_weight_16 : decode cX7_weight 16 = .ok (.arraylength, 1) := by decide +kernel
theorem dX7_weight_17 : decode cX7_weight 17 = .ok (.if_icmp .ge 21, 3) := by decide +kernel
theorem dX7_weight_20 : decode cX7_weight 20 = .ok (.aload_n 0, 1) := by decide +kernel
theorem dX7_weight_21 : decode cX7_weight 21 = .ok (.getfield 27, 3) := by decide +kernel
theorem dX7_weight_24 : decode cX7_weight 24 = .ok (.iload_n 3, 1) := by decide +kernel
theorem dX7_weight_25 : decode cX7_weight 25 = .ok (.aaload, 1) := by decide +kernel
theorem dX7_weight_26 : decode cX7_weight 26 = .ok (.ifnull 12, 3) := by decide +kernel
theorem dX7_weight_29 : decode cX7_weight 29 = .ok (.aload_n 0, 1) := by decide +kernel
theorem dX7_weight_30 : decode cX7_weight 30 = .ok (.getfield 27, 3) := by decide +kernel
theorem dX7_weight_33 : decode cX7_weight 33 = .ok (.iload_n 3, 1) := by decide +kernel
theorem dX7_weight_34 : decode cX7_weight 34 = .ok (.aaload, 1) := by decide +kernel
theorem dX7_weight_35 : decode cX7_weight 35 = .ok (.goto 7, 3) := by decide +kernel
theorem dX7_weight_38 : decode cX7_weight 38 = .ok (.aload_n 0, 1) := by decide +kernel
theorem dX7_weight_39 : decode cX7_weight 39 = .ok (.getfield 43, 3) := by decide +kernel
theorem dX7_weight_42 : decode cX7_weight 42 = .ok (.areturn, 1) := by decide +kernel
theorem dX7_sum_0 : decode cX7_sum 0 = .ok (.iload_n 1, 1) := by decide +kernel
theorem dX7_sum_1 : decode cX7_sum 1 = .ok (.ifCond .lt 30, 3) := by decide +kernel
theorem dX7_sum_4 : decode cX7_sum 4 = .ok (.iload_n 1, 1) := by decide +kernel
theorem dX7_sum_5 : decode cX7_sum 5 = .ok (.aload_n 0, 1) := by decide +kernel
theorem dX7_sum_6 : decode cX7_sum 6 = .ok (.getfield 40, 3) := by decide +kernel
theorem dX7_sum_9 : decode cX7_sum 9 = .ok (.arraylength, 1) := by decide +kernel
theorem dX7_sum_10 : decode cX7_sum 10 = .ok (.if_icmp .ge 21, 3) := by decide +kernel
theorem dX7_sum_13 : decode cX7_sum 13 = .ok (.aload_n 0, 1) := by decide +kernel
theorem dX7_sum_14 : decode cX7_sum 14 = .ok (.getfield 40, 3) := by decide +kernel
theorem dX7_sum_17 : decode cX7_sum 17 = .ok (.iload_n 1, 1) := by decide +kernel
theorem dX7_sum_18 : decode cX7_sum 18 = .ok (.aaload, 1) := by decide +kernel
theorem dX7_sum_19 : decode cX7_sum 19 = .ok (.ifnull 12, 3) := by decide +kernel
theorem dX7_sum_22 : decode cX7_sum 22 = .ok (.aload_n 0, 1) := by decide +kernel
theorem dX7_sum_23 : decode cX7_sum 23 = .ok (.getfield 40, 3) := by decide +kernel
theorem dX7_sum_26 : decode cX7_sum 26 = .ok (.iload_n 1, 1) := by decide +kernel
theorem dX7_sum_27 : decode cX7_sum 27 = .ok (.aaload, 1) := by decide +kernel
theorem dX7_sum_28 : decode cX7_sum 28 = .ok (.goto 7, 3) := by decide +kernel
theorem dX7_sum_31 : decode cX7_sum 31 = .ok (.aload_n 0, 1) := by decide +kernel
theorem dX7_sum_32 : decode cX7_sum 32 = .ok (.getfield 43, 3) := by decide +kernel
theorem dX7_sum_35 : decode cX7_sum 35 = .ok (.areturn, 1) := by decide +kernel
set_option maxRecDepth 20000 in
theorem ggX8_init_X8_startAnew : GoodIn wsX8_init wsX8_startAnew := goodIn_r _ [11, 12, 13, 14, 15, 16, 17, 18, 19, 20, 21] (by decide +kernel) (by decide +kernel)
set_option maxRecDepth 20000 in
theorem gX8_init_X8_startAnew : GoodIn wsX8_init (wsV RX8 18 RX8 yX8_startAnew wsX8_startAnew) := goodIn_app (goodIn_of _ (by decide +kernel)) ggX8_init_X8_startAnew
theorem dX8_init_0 : decode cX8_init 0 = .ok (.aload_n 0, 1) := by decide +kernel
theorem dX8_init_1 : decode cX8_init 1 = .ok (.invokespecial 3, 3) := by decide +kernel
theorem dX8_init_4 : decode cX8_init 4 = .ok (.aload_n 0, 1) := by decide +kernel
theorem dX8_init_5 : decode cX8_init 5 = .ok (.iconst 5, 1) := by decide +kernel
theorem dX8_init_6 : decode cX8_init 6 = .ok (.newarray .int, 2) := by decide +kernel
theorem dX8_init_8 : decode cX8_init 8 = .ok (.putfield 9, 3) := by decide +kernel
theorem dX8_init_11 : decode cX8_init 11 = .ok (.aload_n 0, 1) := by decide +kernel
theorem dX8_init_12 : decode cX8_init 12 = .ok (.bipush 16, 2) := by decide +kernel
theorem dX8_init_14 : decode cX8_init 14 = .ok (.newarray .int, 2) := by decide +kernel
theorem dX8_init_16 : decode cX8_init 16 = .ok (.putfield 15, 3) := by decide +kernel
theorem dX8_init_19 : decode cX8_init 19 = .ok (.aload_n 0, 1) := by decide +kernel
theorem dX8_init_20 : decode cX8_init 20 = .ok (.invokevirtual 18, 3) := by decide +kernel
theorem dX8_init_23 : decode cX8_init 23 = .ok (.return_, 1) := by decide +kernel
theorem dX8_startAnew_0 : decode cX8_startAnew 0 = .ok (.aload_n 0, 1) := by decide +kernel
theorem dX8_startAnew_1 : decode cX8_startAnew 1 = .ok (.iconst 0, 1) := by decide +kernel
theorem dX8_startAnew_2 : decode cX8_startAnew 2 = .ok (.putfield 21, 3) := by decide +kernel
theorem dX8_startAnew_5 : decode cX8_startAnew 5 = .ok (.aload_n 0, 1) := by decide +kernel
theorem dX8_startAnew_6 : decode cX8_startAnew 6 = .ok (.iconst 0, 1) := by decide +kernel
theorem dX8_startAnew_7 : decode cX8_startAnew 7 = .ok (.putfield 25, 3) := by decide +kernel
theorem dX8_startAnew_10 : decode cX8_startAnew 10 = .ok (.aload_n 0, 1) := by decide +kernel
theorem dX8_startAnew_11 : decode cX8_startAnew 11 = .ok (.iconst 1, 1) := by decide +kernel
theorem dX8_startAnew_12 : decode cX8_startAnew 12 = .ok (.putfield 28, 3) := by decide +kernel
theorem dX8_startAnew_15 : decode cX8_startAnew 15 = .ok (.aload_n 0, 1) := by decide +kernel
theorem dX8_startAnew_16 : decode cX8_startAnew 16 = .ok (.iconst 4, 1) := by decide +kernel
theorem dX8_startAnew_17 : decode cX8_startAnew 17 = .ok (.putfield 31, 3) := by decide +kernel
theorem dX8_startAnew_20 : decode cX8_startAnew 20 = .ok (.return_, 1) := by decide +kernel
theorem dX8_addName_0 : decode cX8_addName 0 = .ok (.aload_n 0, 1) := by decide +kernel
theorem dX8_addName_1 : decode cX8_addName 1 = .ok (.getfield 21, 3) := by decide +kernel
theorem dX8_addName_4 : decode cX8_addName 4 = .ok (.ifCond .lt 15, 3) := by decide +kernel
theorem dX8_addName_7 : decode cX8_addName 7 = .ok (.aload_n 0, 1) := by decide +kernel
theorem dX8_addName_8 : decode cX8_addName 8 = .ok (.getfield 21, 3) := by decide +kernel
theorem dX8_addName_11 : decode cX8_addName 11 = .ok (.aload_n 0, 1) := by decide +kernel
theorem dX8_addName_12 : decode cX8_addName 12 = .ok (.getfield 9, 3) := by decide +kernel
theorem dX8_addName_15 : decode cX8_addName 15 = .ok (.arraylength, 1) := by decide +kernel
theorem dX8_addName_16 : decode cX8_addName 16 = .ok (.if_icmp .lt 6, 3) := by decide +kernel
theorem dX8_addName_19 : decode cX8_addName 19 = .ok (.bipush (-3), 2) := by decide +kernel
theorem dX8_addName_21 : decode cX8_addName 21 = .ok (.ireturn, 1) := by decide +kernel
theorem dX8_addName_22 : decode cX8_addName 22 = .ok (.aload_n 0, 1) := by decide +kernel
theorem dX8_addName_23 : decode cX8_addName 23 = .ok (.getfield 9, 3) := by decide +kernel
theorem dX8_addName_26 : decode cX8_addName 26 = .ok (.aload_n 0, 1) := by decide +kernel
theorem dX8_addName_27 : decode cX8_addName 27 = .ok (.getfield 21, 3) := by decide +kernel
theorem dX8_addName_30 : decode cX8_addName 30 = .ok (.iload_n 1, 1) := by decide +kernel
theorem dX8_addName_31 : decode cX8_addName 31 = .ok (.iastore, 1) := by decide +kernel
theorem dX8_addName_32 : decode cX8_addName 32 = .ok (.aload_n 0, 1) := by decide +kernel
theorem dX8_addName_33 : decode cX8_addName 33 = .ok (.dup, 1) := by decide +kernel
theorem dX8_addName_34 : decode cX8_addName 34 = .ok (.getfield 21, 3) := by decide +kernel
theorem dX8_addName_37 : decode cX8_addName 37 = .ok (.iconst 1, 1) := by decide +kernel
theorem dX8_addName_38 : decode cX8_addName 38 = .ok (.iadd, 1) := by decide +kernel
theorem dX8_addName_39 : decode cX8_addName 39 = .ok (.putfield 21, 3) := by decide +kernel
theorem dX8_addName_42 : decode cX8_addName 42 = .ok (.aload_n 0, 1) := by decide +kernel
theorem dX8_addName_43 : decode cX8_addName 43 = .ok (.getfield 21, 3) := by decide +kernel
theorem dX8_addName_46 : decode cX8_addName 46 = .ok (.iconst 1, 1) := by decide +kernel
theorem dX8_addName_47 : decode cX8_addName 47 = .ok (.isub, 1) := by decide +kernel
theorem dX8_addName_48 : decode cX8_addName 48 = .ok (.ireturn, 1) := by decide +kernel
theorem dX8_addRow_0 : decode cX8_addRow 0 = .ok (.aload_n 0, 1) := by decide +kernel
theorem dX8_addRow_1 : decode cX8_addRow 1 = .ok (.getfield 25, 3) := by decide +kernel
theorem dX8_addRow_4 : decode cX8_addRow 4 = .ok (.ifCond .lt 15, 3) := by decide +kernel
theorem dX8_addRow_7 : decode cX8_addRow 7 = .ok (.aload_n 0, 1) := by decide +kernel
theorem dX8_addRow_8 : decode cX8_addRow 8 = .ok (.getfield 25, 3) := by decide +kernel
theorem dX8_addRow_11 : decode cX8_addRow 11 = .ok (.aload_n 0, 1) := by decide +kernel
theorem dX8_addRow_12 : decode cX8_addRow 12 = .ok (.getfield 15, 3) := by decide +kernel
theorem dX8_addRow_15 : decode cX8_addRow 15 = .ok (.arraylength, 1) := by decide +kernel
theorem dX8_addRow_16 : decode cX8_addRow 16 = .ok (.if_icmp .lt 6, 3) := by decide +kernel
theorem dX8_addRow_19 : decode cX8_addRow 19 = .ok (.bipush (-3), 2) := by decide +kernel
theorem dX8_addRow_21 : decode cX8_addRow 21 = .ok (.ireturn, 1) := by decide +kernel
theorem dX8_addRow_22 : decode cX8_addRow 22 = .ok (.aload_n 0, 1) := by decide +kernel
theorem dX8_addRow_23 : decode cX8_addRow 23 = .ok (.getfield 15, 3) := by decide +kernel
theorem dX8_addRow_26 : decode cX8_addRow 26 = .ok (.aload_n 0, 1) := by decide +kernel
theorem dX8_addRow_27 : decode cX8_addRow 27 = .ok (.getfield 25, 3) := by decide +kernel
theorem dX8_addRow_30 : decode cX8_addRow 30 = .ok (.iload_n 1, 1) := by decide +kernel
theorem dX8_addRow_31 : decode cX8_addRow 31 = .ok (.iastore, 1) := by decide +kernel
theorem dX8_addRow_32 : decode cX8_addRow 32 = .ok (.aload_n 0, 1) := by decide +kernel
theorem dX8_addRow_33 : decode cX8_addRow 33 = .ok (.dup, 1) := by decide +kernel
theorem dX8_addRow_34 : decode cX8_addRow 34 = .ok (.getfield 25, 3) := by decide +kernel
theorem dX8_addRow_37 : decode cX8_addRow 37 = .ok (.iconst 1, 1) := by decide +kernel
theorem dX8_addRow_38 : decode cX8_addRow 38 = .ok (.iadd, 1) := by decide +kernel
theorem dX8_addRow_39 : decode cX8_addRow 39 = .ok (.putfield 25, 3) := by decide +kernel
theorem dX8_addRow_42 : decode cX8_addRow 42 = .ok (.aload_n 0, 1) := by decide +kernel
theorem dX8_addRow_43 : decode cX8_addRow 43 = .ok (.getfield 25, 3) := by decide +kernel
theorem dX8_addRow_46 : decode cX8_addRow 46 = .ok (.iconst 1, 1) := by decide +kernel
theorem dX8_addRow_47 : decode cX8_addRow 47 = .ok (.isub, 1) := by decide +kernel
theorem dX8_addRow_48 : decode cX8_addRow 48 = .ok (.ireturn, 1) := by decide +kernel
theorem dX8_removeRow_0 : decode cX8_removeRow 0 = .ok (.iload_n 1, 1) := by decide +kernel
theorem dX8_removeRow_1 : decode cX8_removeRow 1 = .ok (.istore_n 2, 1) := by decide +kernel
theorem dX8_removeRow_2 : decode cX8_removeRow 2 = .ok (.iload_n 2, 1) := by decide +kernel
theorem dX8_removeRow_3 : decode cX8_removeRow 3 = .ok (.ifCond .lt 44, 3) := by decide +kernel
theorem dX8_removeRow_6 : decode cX8_removeRow 6 = .ok (.iload_n 2, 1) := by decide +kernel
theorem dX8_removeRow_7 : decode cX8_removeRow 7 = .ok (.iconst 1, 1) := by decide +kernel
theorem dX8_removeRow_8 : decode cX8_removeRow 8 = .ok (.iadd, 1) := by decide +kernel
theorem dX8_removeRow_9 : decode cX8_removeRow 9 = .ok (.aload_n 0, 1) := by decide +kernel
theorem dX8_removeRow_10 : decode cX8_removeRow 10 = .ok (.getfield 25, 3) := by decide +kernel
theorem dX8_removeRow_13 : decode cX8_removeRow 13 = .ok (.if_icmp .ge 34, 3) := by decide +kernel
theorem dX8_removeRow_16 : decode cX8_removeRow 16 = .ok (.iload_n 2, 1) := by decide +kernel
theorem dX8_removeRow_17 : decode cX8_removeRow 17 = .ok (.iconst 1, 1) := by decide +kernel
theorem dX8_removeRow_18 : decode cX8_removeRow 18 = .ok (.iadd, 1) := by decide +kernel
theorem dX8_removeRow_19 : decode cX8_removeRow 19 = .ok (.aload_n 0, 1) := by decide +kernel
theorem dX8_removeRow_20 : decode cX8_removeRow 20 = .ok (.getfield 15, 3) := by decide +kernel
theorem dX8_removeRow_23 : decode cX8_removeRow 23 = .ok (.arraylength, 1) := by decide +kernel
theorem dX8_removeRow_24 : decode cX8_removeRow 24 = .ok (.if_icmp .ge 23, 3) := by decide +kernel
theorem dX8_removeRow_27 : decode cX8_removeRow 27 = .ok (.aload_n 0, 1) := by decide +kernel
theorem dX8_removeRow_28 : decode cX8_removeRow 28 = .ok (.getfield 15, 3) := by decide +kernel
theorem dX8_removeRow_31 : decode cX8_removeRow 31 = .ok (.iload_n 2, 1) := by decide +kernel
theorem dX8_removeRow_32 : decode cX8_removeRow 32 = .ok (.aload_n 0, 1) := by decide +kernel
theorem dX8_removeRow_33 : decode cX8_removeRow 33 = .ok (.getfield 15, 3) := by decide +kernel
theorem dX8_removeRow_36 : decode cX8_removeRow 36 = .ok (.iload_n 2, 1) := by decide +kernel
theorem dX8_removeRow_37 : decode cX8_removeRow 37 = .ok (.iconst 1, 1) := by decide +kernel
theorem dX8_removeRow_38 : decode cX8_removeRow 38 = .ok (.iadd, 1) := by decide +kernel
theorem dX8_removeRow_39 : decode cX8_removeRow 39 = .ok (.iaload, 1) := by decide +kernel
theorem dX8_removeRow_40 : decode cX8_removeRow 40 = .ok (.iastore, 1) := by decide +kernel
theorem dX8_removeRow_41 : decode cX8_removeRow 41 = .ok (.iinc 2 1, 3) := by decide +kernel
theorem dX8_removeRow_44 : decode cX8_removeRow 44 = .ok (.goto (-42), 3) := by decide +kernel
theorem dX8_removeRow_47 : decode cX8_removeRow 47 = .ok (.aload_n 0, 1) := by decide +kernel
theorem dX8_removeRow_48 : decode cX8_removeRow 48 = .ok (.dup, 1) := by decide +kernel
theorem dX8_removeRow_49 : decode cX8_removeRow 49 = .ok (.getfield 25, 3) := by decide +kernel
theorem dX8_removeRow_52 : decode cX8_removeRow 52 = .ok (.iconst 1, 1) := by decide +kernel
theorem dX8_removeRow_53 : decode cX8_removeRow 53 = .ok (.isub, 1) := by decide +kernel
theorem dX8_removeRow_54 : decode cX8_removeRow 54 = .ok (.putfield 25, 3) := by decide +kernel
theorem dX8_removeRow_57 : decode cX8_removeRow 57 = .ok (.aload_n 0, 1) := by decide +kernel
theorem dX8_removeRow_58 : decode cX8_removeRow 58 = .ok (.getfield 25, 3) := by decide +kernel
theorem dX8_removeRow_61 : decode cX8_removeRow 61 = .ok (.ireturn, 1) := by decide +kernel
theorem dX8_valuesOf_0 : decode cX8_valuesOf 0 = .ok (.iload_n 1, 1) := by decide +kernel
theorem dX8_valuesOf_1 : decode cX8_valuesOf 1 = .ok (.ifCond .lt 29, 3) := by decide +kernel
theorem dX8_valuesOf_4 : decode cX8_valuesOf 4 = .ok (.iload_n 1, 1) := by decide +kernel
theorem dX8_valuesOf_5 : decode cX8_valuesOf 5 = .ok (.aload_n 0, 1) := by decide +kernel
theorem dX8_valuesOf_6 : decode cX8_valuesOf 6 = .ok (.getfield 21, 3) := by decide +kernel
theorem dX8_valuesOf_9 : decode cX8_valuesOf 9 = .ok (.if_icmp .ge 21, 3) := by decide +kernel
theorem dX8_valuesOf_12 : decode cX8_valuesOf 12 = .ok (.iload_n 1, 1) := by decide +kernel
theorem dX8_valuesOf_13 : decode cX8_valuesOf 13 = .ok (.aload_n 0, 1) := by decide +kernel
theorem dX8_valuesOf_14 : decode cX8_valuesOf 14 = .ok (.getfield 9, 3) := by decide +kernel
theorem dX8_valuesOf_17 : decode cX8_valuesOf 17 = .ok (.arraylength, 1) := by decide +kernel
theorem dX8_valuesOf_18 : decode cX8_valuesOf 18 = .ok (.if_icmp .ge 12, 3) := by decide +kernel
theorem dX8_valuesOf_21 : decode cX8_valuesOf 21 = .ok (.aload_n 0, 1) := by decide +kernel
theorem dX8_valuesOf_22 : decode cX8_valuesOf 22 = .ok (.getfield 9, 3) := by decide +kernel
theorem dX8_valuesOf_25 : decode cX8_valuesOf 25 = .ok (.iload_n 1, 1) := by decide +kernel
theorem dX8_valuesOf_26 : decode cX8_valuesOf 26 = .ok (.iaload, 1) := by decide +kernel
theorem dX8_valuesOf_27 : decode cX8_valuesOf 27 = .ok (.goto 4, 3) := by decide +kernel
theorem dX8_valuesOf_30 : decode cX8_valuesOf 30 = .ok (.iconst 1, 1) := by decide +kernel
theorem dX8_valuesOf_31 : decode cX8_valuesOf 31 = .ok (.ireturn, 1) := by decide +kernel
set_option maxRecDepth 20000 in
theorem ggX8_valueIn_X8_codeOf : GoodIn wsX8_valueIn wsX8_codeOf := goodIn_r _ [5, 6, 7, 8, 9, 10, 11, 12, 13] (by decide +kernel) (by decide +kernel)
set_option maxRecDepth 20000 in
theorem gX8_valueIn_X8_codeOf : GoodIn wsX8_valueIn (wsV RX8 34 RX8 yX8_codeOf wsX8_codeOf) := goodIn_app (goodIn_of _ (by decide +kernel)) ggX8_valueIn_X8_codeOf
theorem dX8_valueIn_0 : decode cX8_valueIn 0 = .ok (.aload_n 0, 1) := by decide +kernel
theorem dX8_valueIn_1 : decode cX8_valueIn 1 = .ok (.iload_n 1, 1) := by decide +kernel
theorem dX8_valueIn_2 : decode cX8_valueIn 2 = .ok (.invokevirtual 34, 3) := by decide +kernel
theorem dX8_valueIn_5 : decode cX8_valueIn 5 = .ok (.iconst 2, 1) := by decide +kernel
theorem dX8_valueIn_6 : decode cX8_valueIn 6 = .ok (.iload_n 2, 1) := by decide +kernel
theorem dX8_valueIn_7 : decode cX8_valueIn 7 = .ok (.imul, 1) := by decide +kernel
theorem dX8_valueIn_8 : decode cX8_valueIn 8 = .ok (.ishr, 1) := by decide +kernel
theorem dX8_valueIn_9 : decode cX8_valueIn 9 = .ok (.iconst 3, 1) := by decide +kernel
theorem dX8_valueIn_10 : decode cX8_valueIn 10 = .ok (.iand, 1) := by decide +kernel
theorem dX8_valueIn_11 : decode cX8_valueIn 11 = .ok (.ireturn, 1) := by decide +kernel
set_option maxRecDepth 20000 in
theorem ggX8_pourFit_X8_valuesOf : GoodIn wsX8_pourFit wsX8_valuesOf := goodIn_r _ [8, 1, 9, 31, 32, 33, 34, 35, 36] (by decide +kernel) (by decide +kernel)
set_option maxRecDepth 20000 in
theorem gX8_pourFit_X8_valuesOf : GoodIn wsX8_pourFit (wsV RX8 38 RX8 yX8_valuesOf wsX8_valuesOf) := goodIn_app (goodIn_of _ (by decide +kernel)) ggX8_pourFit_X8_valuesOf
set_option maxRecDepth 20000 in
theorem ggX8_pourFit_X0_isIn : GoodIn wsX8_pourFit wsX0_isIn := goodIn_r _ [13] (by decide +kernel) (by decide +kernel)
set_option maxRecDepth 20000 in
theorem gX8_pourFit_X0_isIn : GoodIn wsX8_pourFit (va_wsS RX8 41 yX0_isIn wsX0_isIn) := goodIn_app (goodIn_of _ (by decide +kernel)) ggX8_pourFit_X0_isIn
set_option maxRecDepth 20000 in
theorem ggX8_pourFit_X8_codeOf : GoodIn wsX8_pourFit wsX8_codeOf := goodIn_r _ [17, 2, 18, 31, 32, 33, 34, 35, 36] (by decide +kernel) (by decide +kernel)
set_option maxRecDepth 20000 in
theorem gX8_pourFit_X8_codeOf : GoodIn wsX8_pourFit (wsV RX8 34 RX8 yX8_codeOf wsX8_codeOf) := goodIn_app (goodIn_of _ (by decide +kernel)) ggX8_pourFit_X8_codeOf
set_option maxRecDepth 20000 in
theorem ggX8_pourFit_X5_multiply : GoodIn wsX8_pourFit wsX5_multiply := goodIn_r _ [23, 24, 25, 26, 27, 28, 29, 30, 37, 38] (by decide +kernel) (by decide +kernel)
set_option maxRecDepth 20000 in
theorem gX8_pourFit_X5_multiply : GoodIn wsX8_pourFit (wsV RX8 47 RX5 yX5_multiply wsX5_multiply) := goodIn_app (goodIn_of _ (by decide +kernel)) ggX8_pourFit_X5_multiply
theorem dX8_pourFit_0 : decode cX8_pourFit 0 = .ok (.aload_n 0, 1) := by decide +kernel
theorem dX8_pourFit_1 : decode cX8_pourFit 1 = .ok (.iload_n 1, 1) := by decide +kernel
theorem dX8_pourFit_2 : decode cX8_pourFit 2 = .ok (.invokevirtual 38, 3) := by decide +kernel
theorem dX8_pourFit_5 : decode cX8_pourFit 5 = .ok (.istore 4, 2) := by decide +kernel
theorem dX8_pourFit_7 : decode cX8_pourFit 7 = .ok (.iconst 3, 1) := by decide +kernel
theorem dX8_pourFit_8 : decode cX8_pourFit 8 = .ok (.iconst 2, 1) := by decide +kernel
theorem dX8_pourFit_9 : decode cX8_pourFit 9 = .ok (.iload_n 1, 1) := by decide +kernel
theorem dX8_pourFit_10 : decode cX8_pourFit 10 = .ok (.imul, 1) := by decide +kernel
theorem dX8_pourFit_11 : decode cX8_pourFit 11 = .ok (.ishl, 1) := by decide +kernel
theorem dX8_pourFit_12 : decode cX8_pourFit 12 = .ok (.istore 5, 2) := by decide +kernel
theorem dX8_pourFit_14 : decode cX8_pourFit 14 = .ok (.iconst 0, 1) := by decide +kernel
theorem dX8_pourFit_15 : decode cX8_pourFit 15 = .ok (.istore 6, 2) := by decide +kernel
theorem dX8_pourFit_17 : decode cX8_pourFit 17 = .ok (.iload 4, 2) := by decide +kernel
theorem dX8_pourFit_19 : decode cX8_pourFit 19 = .ok (.istore 7, 2) := by decide +kernel
theorem dX8_pourFit_21 : decode cX8_pourFit 21 = .ok (.iconst 0, 1) := by decide +kernel
theorem dX8_pourFit_22 : decode cX8_pourFit 22 = .ok (.istore 8, 2) := by decide +kernel
theorem dX8_pourFit_24 : decode cX8_pourFit 24 = .ok (.iload 8, 2) := by decide +kernel
theorem dX8_pourFit_26 : decode cX8_pourFit 26 = .ok (.aload_n 0, 1) := by decide +kernel
theorem dX8_pourFit_27 : decode cX8_pourFit 27 = .ok (.getfield 21, 3) := by decide +kernel
theorem dX8_pourFit_30 : decode cX8_pourFit 30 = .ok (.if_icmp .ge 40, 3) := by decide +kernel
theorem dX8_pourFit_33 : decode cX8_pourFit 33 = .ok (.iload_n 2, 1) := by decide +kernel
theorem dX8_pourFit_34 : decode cX8_pourFit 34 = .ok (.iload 8, 2) := by decide +kernel
theorem dX8_pourFit_36 : decode cX8_pourFit 36 = .ok (.invokestatic 41, 3) := by decide +kernel
theorem dX8_pourFit_39 : decode cX8_pourFit 39 = .ok (.ifCond .eq 25, 3) := by decide +kernel
theorem dX8_pourFit_42 : decode cX8_pourFit 42 = .ok (.iload 6, 2) := by decide +kernel
theorem dX8_pourFit_44 : decode cX8_pourFit 44 = .ok (.iconst 3, 1) := by decide +kernel
theorem dX8_pourFit_45 : decode cX8_pourFit 45 = .ok (.iconst 2, 1) := by decide +kernel
theorem dX8_pourFit_46 : decode cX8_pourFit 46 = .ok (.iload 8, 2) := by decide +kernel
theorem dX8_pourFit_48 : decode cX8_pourFit 48 = .ok (.imul, 1) := by decide +kernel
theorem dX8_pourFit_49 : decode cX8_pourFit 49 = .ok (.ishl, 1) := by decide +kernel
theorem dX8_pourFit_50 : decode cX8_pourFit 50 = .ok (.ior, 1) := by decide +kernel
theorem dX8_pourFit_51 : decode cX8_pourFit 51 = .ok (.istore 6, 2) := by decide +kernel
theorem dX8_pourFit_53 : decode cX8_pourFit 53 = .ok (.iload 7, 2) := by decide +kernel
theorem dX8_pourFit_55 : decode cX8_pourFit 55 = .ok (.aload_n 0, 1) := by decide +kernel
theorem dX8_pourFit_56 : decode cX8_pourFit 56 = .ok (.iload 8, 2) := by decide +kernel
theorem dX8_pourFit_58 : decode cX8_pourFit 58 = .ok (.invokevirtual 38, 3) := by decide +kernel
theorem dX8_pourFit_61 : decode cX8_pourFit 61 = .ok (.imul, 1) := by decide +kernel
theorem dX8_pourFit_62 : decode cX8_pourFit 62 = .ok (.istore 7, 2) := by decide +kernel
theorem dX8_pourFit_64 : decode cX8_pourFit 64 = .ok (.iinc 8 1, 3) := by decide +kernel
theorem dX8_pourFit_67 : decode cX8_pourFit 67 = .ok (.goto (-43), 3) := by decide +kernel
theorem dX8_pourFit_70 : decode cX8_pourFit 70 = .ok (.iconst 0, 1) := by decide +kernel
theorem dX8_pourFit_71 : decode cX8_pourFit 71 = .ok (.istore 8, 2) := by decide +kernel
theorem dX8_pourFit_73 : decode cX8_pourFit 73 = .ok (.iload 8, 2) := by decide +kernel
theorem dX8_pourFit_75 : decode cX8_pourFit 75 = .ok (.aload_n 0, 1) := by decide +kernel
theorem dX8_pourFit_76 : decode cX8_pourFit 76 = .ok (.getfield 25, 3) := by decide +kernel
theorem dX8_pourFit_79 : decode cX8_pourFit 79 = .ok (.if_icmp .ge 104, 3) := by decide +kernel
theorem dX8_pourFit_82 : decode cX8_pourFit 82 = .ok (.iconst 0, 1) := by decide +kernel
theorem dX8_pourFit_83 : decode cX8_pourFit 83 = .ok (.istore 9, 2) := by decide +kernel
theorem dX8_pourFit_85 : decode cX8_pourFit 85 = .ok (.iconst 0, 1) := by decide +kernel
theorem dX8_pourFit_86 : decode cX8_pourFit 86 = .ok (.istore 10, 2) := by decide +kernel
theorem dX8_pourFit_88 : decode cX8_pourFit 88 = .ok (.iconst 0, 1) := by decide +kernel
theorem dX8_pourFit_89 : decode cX8_pourFit 89 = .ok (.istore 11, 2) := by decide +kernel
theorem dX8_pourFit_91 : decode cX8_pourFit 91 = .ok (.iload 11, 2) := by decide +kernel
theorem dX8_pourFit_93 : decode cX8_pourFit 93 = .ok (.iload 8, 2) := by decide +kernel
theorem dX8_pourFit_95 : decode cX8_pourFit 95 = .ok (.if_icmp .ge 49, 3) := by decide +kernel
theorem dX8_pourFit_98 : decode cX8_pourFit 98 = .ok (.aload_n 0, 1) := by decide +kernel
theorem dX8_pourFit_99 : decode cX8_pourFit 99 = .ok (.iload 8, 2) := by decide +kernel
theorem dX8_pourFit_101 : decode cX8_pourFit 101 = .ok (.invokevirtual 34, 3) := by decide +kernel
theorem dX8_pourFit_104 : decode cX8_pourFit 104 = .ok (.aload_n 0, 1) := by decide +kernel
theorem dX8_pourFit_105 : decode cX8_pourFit 105 = .ok (.iload 11, 2) := by decide +kernel
theorem dX8_pourFit_107 : decode cX8_pourFit 107 = .ok (.invokevirtual 34, 3) := by decide +kernel
theorem dX8_pourFit_110 : decode cX8_pourFit 110 = .ok (.ixor, 1) := by decide +kernel
theorem dX8_pourFit_111 : decode cX8_pourFit 111 = .ok (.istore 12, 2) := by decide +kernel
theorem dX8_pourFit_113 : decode cX8_pourFit 113 = .ok (.iload 12, 2) := by decide +kernel
theorem dX8_pourFit_115 : decode cX8_pourFit 115 = .ok (.iload 6, 2) := by decide +kernel
theorem dX8_pourFit_117 : decode cX8_pourFit 117 = .ok (.iand, 1) := by decide +kernel
theorem dX8_pourFit_118 : decode cX8_pourFit 118 = .ok (.ifCond .eq 6, 3) := by decide +kernel
theorem dX8_pourFit_121 : decode cX8_pourFit 121 = .ok (.goto 17, 3) := by decide +kernel
theorem dX8_pourFit_124 : decode cX8_pourFit 124 = .ok (.iinc 9 1, 3) := by decide +kernel
theorem dX8_pourFit_127 : decode cX8_pourFit 127 = .ok (.iload 12, 2) := by decide +kernel
theorem dX8_pourFit_129 : decode cX8_pourFit 129 = .ok (.iload 5, 2) := by decide +kernel
theorem dX8_pourFit_131 : decode cX8_pourFit 131 = .ok (.iand, 1) := by decide +kernel
theorem dX8_pourFit_132 : decode cX8_pourFit 132 = .ok (.ifCond .ne 6, 3) := by decide +kernel
theorem dX8_pourFit_135 : decode cX8_pourFit 135 = .ok (.iinc 10 1, 3) := by decide +kernel
theorem dX8_pourFit_138 : decode cX8_pourFit 138 = .ok (.iinc 11 1, 3) := by decide +kernel
theorem dX8_pourFit_141 : decode cX8_pourFit 141 = .ok (.goto (-50), 3) := by decide +kernel
theorem dX8_pourFit_144 : decode cX8_pourFit 144 = .ok (.aload_n 3, 1) := by decide +kernel
theorem dX8_pourFit_145 : decode cX8_pourFit 145 = .ok (.aload_n 0, 1) := by decide +kernel
theorem dX8_pourFit_146 : decode cX8_pourFit 146 = .ok (.getfield 28, 3) := by decide +kernel
theorem dX8_pourFit_149 : decode cX8_pourFit 149 = .ok (.iload 10, 2) := by decide +kernel
theorem dX8_pourFit_151 : decode cX8_pourFit 151 = .ok (.iload 7, 2) := by decide +kernel
theorem dX8_pourFit_153 : decode cX8_pourFit 153 = .ok (.imul, 1) := by decide +kernel
theorem dX8_pourFit_154 : decode cX8_pourFit 154 = .ok (.iadd, 1) := by decide +kernel
theorem dX8_pourFit_155 : decode cX8_pourFit 155 = .ok (.iconst 1, 1) := by decide +kernel
theorem dX8_pourFit_156 : decode cX8_pourFit 156 = .ok (.invokevirtual 47, 3) := by decide +kernel
theorem dX8_pourFit_159 : decode cX8_pourFit 159 = .ok (.aload_n 3, 1) := by decide +kernel
theorem dX8_pourFit_160 : decode cX8_pourFit 160 = .ok (.iload 4, 2) := by decide +kernel
theorem dX8_pourFit_162 : decode cX8_pourFit 162 = .ok (.aload_n 0, 1) := by decide +kernel
theorem dX8_pourFit_163 : decode cX8_pourFit 163 = .ok (.getfield 28, 3) := by decide +kernel
theorem dX8_pourFit_166 : decode cX8_pourFit 166 = .ok (.imul, 1) := by decide +kernel
theorem dX8_pourFit_167 : decode cX8_pourFit 167 = .ok (.iload 9, 2) := by decide +kernel
theorem dX8_pourFit_169 : decode cX8_pourFit 169 = .ok (.iload 7, 2) := by decide +kernel
theorem dX8_pourFit_171 : decode cX8_pourFit 171 = .ok (.imul, 1) := by decide +kernel
theorem dX8_pourFit_172 : decode cX8_pourFit 172 = .ok (.iadd, 1) := by decide +kernel
theorem dX8_pourFit_173 : decode cX8_pourFit 173 = .ok (.iconst (-1), 1) := by decide +kernel
theorem dX8_pourFit_174 : decode cX8_pourFit 174 = .ok (.invokevirtual 47, 3) := by decide +kernel
theorem dX8_pourFit_177 : decode cX8_pourFit 177 = .ok (.iinc 8 1, 3) := by decide +kernel
theorem dX8_pourFit_180 : decode cX8_pourFit 180 = .ok (.goto (-107), 3) := by decide +kernel
theorem dX8_pourFit_183 : decode cX8_pourFit 183 = .ok (.return_, 1) := by decide +kernel
theorem dX8_codeOf_0 : decode cX8_codeOf 0 = .ok (.iload_n 1, 1) := by decide +kernel
theorem dX8_codeOf_1 : decode cX8_codeOf 1 = .ok (.ifCond .lt 29, 3) := by decide +kernel
theorem dX8_codeOf_4 : decode cX8_codeOf 4 = .ok (.iload_n 1, 1) := by decide +kernel
theorem dX8_codeOf_5 : decode cX8_codeOf 5 = .ok (.aload_n 0, 1) := by decide +kernel
theorem dX8_codeOf_6 : decode cX8_codeOf 6 = .ok (.getfield 25, 3) := by decide +kernel
theorem dX8_codeOf_9 : decode cX8_codeOf 9 = .ok (.if_icmp .ge 21, 3) := by decide +kernel
theorem dX8_codeOf_12 : decode cX8_codeOf 12 = .ok (.iload_n 1, 1) := by decide +kernel
theorem dX8_codeOf_13 : decode cX8_codeOf 13 = .ok (.aload_n 0, 1) := by decide +kernel
theorem dX8_codeOf_14 : decode cX8_codeOf 14 = .ok (.getfield 15, 3) := by decide +kernel
theorem dX8_codeOf_17 : decode cX8_codeOf 17 = .ok (.arraylength, 1) := by decide +kernel
theorem dX8_codeOf_18 : decode cX8_codeOf 18 = .ok (.if_icmp .ge 12, 3) := by decide +kernel
theorem dX8_codeOf_21 : decode cX8_codeOf 21 = .ok (.aload_n 0, 1) := by decide +kernel
theorem dX8_codeOf_22 : decode cX8_codeOf 22 = .ok (.getfield 15, 3) := by decide +kernel
theorem dX8_codeOf_25 : decode cX8_codeOf 25 = .ok (.iload_n 1, 1) := by decide +kernel
theorem dX8_codeOf_26 : decode cX8_codeOf 26 = .ok (.iaload, 1) := by decide +kernel
theorem dX8_codeOf_27 : decode cX8_codeOf 27 = .ok (.goto 4, 3) := by decide +kernel
theorem dX8_codeOf_30 : decode cX8_codeOf 30 = .ok (.iconst 0, 1) := by decide +kernel
theorem dX8_codeOf_31 : decode cX8_codeOf 31 = .ok (.ireturn, 1) := by decide +kernel
theorem dX9_init_0 : decode cX9_init 0 = .ok (.aload_n 0, 1) := by decide +kernel
theorem dX9_init_1 : decode cX9_init 1 = .ok (.invokespecial 1, 3) := by decide +kernel
theorem dX9_init_4 : decode cX9_init 4 = .ok (.aload_n 0, 1) := by decide +kernel
theorem dX9_init_5 : decode cX9_init 5 = .ok (.aload_n 1, 1) := by decide +kernel
theorem dX9_init_6 : decode cX9_init 6 = .ok (.putfield 7, 3) := by decide +kernel
theorem dX9_init_9 : decode cX9_init 9 = .ok (.aload_n 0, 1) := by decide +kernel
theorem dX9_init_10 : decode cX9_init 10 = .ok (.bipush 9, 2) := by decide +kernel
theorem dX9_init_12 : decode cX9_init 12 = .ok (.newarray .int, 2) := by decide +kernel
theorem dX9_init_14 : decode cX9_init 14 = .ok (.putfield 13, 3) := by decide +kernel
theorem dX9_init_17 : decode cX9_init 17 = .ok (.aload_n 0, 1) := by decide +kernel
theorem dX9_init_18 : decode cX9_init 18 = .ok (.iconst 3, 1) := by decide +kernel
theorem dX9_init_19 : decode cX9_init 19 = .ok (.newarray .int, 2) := by decide +kernel
theorem dX9_init_21 : decode cX9_init 21 = .ok (.putfield 17, 3) := by decide +kernel
theorem dX9_init_24 : decode cX9_init 24 = .ok (.aload_n 0, 1) := by decide +kernel
theorem dX9_init_25 : decode cX9_init 25 = .ok (.iconst 3, 1) := by decide +kernel
theorem dX9_init_26 : decode cX9_init 26 = .ok (.newarray .int, 2) := by decide +kernel
theorem dX9_init_28 : decode cX9_init 28 = .ok (.putfield 20, 3) := by decide +kernel
theorem dX9_init_31 : decode cX9_init 31 = .ok (.return_, 1) := by decide +kernel
set_option maxRecDepth 20000 in
theorem ggX9_count_X8_valueIn : GoodIn wsX9_count wsX8_valueIn := goodIn_r _ [10, 11, 12, 13, 9, 14, 15, 16, 26, 27, 28, 29, 30, 31] (by decide +kernel) (by decide +kernel)
set_option maxRecDepth 20000 in
theorem gX9_count_X8_valueIn : GoodIn wsX9_count (wsV RX9 29 RX8 yX8_valueIn wsX8_valueIn) := goodIn_app (goodIn_of _ (by decide +kernel)) ggX9_count_X8_valueIn
set_option maxRecDepth 20000 in
theorem ggX9_count_X9_cell : GoodIn wsX9_count wsX9_cell := goodIn_r _ [21, 1, 22, 23, 24, 25] (by decide +kernel) (by decide +kernel)
set_option maxRecDepth 20000 in
theorem gX9_count_X9_cell : GoodIn wsX9_count (wsV RX9 33 RX9 yX9_cell wsX9_cell) := goodIn_app (goodIn_of _ (by decide +kernel)) ggX9_count_X9_cell
theorem dX9_count_0 : decode cX9_count 0 = .ok (.iconst 0, 1) := by decide +kernel
theorem dX9_count_1 : decode cX9_count 1 = .ok (.istore 5, 2) := by decide +kernel
theorem dX9_count_3 : decode cX9_count 3 = .ok (.iload 5, 2) := by decide +kernel
theorem dX9_count_5 : decode cX9_count 5 = .ok (.aload_n 0, 1) := by decide +kernel
theorem dX9_count_6 : decode cX9_count 6 = .ok (.getfield 13, 3) := by decide +kernel
theorem dX9_count_9 : decode cX9_count 9 = .ok (.arraylength, 1) := by decide +kernel
theorem dX9_count_10 : decode cX9_count 10 = .ok (.if_icmp .ge 17, 3) := by decide +kernel
theorem dX9_count_13 : decode cX9_count 13 = .ok (.aload_n 0, 1) := by decide +kernel
theorem dX9_count_14 : decode cX9_count 14 = .ok (.getfield 13, 3) := by decide +kernel
theorem dX9_count_17 : decode cX9_count 17 = .ok (.iload 5, 2) := by decide +kernel
theorem dX9_count_19 : decode cX9_count 19 = .ok (.iconst 0, 1) := by decide +kernel
theorem dX9_count_20 : decode cX9_count 20 = .ok (.iastore, 1) := by decide +kernel
theorem dX9_count_21 : decode cX9_count 21 = .ok (.iinc 5 1, 3) := by decide +kernel
theorem dX9_count_24 : decode cX9_count 24 = .ok (.goto (-21), 3) := by decide +kernel
theorem dX9_count_27 : decode cX9_count 27 = .ok (.iconst 0, 1) := by decide +kernel
theorem dX9_count_28 : decode cX9_count 28 = .ok (.istore 5, 2) := by decide +kernel
theorem dX9_count_30 : decode cX9_count 30 = .ok (.iload 5, 2) := by decide +kernel
theorem dX9_count_32 : decode cX9_count 32 = .ok (.aload_n 0, 1) := by decide +kernel
theorem dX9_count_33 : decode cX9_count 33 = .ok (.getfield 7, 3) := by decide +kernel
theorem dX9_count_36 : decode cX9_count 36 = .ok (.getfield 23, 3) := by decide +kernel
theorem dX9_count_39 : decode cX9_count 39 = .ok (.if_icmp .ge 82, 3) := by decide +kernel
theorem dX9_count_42 : decode cX9_count 42 = .ok (.iload_n 3, 1) := by decide +kernel
theorem dX9_count_43 : decode cX9_count 43 = .ok (.ifCond .lt 21, 3) := by decide +kernel
theorem dX9_count_46 : decode cX9_count 46 = .ok (.aload_n 0, 1) := by decide +kernel
theorem dX9_count_47 : decode cX9_count 47 = .ok (.getfield 7, 3) := by decide +kernel
theorem dX9_count_50 : decode cX9_count 50 = .ok (.iload 5, 2) := by decide +kernel
theorem dX9_count_52 : decode cX9_count 52 = .ok (.iload_n 3, 1) := by decide +kernel
theorem dX9_count_53 : decode cX9_count 53 = .ok (.invokevirtual 29, 3) := by decide +kernel
theorem dX9_count_56 : decode cX9_count 56 = .ok (.iload 4, 2) := by decide +kernel
theorem dX9_count_58 : decode cX9_count 58 = .ok (.if_icmp .eq 6, 3) := by decide +kernel
theorem dX9_count_61 : decode cX9_count 61 = .ok (.goto 54, 3) := by decide +kernel
theorem dX9_count_64 : decode cX9_count 64 = .ok (.iconst 3, 1) := by decide +kernel
theorem dX9_count_65 : decode cX9_count 65 = .ok (.aload_n 0, 1) := by decide +kernel
theorem dX9_count_66 : decode cX9_count 66 = .ok (.getfield 7, 3) := by decide +kernel
theorem dX9_count_69 : decode cX9_count 69 = .ok (.iload 5, 2) := by decide +kernel
theorem dX9_count_71 : decode cX9_count 71 = .ok (.iload_n 1, 1) := by decide +kernel
theorem dX9_count_72 : decode cX9_count 72 = .ok (.invokevirtual 29, 3) := by decide +kernel
theorem dX9_count_75 : decode cX9_count 75 = .ok (.imul, 1) := by decide +kernel
theorem dX9_count_76 : decode cX9_count 76 = .ok (.aload_n 0, 1) := by decide +kernel
theorem dX9_count_77 : decode cX9_count 77 = .ok (.getfield 7, 3) := by decide +kernel
theorem dX9_count_80 : decode cX9_count 80 = .ok (.iload 5, 2) := by decide +kernel
theorem dX9_count_82 : decode cX9_count 82 = .ok (.iload_n 2, 1) := by decide +kernel
theorem dX9_count_83 : decode cX9_count 83 = .ok (.invokevirtual 29, 3) := by decide +kernel
theorem dX9_count_86 : decode cX9_count 86 = .ok (.iadd, 1) := by decide +kernel
theorem dX9_count_87 : decode cX9_count 87 = .ok (.istore 6, 2) := by decide +kernel
theorem dX9_count_89 : decode cX9_count 89 = .ok (.iload 6, 2) := by decide +kernel
theorem dX9_count_91 : decode cX9_count 91 = .ok (.ifCond .lt 24, 3) := by decide +kernel
theorem dX9_count_94 : decode cX9_count 94 = .ok (.iload 6, 2) := by decide +kernel
theorem dX9_count_96 : decode cX9_count 96 = .ok (.aload_n 0, 1) := by decide +kernel
theorem dX9_count_97 : decode cX9_count 97 = .ok (.getfield 13, 3) := by decide +kernel
theorem dX9_count_100 : decode cX9_count 100 = .ok (.arraylength, 1) := by decide +kernel
theorem dX9_count_101 : decode cX9_count 101 = .ok (.if_icmp .ge 14, 3) := by decide +kernel
theorem dX9_count_104 : decode cX9_count 104 = .ok (.aload_n 0, 1) := by decide +kernel
theorem dX9_count_105 : decode cX9_count 105 = .ok (.getfield 13, 3) := by decide +kernel
theorem dX9_count_108 : decode cX9_count 108 = .ok (.iload 6, 2) := by decide +kernel
theorem dX9_count_110 : decode cX9_count 110 = .ok (.dup2, 1) := by decide +kernel
theorem dX9_count_111 : decode cX9_count 111 = .ok (.iaload, 1) := by decide +kernel
theorem dX9_count_112 : decode cX9_count 112 = .ok (.iconst 1, 1) := by decide +kernel
theorem dX9_count_113 : decode cX9_count 113 = .ok (.iadd, 1) := by decide +kernel
theorem dX9_count_114 : decode cX9_count 114 = .ok (.iastore, 1) := by decide +kernel
theorem dX9_count_115 : decode cX9_count 115 = .ok (.iinc 5 1, 3) := by decide +kernel
theorem dX9_count_118 : decode cX9_count 118 = .ok (.goto (-88), 3) := by decide +kernel
theorem dX9_count_121 : decode cX9_count 121 = .ok (.iconst 0, 1) := by decide +kernel
theorem dX9_count_122 : decode cX9_count 122 = .ok (.istore 5, 2) := by decide +kernel
theorem dX9_count_124 : decode cX9_count 124 = .ok (.iload 5, 2) := by decide +kernel
theorem dX9_count_126 : decode cX9_count 126 = .ok (.iconst 3, 1) := by decide +kernel
theorem dX9_count_127 : decode cX9_count 127 = .ok (.if_icmp .ge 69, 3) := by decide +kernel
theorem dX9_count_130 : decode cX9_count 130 = .ok (.aload_n 0, 1) := by decide +kernel
theorem dX9_count_131 : decode cX9_count 131 = .ok (.getfield 17, 3) := by decide +kernel
theorem dX9_count_134 : decode cX9_count 134 = .ok (.iload 5, 2) := by decide +kernel
theorem dX9_count_136 : decode cX9_count 136 = .ok (.aload_n 0, 1) := by decide +kernel
theorem dX9_count_137 : decode cX9_count 137 = .ok (.iload 5, 2) := by decide +kernel
theorem dX9_count_139 : decode cX9_count 139 = .ok (.iconst 0, 1) := by decide +kernel
theorem dX9_count_140 : decode cX9_count 140 = .ok (.invokevirtual 33, 3) := by decide +kernel
theorem dX9_count_143 : decode cX9_count 143 = .ok (.aload_n 0, 1) := by decide +kernel
theorem dX9_count_144 : decode cX9_count 144 = .ok (.iload 5, 2) := by decide +kernel
theorem dX9_count_146 : decode cX9_count 146 = .ok (.iconst 1, 1) := by decide +kernel
theorem dX9_count_147 : decode cX9_count 147 = .ok (.invokevirtual 33, 3) := by decide +kernel
theorem dX9_count_150 : decode cX9_count 150 = .ok (.iadd, 1) := by decide +kernel
theorem dX9_count_151 : decode cX9_count 151 = .ok (.aload_n 0, 1) := by decide +kernel
theorem dX9_count_152 : decode cX9_count 152 = .ok (.iload 5, 2) := by decide +kernel
theorem dX9_count_154 : decode cX9_count 154 = .ok (.iconst 2, 1) := by decide +kernel
theorem dX9_count_155 : decode cX9_count 155 = .ok (.invokevirtual 33, 3) := by decide +kernel
theorem dX9_count_158 : decode cX9_count 158 = .ok (.iadd, 1) := by decide +kernel
theorem dX9_count_159 : decode cX9_count 159 = .ok (.iastore, 1) := by decide +kernel
theorem dX9_count_160 : decode cX9_count 160 = .ok (.aload_n 0, 1) := by decide +kernel
theorem dX9_count_161 : decode cX9_count 161 = .ok (.getfield 20, 3) := by decide +kernel
theorem dX9_count_164 : decode cX9_count 164 = .ok (.iload 5, 2) := by decide +kernel
theorem dX9_count_166 : decode cX9_count 166 = .ok (.aload_n 0, 1) := by decide +kernel
theorem dX9_count_167 : decode cX9_count 167 = .ok (.iconst 0, 1) := by decide +kernel
theorem dX9_count_168 : decode cX9_count 168 = .ok (.iload 5, 2) := by decide +kernel
theorem dX9_count_170 : decode cX9_count 170 = .ok (.invokevirtual 33, 3) := by decide +kernel
theorem dX9_count_173 : decode cX9_count 173 = .ok (.aload_n 0, 1) := by decide +kernel
theorem dX9_count_174 : decode cX9_count 174 = .ok (.iconst 1, 1) := by decide +kernel
theorem dX9_count_175 : decode cX9_count 175 = .ok (.iload 5, 2) := by decide +kernel
theorem dX9_count_177 : decode cX9_count 177 = .ok (.invokevirtual 33, 3) := by decide +kernel
theorem dX9_count_180 : decode cX9_count 180 = .ok (.iadd, 1) := by decide +kernel
theorem dX9_count_181 : decode cX9_count 181 = .ok (.aload_n 0, 1) := by decide +kernel
theorem dX9_count_182 : decode cX9_count 182 = .ok (.iconst 2, 1) := by decide +kernel
theorem dX9_count_183 : decode cX9_count 183 = .ok (.iload 5, 2) := by decide +kernel
theorem dX9_count_185 : decode cX9_count 185 = .ok (.invokevirtual 33, 3) := by decide +kernel
theorem dX9_count_188 : decode cX9_count 188 = .ok (.iadd, 1) := by decide +kernel
theorem dX9_count_189 : decode cX9_count 189 = .ok (.iastore, 1) := by decide +kernel
theorem dX9_count_190 : decode cX9_count 190 = .ok (.iinc 5 1, 3) := by decide +kernel
theorem dX9_count_193 : decode cX9_count 193 = .ok (.goto (-69), 3) := by decide +kernel
theorem dX9_count_196 : decode cX9_count 196 = .ok (.return_, 1) := by decide +kernel
set_option maxRecDepth 20000 in
theorem ggX9_allWays_X9_second : GoodIn wsX9_allWays wsX9_second := goodIn_r _ [5, 6, 14, 15, 16, 17] (by decide +kernel) (by decide +kernel)
set_option maxRecDepth 20000 in
theorem gX9_allWays_X9_second : GoodIn wsX9_allWays (wsV RX9 36 RX9 yX9_second wsX9_second) := goodIn_app (goodIn_of _ (by decide +kernel)) ggX9_allWays_X9_second
set_option maxRecDepth 20000 in
theorem ggX9_allWays_X9_deals : GoodIn wsX9_allWays wsX9_deals := goodIn_r _ [9, 10, 11, 12, 4, 13] (by decide +kernel) (by decide +kernel)
set_option maxRecDepth 20000 in
theorem gX9_allWays_X9_deals : GoodIn wsX9_allWays (va_wsS RX9 40 yX9_deals wsX9_deals) := goodIn_app (goodIn_of _ (by decide +kernel)) ggX9_allWays_X9_deals
theorem dX9_allWays_0 : decode cX9_allWays 0 = .ok (.aload_n 0, 1) := by decide +kernel
theorem dX9_allWays_1 : decode cX9_allWays 1 = .ok (.iconst 0, 1) := by decide +kernel
theorem dX9_allWays_2 : decode cX9_allWays 2 = .ok (.invokevirtual 36, 3) := by decide +kernel
theorem dX9_allWays_5 : decode cX9_allWays 5 = .ok (.aload_n 0, 1) := by decide +kernel
theorem dX9_allWays_6 : decode cX9_allWays 6 = .ok (.iconst 1, 1) := by decide +kernel
theorem dX9_allWays_7 : decode cX9_allWays 7 = .ok (.invokevirtual 36, 3) := by decide +kernel
theorem dX9_allWays_10 : decode cX9_allWays 10 = .ok (.aload_n 0, 1) := by decide +kernel
theorem dX9_allWays_11 : decode cX9_allWays 11 = .ok (.iconst 2, 1) := by decide +kernel
theorem dX9_allWays_12 : decode cX9_allWays 12 = .ok (.invokevirtual 36, 3) := by decide +kernel
theorem dX9_allWays_15 : decode cX9_allWays 15 = .ok (.invokestatic 40, 3) := by decide +kernel
theorem dX9_allWays_18 : decode cX9_allWays 18 = .ok (.lreturn, 1) := by decide +kernel
set_option maxRecDepth 20000 in
theorem ggX9_waysNotAbove_X9_cell : GoodIn wsX9_waysNotAbove wsX9_cell := goodIn_r _ [5, 6, 28, 29, 30, 31] (by decide +kernel) (by decide +kernel)
set_option maxRecDepth 20000 in
theorem gX9_waysNotAbove_X9_cell : GoodIn wsX9_waysNotAbove (wsV RX9 33 RX9 yX9_cell wsX9_cell) := goodIn_app (goodIn_of _ (by decide +kernel)) ggX9_waysNotAbove_X9_cell
set_option maxRecDepth 20000 in
theorem ggX9_waysNotAbove_X9_deals : GoodIn wsX9_waysNotAbove wsX9_deals := goodIn_r _ [9, 10, 11, 12, 4, 13] (by decide +kernel) (by decide +kernel)
set_option maxRecDepth 20000 in
theorem gX9_waysNotAbove_X9_deals : GoodIn wsX9_waysNotAbove (va_wsS RX9 40 yX9_deals wsX9_deals) := goodIn_app (goodIn_of _ (by decide +kernel)) ggX9_waysNotAbove_X9_deals
set_option maxRecDepth 20000 in
theorem ggX9_waysNotAbove_X9_first : GoodIn wsX9_waysNotAbove wsX9_first := goodIn_r _ [17, 18, 28, 29, 30, 31] (by decide +kernel) (by decide +kernel)
set_option maxRecDepth 20000 in
theorem gX9_waysNotAbove_X9_first : GoodIn wsX9_waysNotAbove (wsV RX9 44 RX9 yX9_first wsX9_first) := goodIn_app (goodIn_of _ (by decide +kernel)) ggX9_waysNotAbove_X9_first
set_option maxRecDepth 20000 in
theorem ggX9_waysNotAbove_X9_waysWith : GoodIn wsX9_waysNotAbove wsX9_waysWith := goodIn_r _ [22, 23, 24, 25, 4, 26, 27, 14, 15, 16, 17, 18, 7, 8, 9, 10, 11, 12, 13, 28, 29, 30, 31] (by decide +kernel) (by decide +kernel)
set_option maxRecDepth 20000 in
theorem gX9_waysNotAbove_X9_waysWith : GoodIn wsX9_waysNotAbove (wsV RX9 47 RX9 yX9_waysWith wsX9_waysWith) := goodIn_app (goodIn_of _ (by decide +kernel)) ggX9_waysNotAbove_X9_waysWith
theorem dX9_waysNotAbove_0 : decode cX9_waysNotAbove 0 = .ok (.lconst 1, 1) := by decide +kernel
theorem dX9_waysNotAbove_1 : decode cX9_waysNotAbove 1 = .ok (.lstore_n 1, 1) := by decide +kernel
theorem dX9_waysNotAbove_2 : decode cX9_waysNotAbove 2 = .ok (.iconst 0, 1) := by decide +kernel
theorem dX9_waysNotAbove_3 : decode cX9_waysNotAbove 3 = .ok (.istore_n 3, 1) := by decide +kernel
theorem dX9_waysNotAbove_4 : decode cX9_waysNotAbove 4 = .ok (.iload_n 3, 1) := by decide +kernel
theorem dX9_waysNotAbove_5 : decode cX9_waysNotAbove 5 = .ok (.iconst 3, 1) := by decide +kernel
theorem dX9_waysNotAbove_6 : decode cX9_waysNotAbove 6 = .ok (.if_icmp .ge 33, 3) := by decide +kernel
theorem dX9_waysNotAbove_9 : decode cX9_waysNotAbove 9 = .ok (.lload_n 1, 1) := by decide +kernel
theorem dX9_waysNotAbove_10 : decode cX9_waysNotAbove 10 = .ok (.aload_n 0, 1) := by decide +kernel
theorem dX9_waysNotAbove_11 : decode cX9_waysNotAbove 11 = .ok (.iload_n 3, 1) := by decide +kernel
theorem dX9_waysNotAbove_12 : decode cX9_waysNotAbove 12 = .ok (.iconst 0, 1) := by decide +kernel
theorem dX9_waysNotAbove_13 : decode cX9_waysNotAbove 13 = .ok (.invokevirtual 33, 3) := by decide +kernel
theorem dX9_waysNotAbove_16 : decode cX9_waysNotAbove 16 = .ok (.aload_n 0, 1) := by decide +kernel
theorem dX9_waysNotAbove_17 : decode cX9_waysNotAbove 17 = .ok (.iload_n 3, 1) := by decide +kernel
theorem dX9_waysNotAbove_18 : decode cX9_waysNotAbove 18 = .ok (.iconst 1, 1) := by decide +kernel
theorem dX9_waysNotAbove_19 : decode cX9_waysNotAbove 19 = .ok (.invokevirtual 33, 3) := by decide +kernel
theorem dX9_waysNotAbove_22 : decode cX9_waysNotAbove 22 = .ok (.aload_n 0, 1) := by decide +kernel
theorem dX9_waysNotAbove_23 : decode cX9_waysNotAbove 23 = .ok (.iload_n 3, 1) := by decide +kernel
theorem dX9_waysNotAbove_24 : decode cX9_waysNotAbove 24 = .ok (.iconst 2, 1) := by decide +kernel
theorem dX9_waysNotAbove_25 : decode cX9_waysNotAbove 25 = .ok (.invokevirtual 33, 3) := by decide +kernel
theorem dX9_waysNotAbove_28 : decode cX9_waysNotAbove 28 = .ok (.invokestatic 40, 3) := by decide +kernel
theorem dX9_waysNotAbove_31 : decode cX9_waysNotAbove 31 = .ok (.lmul, 1) := by decide +kernel
theorem dX9_waysNotAbove_32 : decode cX9_waysNotAbove 32 = .ok (.lstore_n 1, 1) := by decide +kernel
theorem dX9_waysNotAbove_33 : decode cX9_waysNotAbove 33 = .ok (.iinc 3 1, 3) := by decide +kernel
theorem dX9_waysNotAbove_36 : decode cX9_waysNotAbove 36 = .ok (.goto (-32), 3) := by decide +kernel
theorem dX9_waysNotAbove_39 : decode cX9_waysNotAbove 39 = .ok (.lconst 0, 1) := by decide +kernel
theorem dX9_waysNotAbove_40 : decode cX9_waysNotAbove 40 = .ok (.lstore_n 3, 1) := by decide +kernel
theorem dX9_waysNotAbove_41 : decode cX9_waysNotAbove 41 = .ok (.iconst 0, 1) := by decide +kernel
theorem dX9_waysNotAbove_42 : decode cX9_waysNotAbove 42 = .ok (.istore 5, 2) := by decide +kernel
theorem dX9_waysNotAbove_44 : decode cX9_waysNotAbove 44 = .ok (.iload 5, 2) := by decide +kernel
theorem dX9_waysNotAbove_46 : decode cX9_waysNotAbove 46 = .ok (.aload_n 0, 1) := by decide +kernel
theorem dX9_waysNotAbove_47 : decode cX9_waysNotAbove 47 = .ok (.iconst 0, 1) := by decide +kernel
theorem dX9_waysNotAbove_48 : decode cX9_waysNotAbove 48 = .ok (.invokevirtual 44, 3) := by decide +kernel
theorem dX9_waysNotAbove_51 : decode cX9_waysNotAbove 51 = .ok (.if_icmp .gt 43, 3) := by decide +kernel
theorem dX9_waysNotAbove_54 : decode cX9_waysNotAbove 54 = .ok (.iconst 0, 1) := by decide +kernel
theorem dX9_waysNotAbove_55 : decode cX9_waysNotAbove 55 = .ok (.istore 6, 2) := by decide +kernel
theorem dX9_waysNotAbove_57 : decode cX9_waysNotAbove 57 = .ok (.iload 5, 2) := by decide +kernel
theorem dX9_waysNotAbove_59 : decode cX9_waysNotAbove 59 = .ok (.iload 6, 2) := by decide +kernel
theorem dX9_waysNotAbove_61 : decode cX9_waysNotAbove 61 = .ok (.iadd, 1) := by decide +kernel
theorem dX9_waysNotAbove_62 : decode cX9_waysNotAbove 62 = .ok (.aload_n 0, 1) := by decide +kernel
theorem dX9_waysNotAbove_63 : decode cX9_waysNotAbove 63 = .ok (.iconst 0, 1) := by decide +kernel
theorem dX9_waysNotAbove_64 : decode cX9_waysNotAbove 64 = .ok (.invokevirtual 44, 3) := by decide +kernel
theorem dX9_waysNotAbove_67 : decode cX9_waysNotAbove 67 = .ok (.if_icmp .gt 21, 3) := by decide +kernel
theorem dX9_waysNotAbove_70 : decode cX9_waysNotAbove 70 = .ok (.lload_n 3, 1) := by decide +kernel
theorem dX9_waysNotAbove_71 : decode cX9_waysNotAbove 71 = .ok (.aload_n 0, 1) := by decide +kernel
theorem dX9_waysNotAbove_72 : decode cX9_waysNotAbove 72 = .ok (.iload 5, 2) := by decide +kernel
theorem dX9_waysNotAbove_74 : decode cX9_waysNotAbove 74 = .ok (.iload 6, 2) := by decide +kernel
theorem dX9_waysNotAbove_76 : decode cX9_waysNotAbove 76 = .ok (.lload_n 1, 1) := by decide +kernel
theorem dX9_waysNotAbove_77 : decode cX9_waysNotAbove 77 = .ok (.invokevirtual 47, 3) := by decide +kernel
theorem dX9_waysNotAbove_80 : decode cX9_waysNotAbove 80 = .ok (.ladd, 1) := by decide +kernel
theorem dX9_waysNotAbove_81 : decode cX9_waysNotAbove 81 = .ok (.lstore_n 3, 1) := by decide +kernel
theorem dX9_waysNotAbove_82 : decode cX9_waysNotAbove 82 = .ok (.iinc 6 1, 3) := by decide +kernel
theorem dX9_waysNotAbove_85 : decode cX9_waysNotAbove 85 = .ok (.goto (-28), 3) := by decide +kernel
theorem dX9_waysNotAbove_88 : decode cX9_waysNotAbove 88 = .ok (.iinc 5 1, 3) := by decide +kernel
theorem dX9_waysNotAbove_91 : decode cX9_waysNotAbove 91 = .ok (.goto (-47), 3) := by decide +kernel
theorem dX9_waysNotAbove_94 : decode cX9_waysNotAbove 94 = .ok (.lload_n 3, 1) := by decide +kernel
theorem dX9_waysNotAbove_95 : decode cX9_waysNotAbove 95 = .ok (.lreturn, 1) := by decide +kernel
set_option maxRecDepth 20000 in
theorem ggX9_waysWith_X9_second : GoodIn wsX9_waysWith wsX9_second := goodIn_r _ [5, 6, 19, 20, 21, 22] (by decide +kernel) (by decide +kernel)
set_option maxRecDepth 20000 in
theorem gX9_waysWith_X9_second : GoodIn wsX9_waysWith (wsV RX9 36 RX9 yX9_second wsX9_second) := goodIn_app (goodIn_of _ (by decide +kernel)) ggX9_waysWith_X9_second
set_option maxRecDepth 20000 in
theorem ggX9_waysWith_X9_first : GoodIn wsX9_waysWith wsX9_first := goodIn_r _ [10, 11, 19, 20, 21, 22] (by decide +kernel) (by decide +kernel)
set_option maxRecDepth 20000 in
theorem gX9_waysWith_X9_first : GoodIn wsX9_waysWith (wsV RX9 44 RX9 yX9_first wsX9_first) := goodIn_app (goodIn_of _ (by decide +kernel)) ggX9_waysWith_X9_first
set_option maxRecDepth 20000 in
theorem ggX9_waysWith_X9_deals : GoodIn wsX9_waysWith wsX9_deals := goodIn_r _ [14, 15, 16, 17, 4, 18] (by decide +kernel) (by decide +kernel)
set_option maxRecDepth 20000 in
theorem gX9_waysWith_X9_deals : GoodIn wsX9_waysWith (va_wsS RX9 40 yX9_deals wsX9_deals) := goodIn_app (goodIn_of _ (by decide +kernel)) ggX9_waysWith_X9_deals
theorem dX9_waysWith_0 : decode cX9_waysWith 0 = .ok (.aload_n 0, 1) := by decide +kernel
theorem dX9_waysWith_1 : decode cX9_waysWith 1 = .ok (.iconst 0, 1) := by decide +kernel
theorem dX9_waysWith_2 : decode cX9_waysWith 2 = .ok (.invokevirtual 36, 3) := by decide +kernel
theorem dX9_waysWith_5 : decode cX9_waysWith 5 = .ok (.iload_n 1, 1) := by decide +kernel
theorem dX9_waysWith_6 : decode cX9_waysWith 6 = .ok (.isub, 1) := by decide +kernel
theorem dX9_waysWith_7 : decode cX9_waysWith 7 = .ok (.istore 5, 2) := by decide +kernel
theorem dX9_waysWith_9 : decode cX9_waysWith 9 = .ok (.aload_n 0, 1) := by decide +kernel
theorem dX9_waysWith_10 : decode cX9_waysWith 10 = .ok (.iconst 1, 1) := by decide +kernel
theorem dX9_waysWith_11 : decode cX9_waysWith 11 = .ok (.invokevirtual 36, 3) := by decide +kernel
theorem dX9_waysWith_14 : decode cX9_waysWith 14 = .ok (.iload_n 2, 1) := by decide +kernel
theorem dX9_waysWith_15 : decode cX9_waysWith 15 = .ok (.isub, 1) := by decide +kernel
theorem dX9_waysWith_16 : decode cX9_waysWith 16 = .ok (.istore 6, 2) := by decide +kernel
theorem dX9_waysWith_18 : decode cX9_waysWith 18 = .ok (.aload_n 0, 1) := by decide +kernel
theorem dX9_waysWith_19 : decode cX9_waysWith 19 = .ok (.iconst 2, 1) := by decide +kernel
theorem dX9_waysWith_20 : decode cX9_waysWith 20 = .ok (.invokevirtual 36, 3) := by decide +kernel
theorem dX9_waysWith_23 : decode cX9_waysWith 23 = .ok (.aload_n 0, 1) := by decide +kernel
theorem dX9_waysWith_24 : decode cX9_waysWith 24 = .ok (.iconst 0, 1) := by decide +kernel
theorem dX9_waysWith_25 : decode cX9_waysWith 25 = .ok (.invokevirtual 44, 3) := by decide +kernel
theorem dX9_waysWith_28 : decode cX9_waysWith 28 = .ok (.iload_n 1, 1) := by decide +kernel
theorem dX9_waysWith_29 : decode cX9_waysWith 29 = .ok (.isub, 1) := by decide +kernel
theorem dX9_waysWith_30 : decode cX9_waysWith 30 = .ok (.iload_n 2, 1) := by decide +kernel
theorem dX9_waysWith_31 : decode cX9_waysWith 31 = .ok (.isub, 1) := by decide +kernel
theorem dX9_waysWith_32 : decode cX9_waysWith 32 = .ok (.isub, 1) := by decide +kernel
theorem dX9_waysWith_33 : decode cX9_waysWith 33 = .ok (.istore 7, 2) := by decide +kernel
theorem dX9_waysWith_35 : decode cX9_waysWith 35 = .ok (.iload_n 1, 1) := by decide +kernel
theorem dX9_waysWith_36 : decode cX9_waysWith 36 = .ok (.iload_n 2, 1) := by decide +kernel
theorem dX9_waysWith_37 : decode cX9_waysWith 37 = .ok (.aload_n 0, 1) := by decide +kernel
theorem dX9_waysWith_38 : decode cX9_waysWith 38 = .ok (.iconst 0, 1) := by decide +kernel
theorem dX9_waysWith_39 : decode cX9_waysWith 39 = .ok (.invokevirtual 44, 3) := by decide +kernel
theorem dX9_waysWith_42 : decode cX9_waysWith 42 = .ok (.iload_n 1, 1) := by decide +kernel
theorem dX9_waysWith_43 : decode cX9_waysWith 43 = .ok (.isub, 1) := by decide +kernel
theorem dX9_waysWith_44 : decode cX9_waysWith 44 = .ok (.iload_n 2, 1) := by decide +kernel
theorem dX9_waysWith_45 : decode cX9_waysWith 45 = .ok (.isub, 1) := by decide +kernel
theorem dX9_waysWith_46 : decode cX9_waysWith 46 = .ok (.invokestatic 40, 3) := by decide +kernel
theorem dX9_waysWith_49 : decode cX9_waysWith 49 = .ok (.lstore 8, 2) := by decide +kernel
theorem dX9_waysWith_51 : decode cX9_waysWith 51 = .ok (.lconst 0, 1) := by decide +kernel
theorem dX9_waysWith_52 : decode cX9_waysWith 52 = .ok (.lstore 10, 2) := by decide +kernel
theorem dX9_waysWith_54 : decode cX9_waysWith 54 = .ok (.iconst 0, 1) := by decide +kernel
theorem dX9_waysWith_55 : decode cX9_waysWith 55 = .ok (.istore 12, 2) := by decide +kernel
theorem dX9_waysWith_57 : decode cX9_waysWith 57 = .ok (.iload 12, 2) := by decide +kernel
theorem dX9_waysWith_59 : decode cX9_waysWith 59 = .ok (.aload_n 0, 1) := by decide +kernel
theorem dX9_waysWith_60 : decode cX9_waysWith 60 = .ok (.iconst 1, 1) := by decide +kernel
theorem dX9_waysWith_61 : decode cX9_waysWith 61 = .ok (.invokevirtual 44, 3) := by decide +kernel
theorem dX9_waysWith_64 : decode cX9_waysWith 64 = .ok (.if_icmp .gt 105, 3) := by decide +kernel
theorem dX9_waysWith_67 : decode cX9_waysWith 67 = .ok (.iload 12, 2) := by decide +kernel
theorem dX9_waysWith_69 : decode cX9_waysWith 69 = .ok (.iload 5, 2) := by decide +kernel
theorem dX9_waysWith_71 : decode cX9_waysWith 71 = .ok (.if_icmp .gt 98, 3) := by decide +kernel
theorem dX9_waysWith_74 : decode cX9_waysWith 74 = .ok (.iconst 0, 1) := by decide +kernel
theorem dX9_waysWith_75 : decode cX9_waysWith 75 = .ok (.istore 13, 2) := by decide +kernel
theorem dX9_waysWith_77 : decode cX9_waysWith 77 = .ok (.iload 12, 2) := by decide +kernel
theorem dX9_waysWith_79 : decode cX9_waysWith 79 = .ok (.iload 13, 2) := by decide +kernel
theorem dX9_waysWith_81 : decode cX9_waysWith 81 = .ok (.iadd, 1) := by decide +kernel
theorem dX9_waysWith_82 : decode cX9_waysWith 82 = .ok (.aload_n 0, 1) := by decide +kernel
theorem dX9_waysWith_83 : decode cX9_waysWith 83 = .ok (.iconst 1, 1) := by decide +kernel
theorem dX9_waysWith_84 : decode cX9_waysWith 84 = .ok (.invokevirtual 44, 3) := by decide +kernel
theorem dX9_waysWith_87 : decode cX9_waysWith 87 = .ok (.if_icmp .gt 76, 3) := by decide +kernel
theorem dX9_waysWith_90 : decode cX9_waysWith 90 = .ok (.iload 13, 2) := by decide +kernel
theorem dX9_waysWith_92 : decode cX9_waysWith 92 = .ok (.iload 6, 2) := by decide +kernel
theorem dX9_waysWith_94 : decode cX9_waysWith 94 = .ok (.if_icmp .gt 69, 3) := by decide +kernel
theorem dX9_waysWith_97 : decode cX9_waysWith 97 = .ok (.aload_n 0, 1) := by decide +kernel
theorem dX9_waysWith_98 : decode cX9_waysWith 98 = .ok (.iconst 1, 1) := by decide +kernel
theorem dX9_waysWith_99 : decode cX9_waysWith 99 = .ok (.invokevirtual 44, 3) := by decide +kernel
theorem dX9_waysWith_102 : decode cX9_waysWith 102 = .ok (.iload 12, 2) := by decide +kernel
theorem dX9_waysWith_104 : decode cX9_waysWith 104 = .ok (.isub, 1) := by decide +kernel
theorem dX9_waysWith_105 : decode cX9_waysWith 105 = .ok (.iload 13, 2) := by decide +kernel
theorem dX9_waysWith_107 : decode cX9_waysWith 107 = .ok (.isub, 1) := by decide +kernel
theorem dX9_waysWith_108 : decode cX9_waysWith 108 = .ok (.istore 14, 2) := by decide +kernel
theorem dX9_waysWith_110 : decode cX9_waysWith 110 = .ok (.lload 8, 2) := by decide +kernel
theorem dX9_waysWith_112 : decode cX9_waysWith 112 = .ok (.iload 12, 2) := by decide +kernel
theorem dX9_waysWith_114 : decode cX9_waysWith 114 = .ok (.iload 13, 2) := by decide +kernel
theorem dX9_waysWith_116 : decode cX9_waysWith 116 = .ok (.iload 14, 2) := by decide +kernel
theorem dX9_waysWith_118 : decode cX9_waysWith 118 = .ok (.invokestatic 40, 3) := by decide +kernel
theorem dX9_waysWith_121 : decode cX9_waysWith 121 = .ok (.lmul, 1) := by decide +kernel
theorem dX9_waysWith_122 : decode cX9_waysWith 122 = .ok (.iload 5, 2) := by decide +kernel
theorem dX9_waysWith_124 : decode cX9_waysWith 124 = .ok (.iload 12, 2) := by decide +kernel
theorem dX9_waysWith_126 : decode cX9_waysWith 126 = .ok (.isub, 1) := by decide +kernel
theorem dX9_waysWith_127 : decode cX9_waysWith 127 = .ok (.iload 6, 2) := by decide +kernel
theorem dX9_waysWith_129 : decode cX9_waysWith 129 = .ok (.iload 13, 2) := by decide +kernel
theorem dX9_waysWith_131 : decode cX9_waysWith 131 = .ok (.isub, 1) := by decide +kernel
theorem dX9_waysWith_132 : decode cX9_waysWith 132 = .ok (.iload 7, 2) := by decide +kernel
theorem dX9_waysWith_134 : decode cX9_waysWith 134 = .ok (.iload 14, 2) := by decide +kernel
theorem dX9_waysWith_136 : decode cX9_waysWith 136 = .ok (.isub, 1) := by decide +kernel
theorem dX9_waysWith_137 : decode cX9_waysWith 137 = .ok (.invokestatic 40, 3) := by decide +kernel
theorem dX9_waysWith_140 : decode cX9_waysWith 140 = .ok (.lmul, 1) := by decide +kernel
theorem dX9_waysWith_141 : decode cX9_waysWith 141 = .ok (.lstore 15, 2) := by decide +kernel
theorem dX9_waysWith_143 : decode cX9_waysWith 143 = .ok (.lload 15, 2) := by decide +kernel
theorem dX9_waysWith_145 : decode cX9_waysWith 145 = .ok (.lload_n 3, 1) := by decide +kernel
theorem dX9_waysWith_146 : decode cX9_waysWith 146 = .ok (.lcmp, 1) := by decide +kernel
theorem dX9_waysWith_147 : decode cX9_waysWith 147 = .ok (.ifCond .gt 10, 3) := by decide +kernel
theorem dX9_waysWith_150 : decode cX9_waysWith 150 = .ok (.lload 10, 2) := by decide +kernel
theorem dX9_waysWith_152 : decode cX9_waysWith 152 = .ok (.lload 15, 2) := by decide +kernel
theorem dX9_waysWith_154 : decode cX9_waysWith 154 = .ok (.ladd, 1) := by decide +kernel
theorem dX9_waysWith_155 : decode cX9_waysWith 155 = .ok (.lstore 10, 2) := by decide +kernel
theorem dX9_waysWith_157 : decode cX9_waysWith 157 = .ok (.iinc 13 1, 3) := by decide +kernel
theorem dX9_waysWith_160 : decode cX9_waysWith 160 = .ok (.goto (-83), 3) := by decide +kernel
theorem dX9_waysWith_163 : decode cX9_waysWith 163 = .ok (.iinc 12 1, 3) := by decide +kernel
theorem dX9_waysWith_166 : decode cX9_waysWith 166 = .ok (.goto (-109), 3) := by decide +kernel
theorem dX9_waysWith_169 : decode cX9_waysWith 169 = .ok (.lload 10, 2) := by decide +kernel
theorem dX9_waysWith_171 : decode cX9_waysWith 171 = .ok (.lreturn, 1) := by decide +kernel
set_option maxRecDepth 20000 in
theorem ggX9_deals_X9_factorial : GoodIn wsX9_deals wsX9_factorial := goodIn_r _ [5, 1] (by decide +kernel) (by decide +kernel)
set_option maxRecDepth 20000 in
theorem gX9_deals_X9_factorial : GoodIn wsX9_deals (va_wsS RX9 55 yX9_factorial wsX9_factorial) := goodIn_app (goodIn_of _ (by decide +kernel)) ggX9_deals_X9_factorial
theorem dX9_deals_0 : decode cX9_deals 0 = .ok (.iload_n 0, 1) := by decide +kernel
theorem dX9_deals_1 : decode cX9_deals 1 = .ok (.ifCond .lt 23, 3) := by decide +kernel
theorem dX9_deals_4 : decode cX9_deals 4 = .ok (.iload_n 1, 1) := by decide +kernel
theorem dX9_deals_5 : decode cX9_deals 5 = .ok (.ifCond .lt 19, 3) := by decide +kernel
theorem dX9_deals_8 : decode cX9_deals 8 = .ok (.iload_n 2, 1) := by decide +kernel
theorem dX9_deals_9 : decode cX9_deals 9 = .ok (.ifCond .lt 15, 3) := by decide +kernel
theorem dX9_deals_12 : decode cX9_deals 12 = .ok (.iload_n 0, 1) := by decide +kernel
theorem dX9_deals_13 : decode cX9_deals 13 = .ok (.iload_n 1, 1) := by decide +kernel
theorem dX9_deals_14 : decode cX9_deals 14 = .ok (.iadd, 1) := by decide +kernel
theorem dX9_deals_15 : decode cX9_deals 15 = .ok (.iload_n 2, 1) := by decide +kernel
theorem dX9_deals_16 : decode cX9_deals 16 = .ok (.iadd, 1) := by decide +kernel
theorem dX9_deals_17 : decode cX9_deals 17 = .ok (.getstatic 51, 3) := by decide +kernel
theorem dX9_deals_20 : decode cX9_deals 20 = .ok (.arraylength, 1) := by decide +kernel
theorem dX9_deals_21 : decode cX9_deals 21 = .ok (.if_icmp .lt 5, 3) := by decide +kernel
theorem dX9_deals_24 : decode cX9_deals 24 = .ok (.lconst 0, 1) := by decide +kernel
theorem dX9_deals_25 : decode cX9_deals 25 = .ok (.lreturn, 1) := by decide +kernel
theorem dX9_deals_26 : decode cX9_deals 26 = .ok (.iload_n 0, 1) := by decide +kernel
theorem dX9_deals_27 : decode cX9_deals 27 = .ok (.iload_n 1, 1) := by decide +kernel
theorem dX9_deals_28 : decode cX9_deals 28 = .ok (.iadd, 1) := by decide +kernel
theorem dX9_deals_29 : decode cX9_deals 29 = .ok (.iload_n 2, 1) := by decide +kernel
theorem dX9_deals_30 : decode cX9_deals 30 = .ok (.iadd, 1) := by decide +kernel
theorem dX9_deals_31 : decode cX9_deals 31 = .ok (.invokestatic 55, 3) := by decide +kernel
theorem dX9_deals_34 : decode cX9_deals 34 = .ok (.iload_n 0, 1) := by decide +kernel
theorem dX9_deals_35 : decode cX9_deals 35 = .ok (.invokestatic 55, 3) := by decide +kernel
theorem dX9_deals_38 : decode cX9_deals 38 = .ok (.ldiv, 1) := by decide +kernel
theorem dX9_deals_39 : decode cX9_deals 39 = .ok (.iload_n 1, 1) := by decide +kernel
theorem dX9_deals_40 : decode cX9_deals 40 = .ok (.invokestatic 55, 3) := by decide +kernel
theorem dX9_deals_43 : decode cX9_deals 43 = .ok (.ldiv, 1) := by decide +kernel
theorem dX9_deals_44 : decode cX9_deals 44 = .ok (.iload_n 2, 1) := by decide +kernel
theorem dX9_deals_45 : decode cX9_deals 45 = .ok (.invokestatic 55, 3) := by decide +kernel
theorem dX9_deals_48 : decode cX9_deals 48 = .ok (.ldiv, 1) := by decide +kernel
theorem dX9_deals_49 : decode cX9_deals 49 = .ok (.lreturn, 1) := by decide +kernel
theorem dX9_factorial_0 : decode cX9_factorial 0 = .ok (.iload_n 0, 1) := by decide +kernel
theorem dX9_factorial_1 : decode cX9_factorial 1 = .ok (.ifCond .lt 19, 3) := by decide +kernel
theorem dX9_factorial_4 : decode cX9_factorial 4 = .ok (.iload_n 0, 1) := by decide +kernel
theorem dX9_factorial_5 : decode cX9_factorial 5 = .ok (.getstatic 51, 3) := by decide +kernel
theorem dX9_factorial_8 : decode cX9_factorial 8 = .ok (.arraylength, 1) := by decide +kernel
theorem dX9_factorial_9 : decode cX9_factorial 9 = .ok (.if_icmp .ge 11, 3) := by decide +kernel
theorem dX9_factorial_12 : decode cX9_factorial 12 = .ok (.getstatic 51, 3) := by decide +kernel
theorem dX9_factorial_15 : decode cX9_factorial 15 = .ok (.iload_n 0, 1) := by decide +kernel
theorem dX9_factorial_16 : decode cX9_factorial 16 = .ok (.laload, 1) := by decide +kernel
theorem dX9_factorial_17 : decode cX9_factorial 17 = .ok (.goto 4, 3) := by decide +kernel
theorem dX9_factorial_20 : decode cX9_factorial 20 = .ok (.lconst 1, 1) := by decide +kernel
theorem dX9_factorial_21 : decode cX9_factorial 21 = .ok (.lreturn, 1) := by decide +kernel
theorem dX9_cell_0 : decode cX9_cell 0 = .ok (.iconst 3, 1) := by decide +kernel
theorem dX9_cell_1 : decode cX9_cell 1 = .ok (.iload_n 1, 1) := by decide +kernel
theorem dX9_cell_2 : decode cX9_cell 2 = .ok (.imul, 1) := by decide +kernel
theorem dX9_cell_3 : decode cX9_cell 3 = .ok (.iload_n 2, 1) := by decide +kernel
theorem dX9_cell_4 : decode cX9_cell 4 = .ok (.iadd, 1) := by decide +kernel
theorem dX9_cell_5 : decode cX9_cell 5 = .ok (.istore_n 3, 1) := by decide +kernel
theorem dX9_cell_6 : decode cX9_cell 6 = .ok (.iload_n 3, 1) := by decide +kernel
theorem dX9_cell_7 : decode cX9_cell 7 = .ok (.ifCond .lt 21, 3) := by decide +kernel
theorem dX9_cell_10 : decode cX9_cell 10 = .ok (.iload_n 3, 1) := by decide +kernel
theorem dX9_cell_11 : decode cX9_cell 11 = .ok (.aload_n 0, 1) := by decide +kernel
theorem dX9_cell_12 : decode cX9_cell 12 = .ok (.getfield 13, 3) := by decide +kernel
theorem dX9_cell_15 : decode cX9_cell 15 = .ok (.arraylength, 1) := by decide +kernel
theorem dX9_cell_16 : decode cX9_cell 16 = .ok (.if_icmp .ge 12, 3) := by decide +kernel
theorem dX9_cell_19 : decode cX9_cell 19 = .ok (.aload_n 0, 1) := by decide +kernel
theorem dX9_cell_20 : decode cX9_cell 20 = .ok (.getfield 13, 3) := by decide +kernel
theorem dX9_cell_23 : decode cX9_cell 23 = .ok (.iload_n 3, 1) := by decide +kernel
theorem dX9_cell_24 : decode cX9_cell 24 = .ok (.iaload, 1) := by decide +kernel
theorem dX9_cell_25 : decode cX9_cell 25 = .ok (.goto 4, 3) := by decide +kernel
theorem dX9_cell_28 : decode cX9_cell 28 = .ok (.iconst 0, 1) := by decide +kernel
theorem dX9_cell_29 : decode cX9_cell 29 = .ok (.ireturn, 1) := by decide +kernel
theorem dX9_first_0 : decode cX9_first 0 = .ok (.iload_n 1, 1) := by decide +kernel
theorem dX9_first_1 : decode cX9_first 1 = .ok (.ifCond .lt 21, 3) := by decide +kernel
theorem dX9_first_4 : decode cX9_first 4 = .ok (.iload_n 1, 1) := by decide +kernel
theorem dX9_first_5 : decode cX9_first 5 = .ok (.aload_n 0, 1) := by decide +kernel
theorem dX9_first_6 : decode cX9_first 6 = .ok (.getfield 17, 3) := by decide +kernel
theorem dX9_first_9 : decode cX9_first 9 = .ok (.arraylength, 1) := by decide +kernel
theorem dX9_first_10 : decode cX9_first 10 = .ok (.if_icmp .ge 12, 3) := by decide +kernel
theorem dX9_first_13 : decode cX9_first 13 = .ok (.aload_n 0, 1) := by decide +kernel
theorem dX9_first_14 : decode cX9_first 14 = .ok (.getfield 17, 3) := by decide +kernel
theorem dX9_first_17 : decode cX9_first 17 = .ok (.iload_n 1, 1) := by decide +kernel
theorem dX9_first_18 : decode cX9_first 18 = .ok (.iaload, 1) := by decide +kernel
theorem dX9_first_19 : decode cX9_first 19 = .ok (.goto 4, 3) := by decide +kernel
theorem dX9_first_22 : decode cX9_first 22 = .ok (.iconst 0, 1) := by decide +kernel
theorem dX9_first_23 : decode cX9_first 23 = .ok (.ireturn, 1) := by decide +kernel
theorem dX9_second_0 : decode cX9_second 0 = .ok (.iload_n 1, 1) := by decide +kernel
theorem dX9_second_1 : decode cX9_second 1 = .ok (.ifCond .lt 21, 3) := by decide +kernel
theorem dX9_second_4 : decode cX9_second 4 = .ok (.iload_n 1, 1) := by decide +kernel
theorem dX9_second_5 : decode cX9_second 5 = .ok (.aload_n 0, 1) := by decide +kernel
theorem dX9_second_6 : decode cX9_second 6 = .ok (.getfield 20, 3) := by decide +kernel
theorem dX9_second_9 : decode cX9_second 9 = .ok (.arraylength, 1) := by decide +kernel
theorem dX9_second_10 : decode cX9_second 10 = .ok (.if_icmp .ge 12, 3) := by decide +kernel
theorem dX9_second_13 : decode cX9_second 13 = .ok (.aload_n 0, 1) := by decide +kernel
theorem dX9_second_14 : decode cX9_second 14 = .ok (.getfield 20, 3) := by decide +kernel
theorem dX9_second_17 : decode cX9_second 17 = .ok (.iload_n 1, 1) := by decide +kernel
theorem dX9_second_18 : decode cX9_second 18 = .ok (.iaload, 1) := by decide +kernel
theorem dX9_second_19 : decode cX9_second 19 = .ok (.goto 4, 3) := by decide +kernel
theorem dX9_second_22 : decode cX9_second 22 = .ok (.iconst 0, 1) := by decide +kernel
theorem dX9_second_23 : decode cX9_second 23 = .ok (.ireturn, 1) := by decide +kernel
