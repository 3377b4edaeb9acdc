theorem dX10_kin_87 : decode cX10_kin 87 = .ok (.ireturn, 1) := by decide +kernel
theorem dX10_shareSize_0 : decode cX10_shareSize 0 = .ok (.aload_n 0, 1) := by decide +kernel
theorem dX10_shareSize_1 : decode cX10_shareSize 1 = .ok (.iload_n 1, 1) := by decide +kernel
theorem dX10_shareSize_2 : decode cX10_shareSize 2 = .ok (.iload_n 2, 1) := by decide +kernel
theorem dX10_shareSize_3 : decode cX10_shareSize 3 = .ok (.invokevirtual 188, 3) := by decide +kernel
theorem dX10_shareSize_6 : decode cX10_shareSize 6 = .ok (.ifCond .eq 10, 3) := by decide +kernel
theorem dX10_shareSize_9 : decode cX10_shareSize 9 = .ok (.iload_n 3, 1) := by decide +kernel
theorem dX10_shareSize_10 : decode cX10_shareSize 10 = .ok (.invokestatic 119, 3) := by decide +kernel
theorem dX10_shareSize_13 : decode cX10_shareSize 13 = .ok (.ifCond .ne 5, 3) := by decide +kernel
theorem dX10_shareSize_16 : decode cX10_shareSize 16 = .ok (.iconst (-1), 1) := by decide +kernel
theorem dX10_shareSize_17 : decode cX10_shareSize 17 = .ok (.ireturn, 1) := by decide +kernel
theorem dX10_shareSize_18 : decode cX10_shareSize 18 = .ok (.aload_n 0, 1) := by decide +kernel
theorem dX10_shareSize_19 : decode cX10_shareSize 19 = .ok (.getfield 12, 3) := by decide +kernel
theorem dX10_shareSize_22 : decode cX10_shareSize 22 = .ok (.getfield 64, 3) := by decide +kernel
theorem dX10_shareSize_25 : decode cX10_shareSize 25 = .ok (.iconst 4, 1) := by decide +kernel
theorem dX10_shareSize_26 : decode cX10_shareSize 26 = .ok (.if_icmp .le 6, 3) := by decide +kernel
theorem dX10_shareSize_29 : decode cX10_shareSize 29 = .ok (.bipush (-2), 2) := by decide +kernel
theorem dX10_shareSize_31 : decode cX10_shareSize 31 = .ok (.ireturn, 1) := by decide +kernel
theorem dX10_shareSize_32 : decode cX10_shareSize 32 = .ok (.aload_n 0, 1) := by decide +kernel
theorem dX10_shareSize_33 : decode cX10_shareSize 33 = .ok (.invokevirtual 191, 3) := by decide +kernel
theorem dX10_shareSize_36 : decode cX10_shareSize 36 = .ok (.iload_n 1, 1) := by decide +kernel
theorem dX10_shareSize_37 : decode cX10_shareSize 37 = .ok (.iload_n 2, 1) := by decide +kernel
theorem dX10_shareSize_38 : decode cX10_shareSize 38 = .ok (.invokevirtual 195, 3) := by decide +kernel
theorem dX10_shareSize_41 : decode cX10_shareSize 41 = .ok (.iload_n 3, 1) := by decide +kernel
theorem dX10_shareSize_42 : decode cX10_shareSize 42 = .ok (.invokevirtual 126, 3) := by decide +kernel
theorem dX10_shareSize_45 : decode cX10_shareSize 45 = .ok (.invokevirtual 132, 3) := by decide +kernel
theorem dX10_shareSize_48 : decode cX10_shareSize 48 = .ok (.ireturn, 1) := by decide +kernel
theorem dX10_shareWord_0 : decode cX10_shareWord 0 = .ok (.aload_n 0, 1) := by decide +kernel
theorem dX10_shareWord_1 : decode cX10_shareWord 1 = .ok (.iload_n 1, 1) := by decide +kernel
theorem dX10_shareWord_2 : decode cX10_shareWord 2 = .ok (.iload_n 2, 1) := by decide +kernel
theorem dX10_shareWord_3 : decode cX10_shareWord 3 = .ok (.invokevirtual 188, 3) := by decide +kernel
theorem dX10_shareWord_6 : decode cX10_shareWord 6 = .ok (.ifCond .eq 10, 3) := by decide +kernel
theorem dX10_shareWord_9 : decode cX10_shareWord 9 = .ok (.iload_n 3, 1) := by decide +kernel
theorem dX10_shareWord_10 : decode cX10_shareWord 10 = .ok (.invokestatic 119, 3) := by decide +kernel
theorem dX10_shareWord_13 : decode cX10_shareWord 13 = .ok (.ifCond .ne 7, 3) := by decide +kernel
theorem dX10_shareWord_16 : decode cX10_shareWord 16 = .ok (.ldc2_w 138, 3) := by decide +kernel
theorem dX10_shareWord_19 : decode cX10_shareWord 19 = .ok (.lreturn, 1) := by decide +kernel
theorem dX10_shareWord_20 : decode cX10_shareWord 20 = .ok (.aload_n 0, 1) := by decide +kernel
theorem dX10_shareWord_21 : decode cX10_shareWord 21 = .ok (.getfield 12, 3) := by decide +kernel
theorem dX10_shareWord_24 : decode cX10_shareWord 24 = .ok (.getfield 64, 3) := by decide +kernel
theorem dX10_shareWord_27 : decode cX10_shareWord 27 = .ok (.iconst 4, 1) := by decide +kernel
theorem dX10_shareWord_28 : decode cX10_shareWord 28 = .ok (.if_icmp .le 7, 3) := by decide +kernel
theorem dX10_shareWord_31 : decode cX10_shareWord 31 = .ok (.ldc2_w 201, 3) := by decide +kernel
theorem dX10_shareWord_34 : decode cX10_shareWord 34 = .ok (.lreturn, 1) := by decide +kernel
theorem dX10_shareWord_35 : decode cX10_shareWord 35 = .ok (.aload_n 0, 1) := by decide +kernel
theorem dX10_shareWord_36 : decode cX10_shareWord 36 = .ok (.invokevirtual 191, 3) := by decide +kernel
theorem dX10_shareWord_39 : decode cX10_shareWord 39 = .ok (.iload_n 1, 1) := by decide +kernel
theorem dX10_shareWord_40 : decode cX10_shareWord 40 = .ok (.iload_n 2, 1) := by decide +kernel
theorem dX10_shareWord_41 : decode cX10_shareWord 41 = .ok (.invokevirtual 195, 3) := by decide +kernel
theorem dX10_shareWord_44 : decode cX10_shareWord 44 = .ok (.iload_n 3, 1) := by decide +kernel
theorem dX10_shareWord_45 : decode cX10_shareWord 45 = .ok (.invokevirtual 126, 3) := by decide +kernel
theorem dX10_shareWord_48 : decode cX10_shareWord 48 = .ok (.iload 4, 2) := by decide +kernel
theorem dX10_shareWord_50 : decode cX10_shareWord 50 = .ok (.invokestatic 140, 3) := by decide +kernel
theorem dX10_shareWord_53 : decode cX10_shareWord 53 = .ok (.lreturn, 1) := by decide +kernel
theorem dX10_test_0 : decode cX10_test 0 = .ok (.aload_n 0, 1) := by decide +kernel
theorem dX10_test_1 : decode cX10_test 1 = .ok (.iload_n 1, 1) := by decide +kernel
theorem dX10_test_2 : decode cX10_test 2 = .ok (.iload_n 2, 1) := by decide +kernel
theorem dX10_test_3 : decode cX10_test 3 = .ok (.invokevirtual 188, 3) := by decide +kernel
theorem dX10_test_6 : decode cX10_test 6 = .ok (.ifCond .eq 11, 3) := by decide +kernel
theorem dX10_test_9 : decode cX10_test 9 = .ok (.iload 5, 2) := by decide +kernel
theorem dX10_test_11 : decode cX10_test 11 = .ok (.invokestatic 119, 3) := by decide +kernel
theorem dX10_test_14 : decode cX10_test 14 = .ok (.ifCond .ne 7, 3) := by decide +kernel
theorem dX10_test_17 : decode cX10_test 17 = .ok (.ldc2_w 138, 3) := by decide +kernel
theorem dX10_test_20 : decode cX10_test 20 = .ok (.lreturn, 1) := by decide +kernel
theorem dX10_test_21 : decode cX10_test 21 = .ok (.iload_n 3, 1) := by decide +kernel
theorem dX10_test_22 : decode cX10_test 22 = .ok (.iconst (-1), 1) := by decide +kernel
theorem dX10_test_23 : decode cX10_test 23 = .ok (.if_icmp .eq 35, 3) := by decide +kernel
theorem dX10_test_26 : decode cX10_test 26 = .ok (.aload_n 0, 1) := by decide +kernel
theorem dX10_test_27 : decode cX10_test 27 = .ok (.iload_n 1, 1) := by decide +kernel
theorem dX10_test_28 : decode cX10_test 28 = .ok (.iload_n 3, 1) := by decide +kernel
theorem dX10_test_29 : decode cX10_test 29 = .ok (.invokevirtual 188, 3) := by decide +kernel
theorem dX10_test_32 : decode cX10_test 32 = .ok (.ifCond .eq 22, 3) := by decide +kernel
theorem dX10_test_35 : decode cX10_test 35 = .ok (.aload_n 0, 1) := by decide +kernel
theorem dX10_test_36 : decode cX10_test 36 = .ok (.iload_n 2, 1) := by decide +kernel
theorem dX10_test_37 : decode cX10_test 37 = .ok (.iload_n 3, 1) := by decide +kernel
theorem dX10_test_38 : decode cX10_test 38 = .ok (.invokevirtual 188, 3) := by decide +kernel
theorem dX10_test_41 : decode cX10_test 41 = .ok (.ifCond .eq 13, 3) := by decide +kernel
theorem dX10_test_44 : decode cX10_test 44 = .ok (.aload_n 0, 1) := by decide +kernel
theorem dX10_test_45 : decode cX10_test 45 = .ok (.iload_n 3, 1) := by decide +kernel
theorem dX10_test_46 : decode cX10_test 46 = .ok (.iload 4, 2) := by decide +kernel
theorem dX10_test_48 : decode cX10_test 48 = .ok (.invokevirtual 203, 3) := by decide +kernel
theorem dX10_test_51 : decode cX10_test 51 = .ok (.ifCond .ne 7, 3) := by decide +kernel
theorem dX10_test_54 : decode cX10_test 54 = .ok (.ldc2_w 138, 3) := by decide +kernel
theorem dX10_test_57 : decode cX10_test 57 = .ok (.lreturn, 1) := by decide +kernel
theorem dX10_test_58 : decode cX10_test 58 = .ok (.aload_n 0, 1) := by decide +kernel
theorem dX10_test_59 : decode cX10_test 59 = .ok (.getfield 46, 3) := by decide +kernel
theorem dX10_test_62 : decode cX10_test 62 = .ok (.iload_n 1, 1) := by decide +kernel
theorem dX10_test_63 : decode cX10_test 63 = .ok (.iload_n 2, 1) := by decide +kernel
theorem dX10_test_64 : decode cX10_test 64 = .ok (.iload_n 3, 1) := by decide +kernel
theorem dX10_test_65 : decode cX10_test 65 = .ok (.iload 4, 2) := by decide +kernel
theorem dX10_test_67 : decode cX10_test 67 = .ok (.invokevirtual 206, 3) := by decide +kernel
theorem dX10_test_70 : decode cX10_test 70 = .ok (.iload 5, 2) := by decide +kernel
theorem dX10_test_72 : decode cX10_test 72 = .ok (.ifCond .ne 13, 3) := by decide +kernel
theorem dX10_test_75 : decode cX10_test 75 = .ok (.aload_n 0, 1) := by decide +kernel
theorem dX10_test_76 : decode cX10_test 76 = .ok (.getfield 46, 3) := by decide +kernel
theorem dX10_test_79 : decode cX10_test 79 = .ok (.invokevirtual 209, 3) := by decide +kernel
theorem dX10_test_82 : decode cX10_test 82 = .ok (.goto 10, 3) := by decide +kernel
theorem dX10_test_85 : decode cX10_test 85 = .ok (.aload_n 0, 1) := by decide +kernel
theorem dX10_test_86 : decode cX10_test 86 = .ok (.getfield 46, 3) := by decide +kernel
theorem dX10_test_89 : decode cX10_test 89 = .ok (.invokevirtual 213, 3) := by decide +kernel
theorem dX10_test_92 : decode cX10_test 92 = .ok (.lreturn, 1) := by decide +kernel
theorem dX10_isName_0 : decode cX10_isName 0 = .ok (.iload_n 1, 1) := by decide +kernel
theorem dX10_isName_1 : decode cX10_isName 1 = .ok (.ifCond .lt 18, 3) := by decide +kernel
theorem dX10_isName_4 : decode cX10_isName 4 = .ok (.iload_n 1, 1) := by decide +kernel
theorem dX10_isName_5 : decode cX10_isName 5 = .ok (.aload_n 0, 1) := by decide +kernel
theorem dX10_isName_6 : decode cX10_isName 6 = .ok (.getfield 12, 3) := by decide +kernel
theorem dX10_isName_9 : decode cX10_isName 9 = .ok (.getfield 64, 3) := by decide +kernel
theorem dX10_isName_12 : decode cX10_isName 12 = .ok (.if_icmp .ge 7, 3) := by decide +kernel
theorem dX10_isName_15 : decode cX10_isName 15 = .ok (.iconst 1, 1) := by decide +kernel
theorem dX10_isName_16 : decode cX10_isName 16 = .ok (.goto 4, 3) := by decide +kernel
theorem dX10_isName_19 : decode cX10_isName 19 = .ok (.iconst 0, 1) := by decide +kernel
theorem dX10_isName_20 : decode cX10_isName 20 = .ok (.ireturn, 1) := by decide +kernel
theorem dX10_isPair_0 : decode cX10_isPair 0 = .ok (.aload_n 0, 1) := by decide +kernel
theorem dX10_isPair_1 : decode cX10_isPair 1 = .ok (.iload_n 1, 1) := by decide +kernel
theorem dX10_isPair_2 : decode cX10_isPair 2 = .ok (.invokevirtual 89, 3) := by decide +kernel
theorem dX10_isPair_5 : decode cX10_isPair 5 = .ok (.ifCond .eq 20, 3) := by decide +kernel
theorem dX10_isPair_8 : decode cX10_isPair 8 = .ok (.aload_n 0, 1) := by decide +kernel
theorem dX10_isPair_9 : decode cX10_isPair 9 = .ok (.iload_n 2, 1) := by decide +kernel
theorem dX10_isPair_10 : decode cX10_isPair 10 = .ok (.invokevirtual 89, 3) := by decide +kernel
theorem dX10_isPair_13 : decode cX10_isPair 13 = .ok (.ifCond .eq 12, 3) := by decide +kernel
theorem dX10_isPair_16 : decode cX10_isPair 16 = .ok (.iload_n 1, 1) := by decide +kernel
theorem dX10_isPair_17 : decode cX10_isPair 17 = .ok (.iload_n 2, 1) := by decide +kernel
theorem dX10_isPair_18 : decode cX10_isPair 18 = .ok (.if_icmp .eq 7, 3) := by decide +kernel
theorem dX10_isPair_21 : decode cX10_isPair 21 = .ok (.iconst 1, 1) := by decide +kernel
theorem dX10_isPair_22 : decode cX10_isPair 22 = .ok (.goto 4, 3) := by decide +kernel
theorem dX10_isPair_25 : decode cX10_isPair 25 = .ok (.iconst 0, 1) := by decide +kernel
theorem dX10_isPair_26 : decode cX10_isPair 26 = .ok (.ireturn, 1) := by decide +kernel
theorem dX10_isRow_0 : decode cX10_isRow 0 = .ok (.iload_n 1, 1) := by decide +kernel
theorem dX10_isRow_1 : decode cX10_isRow 1 = .ok (.ifCond .lt 18, 3) := by decide +kernel
theorem dX10_isRow_4 : decode cX10_isRow 4 = .ok (.iload_n 1, 1) := by decide +kernel
theorem dX10_isRow_5 : decode cX10_isRow 5 = .ok (.aload_n 0, 1) := by decide +kernel
theorem dX10_isRow_6 : decode cX10_isRow 6 = .ok (.getfield 12, 3) := by decide +kernel
theorem dX10_isRow_9 : decode cX10_isRow 9 = .ok (.getfield 54, 3) := by decide +kernel
theorem dX10_isRow_12 : decode cX10_isRow 12 = .ok (.if_icmp .ge 7, 3) := by decide +kernel
theorem dX10_isRow_15 : decode cX10_isRow 15 = .ok (.iconst 1, 1) := by decide +kernel
theorem dX10_isRow_16 : decode cX10_isRow 16 = .ok (.goto 4, 3) := by decide +kernel
theorem dX10_isRow_19 : decode cX10_isRow 19 = .ok (.iconst 0, 1) := by decide +kernel
theorem dX10_isRow_20 : decode cX10_isRow 20 = .ok (.ireturn, 1) := by decide +kernel
theorem dX10_isValue_0 : decode cX10_isValue 0 = .ok (.iload_n 2, 1) := by decide +kernel
theorem dX10_isValue_1 : decode cX10_isValue 1 = .ok (.ifCond .lt 19, 3) := by decide +kernel
theorem dX10_isValue_4 : decode cX10_isValue 4 = .ok (.iload_n 2, 1) := by decide +kernel
theorem dX10_isValue_5 : decode cX10_isValue 5 = .ok (.aload_n 0, 1) := by decide +kernel
theorem dX10_isValue_6 : decode cX10_isValue 6 = .ok (.getfield 12, 3) := by decide +kernel
theorem dX10_isValue_9 : decode cX10_isValue 9 = .ok (.iload_n 1, 1) := by decide +kernel
theorem dX10_isValue_10 : decode cX10_isValue 10 = .ok (.invokevirtual 104, 3) := by decide +kernel
theorem dX10_isValue_13 : decode cX10_isValue 13 = .ok (.if_icmp .ge 7, 3) := by decide +kernel
theorem dX10_isValue_16 : decode cX10_isValue 16 = .ok (.iconst 1, 1) := by decide +kernel
theorem dX10_isValue_17 : decode cX10_isValue 17 = .ok (.goto 4, 3) := by decide +kernel
theorem dX10_isValue_20 : decode cX10_isValue 20 = .ok (.iconst 0, 1) := by decide +kernel
theorem dX10_isValue_21 : decode cX10_isValue 21 = .ok (.ireturn, 1) := by decide +kernel
theorem dX10_isPart_0 : decode cX10_isPart 0 = .ok (.iload_n 0, 1) := by decide +kernel
theorem dX10_isPart_1 : decode cX10_isPart 1 = .ok (.ifCond .eq 8, 3) := by decide +kernel
theorem dX10_isPart_4 : decode cX10_isPart 4 = .ok (.iload_n 0, 1) := by decide +kernel
theorem dX10_isPart_5 : decode cX10_isPart 5 = .ok (.iconst 1, 1) := by decide +kernel
theorem dX10_isPart_6 : decode cX10_isPart 6 = .ok (.if_icmp .ne 7, 3) := by decide +kernel
theorem dX10_isPart_9 : decode cX10_isPart 9 = .ok (.iconst 1, 1) := by decide +kernel
theorem dX10_isPart_10 : decode cX10_isPart 10 = .ok (.goto 4, 3) := by decide +kernel
theorem dX10_isPart_13 : decode cX10_isPart 13 = .ok (.iconst 0, 1) := by decide +kernel
theorem dX10_isPart_14 : decode cX10_isPart 14 = .ok (.ireturn, 1) := by decide +kernel
theorem dX10_fitsName_0 : decode cX10_fitsName 0 = .ok (.aload_n 0, 1) := by decide +kernel
theorem dX10_fitsName_1 : decode cX10_fitsName 1 = .ok (.iload_n 1, 1) := by decide +kernel
theorem dX10_fitsName_2 : decode cX10_fitsName 2 = .ok (.invokevirtual 89, 3) := by decide +kernel
theorem dX10_fitsName_5 : decode cX10_fitsName 5 = .ok (.ifCond .eq 12, 3) := by decide +kernel
theorem dX10_fitsName_8 : decode cX10_fitsName 8 = .ok (.aload_n 0, 1) := by decide +kernel
theorem dX10_fitsName_9 : decode cX10_fitsName 9 = .ok (.iload_n 1, 1) := by decide +kernel
theorem dX10_fitsName_10 : decode cX10_fitsName 10 = .ok (.iload_n 2, 1) := by decide +kernel
theorem dX10_fitsName_11 : decode cX10_fitsName 11 = .ok (.invokevirtual 203, 3) := by decide +kernel
theorem dX10_fitsName_14 : decode cX10_fitsName 14 = .ok (.ifCond .eq 7, 3) := by decide +kernel
theorem dX10_fitsName_17 : decode cX10_fitsName 17 = .ok (.iconst 1, 1) := by decide +kernel
theorem dX10_fitsName_18 : decode cX10_fitsName 18 = .ok (.goto 4, 3) := by decide +kernel
theorem dX10_fitsName_21 : decode cX10_fitsName 21 = .ok (.iconst 0, 1) := by decide +kernel
theorem dX10_fitsName_22 : decode cX10_fitsName 22 = .ok (.ireturn, 1) := by decide +kernel
theorem dX10_coded_0 : decode cX10_coded 0 = .ok (.aload_n 0, 1) := by decide +kernel
theorem dX10_coded_1 : decode cX10_coded 1 = .ok (.iload_n 1, 1) := by decide +kernel
theorem dX10_coded_2 : decode cX10_coded 2 = .ok (.invokevirtual 89, 3) := by decide +kernel
theorem dX10_coded_5 : decode cX10_coded 5 = .ok (.ifCond .eq 11, 3) := by decide +kernel
theorem dX10_coded_8 : decode cX10_coded 8 = .ok (.iload_n 2, 1) := by decide +kernel
theorem dX10_coded_9 : decode cX10_coded 9 = .ok (.iconst 2, 1) := by decide +kernel
theorem dX10_coded_10 : decode cX10_coded 10 = .ok (.iload_n 1, 1) := by decide +kernel
theorem dX10_coded_11 : decode cX10_coded 11 = .ok (.imul, 1) := by decide +kernel
theorem dX10_coded_12 : decode cX10_coded 12 = .ok (.ishl, 1) := by decide +kernel
theorem dX10_coded_13 : decode cX10_coded 13 = .ok (.goto 4, 3) := by decide +kernel
theorem dX10_coded_16 : decode cX10_coded 16 = .ok (.iconst 0, 1) := by decide +kernel
theorem dX10_coded_17 : decode cX10_coded 17 = .ok (.ireturn, 1) := by decide +kernel
theorem dX10_wordOf_0 : decode cX10_wordOf 0 = .ok (.iload_n 1, 1) := by decide +kernel
theorem dX10_wordOf_1 : decode cX10_wordOf 1 = .ok (.ifCond .lt 19, 3) := by decide +kernel
theorem dX10_wordOf_4 : decode cX10_wordOf 4 = .ok (.iload_n 1, 1) := by decide +kernel
theorem dX10_wordOf_5 : decode cX10_wordOf 5 = .ok (.aload_n 0, 1) := by decide +kernel
theorem dX10_wordOf_6 : decode cX10_wordOf 6 = .ok (.invokevirtual 132, 3) := by decide +kernel
theorem dX10_wordOf_9 : decode cX10_wordOf 9 = .ok (.if_icmp .ge 11, 3) := by decide +kernel
theorem dX10_wordOf_12 : decode cX10_wordOf 12 = .ok (.aload_n 0, 1) := by decide +kernel
theorem dX10_wordOf_13 : decode cX10_wordOf 13 = .ok (.iload_n 1, 1) := by decide +kernel
theorem dX10_wordOf_14 : decode cX10_wordOf 14 = .ok (.invokevirtual 216, 3) := by decide +kernel
theorem dX10_wordOf_17 : decode cX10_wordOf 17 = .ok (.goto 6, 3) := by decide +kernel
theorem dX10_wordOf_20 : decode cX10_wordOf 20 = .ok (.ldc2_w 138, 3) := by decide +kernel
theorem dX10_wordOf_23 : decode cX10_wordOf 23 = .ok (.lreturn, 1) := by decide +kernel
theorem dX10_readyShares_0 : decode cX10_readyShares 0 = .ok (.aload_n 0, 1) := by decide +kernel
theorem dX10_readyShares_1 : decode cX10_readyShares 1 = .ok (.getfield 50, 3) := by decide +kernel
theorem dX10_readyShares_4 : decode cX10_readyShares 4 = .ok (.ifnonnull 22, 3) := by decide +kernel
theorem dX10_readyShares_7 : decode cX10_readyShares 7 = .ok (.aload_n 0, 1) := by decide +kernel
theorem dX10_readyShares_8 : decode cX10_readyShares 8 = .ok (.new 196, 3) := by decide +kernel
theorem dX10_readyShares_11 : decode cX10_readyShares 11 = .ok (.dup, 1) := by decide +kernel
theorem dX10_readyShares_12 : decode cX10_readyShares 12 = .ok (.aload_n 0, 1) := by decide +kernel
theorem dX10_readyShares_13 : decode cX10_readyShares 13 = .ok (.getfield 12, 3) := by decide +kernel
theorem dX10_readyShares_16 : decode cX10_readyShares 16 = .ok (.aload_n 0, 1) := by decide +kernel
theorem dX10_readyShares_17 : decode cX10_readyShares 17 = .ok (.getfield 19, 3) := by decide +kernel
theorem dX10_readyShares_20 : decode cX10_readyShares 20 = .ok (.invokespecial 219, 3) := by decide +kernel
theorem dX10_readyShares_23 : decode cX10_readyShares 23 = .ok (.putfield 50, 3) := by decide +kernel
theorem dX10_readyShares_26 : decode cX10_readyShares 26 = .ok (.aload_n 0, 1) := by decide +kernel
theorem dX10_readyShares_27 : decode cX10_readyShares 27 = .ok (.getfield 50, 3) := by decide +kernel
theorem dX10_readyShares_30 : decode cX10_readyShares 30 = .ok (.areturn, 1) := by decide +kernel
theorem dX10_forgetFits_0 : decode cX10_forgetFits 0 = .ok (.aload_n 0, 1) := by decide +kernel
theorem dX10_forgetFits_1 : decode cX10_forgetFits 1 = .ok (.getfield 28, 3) := by decide +kernel
theorem dX10_forgetFits_4 : decode cX10_forgetFits 4 = .ok (.invokevirtual 220, 3) := by decide +kernel
theorem dX10_forgetFits_7 : decode cX10_forgetFits 7 = .ok (.aload_n 0, 1) := by decide +kernel
theorem dX10_forgetFits_8 : decode cX10_forgetFits 8 = .ok (.invokevirtual 101, 3) := by decide +kernel
theorem dX10_forgetFits_11 : decode cX10_forgetFits 11 = .ok (.return_, 1) := by decide +kernel
theorem dX10_forgetShares_0 : decode cX10_forgetShares 0 = .ok (.aload_n 0, 1) := by decide +kernel
theorem dX10_forgetShares_1 : decode cX10_forgetShares 1 = .ok (.getfield 50, 3) := by decide +kernel
theorem dX10_forgetShares_4 : decode cX10_forgetShares 4 = .ok (.ifnull 10, 3) := by decide +kernel
theorem dX10_forgetShares_7 : decode cX10_forgetShares 7 = .ok (.aload_n 0, 1) := by decide +kernel
theorem dX10_forgetShares_8 : decode cX10_forgetShares 8 = .ok (.getfield 50, 3) := by decide +kernel
theorem dX10_forgetShares_11 : decode cX10_forgetShares 11 = .ok (.invokevirtual 223, 3) := by decide +kernel
theorem dX10_forgetShares_14 : decode cX10_forgetShares 14 = .ok (.return_, 1) := by decide +kernel
theorem dX11_init_0 : decode cX11_init 0 = .ok (.aload_n 0, 1) := by decide +kernel
theorem dX11_init_1 : decode cX11_init 1 = .ok (.invokespecial 1, 3) := by decide +kernel
theorem dX11_init_4 : decode cX11_init 4 = .ok (.aload_n 0, 1) := by decide +kernel
theorem dX11_init_5 : decode cX11_init 5 = .ok (.iconst 5, 1) := by decide +kernel
theorem dX11_init_6 : decode cX11_init 6 = .ok (.newarray .int, 2) := by decide +kernel
theorem dX11_init_8 : decode cX11_init 8 = .ok (.putfield 7, 3) := by decide +kernel
theorem dX11_init_11 : decode cX11_init 11 = .ok (.aload_n 0, 1) := by decide +kernel
theorem dX11_init_12 : decode cX11_init 12 = .ok (.bipush 80, 2) := by decide +kernel
theorem dX11_init_14 : decode cX11_init 14 = .ok (.newarray .int, 2) := by decide +kernel
theorem dX11_init_16 : decode cX11_init 16 = .ok (.putfield 13, 3) := by decide +kernel
theorem dX11_init_19 : decode cX11_init 19 = .ok (.aload_n 0, 1) := by decide +kernel
theorem dX11_init_20 : decode cX11_init 20 = .ok (.iconst 1, 1) := by decide +kernel
theorem dX11_init_21 : decode cX11_init 21 = .ok (.putfield 16, 3) := by decide +kernel
theorem dX11_init_24 : decode cX11_init 24 = .ok (.aload_n 0, 1) := by decide +kernel
theorem dX11_init_25 : decode cX11_init 25 = .ok (.iconst 4, 1) := by decide +kernel
theorem dX11_init_26 : decode cX11_init 26 = .ok (.putfield 20, 3) := by decide +kernel
theorem dX11_init_29 : decode cX11_init 29 = .ok (.aload_n 0, 1) := by decide +kernel
theorem dX11_init_30 : decode cX11_init 30 = .ok (.sipush 320, 3) := by decide +kernel
theorem dX11_init_33 : decode cX11_init 33 = .ok (.newarray .int, 2) := by decide +kernel
theorem dX11_init_35 : decode cX11_init 35 = .ok (.putfield 23, 3) := by decide +kernel
theorem dX11_init_38 : decode cX11_init 38 = .ok (.aload_n 0, 1) := by decide +kernel
theorem dX11_init_39 : decode cX11_init 39 = .ok (.sipush 320, 3) := by decide +kernel
theorem dX11_init_42 : decode cX11_init 42 = .ok (.newarray .int, 2) := by decide +kernel
theorem dX11_init_44 : decode cX11_init 44 = .ok (.putfield 26, 3) := by decide +kernel
theorem dX11_init_47 : decode cX11_init 47 = .ok (.aload_n 0, 1) := by decide +kernel
theorem dX11_init_48 : decode cX11_init 48 = .ok (.sipush 320, 3) := by decide +kernel
theorem dX11_init_51 : decode cX11_init 51 = .ok (.newarray .int, 2) := by decide +kernel
theorem dX11_init_53 : decode cX11_init 53 = .ok (.putfield 29, 3) := by decide +kernel
theorem dX11_init_56 : decode cX11_init 56 = .ok (.aload_n 0, 1) := by decide +kernel
theorem dX11_init_57 : decode cX11_init 57 = .ok (.sipush 320, 3) := by decide +kernel
theorem dX11_init_60 : decode cX11_init 60 = .ok (.newarray .int, 2) := by decide +kernel
theorem dX11_init_62 : decode cX11_init 62 = .ok (.putfield 32, 3) := by decide +kernel
theorem dX11_init_65 : decode cX11_init 65 = .ok (.aload_n 0, 1) := by decide +kernel
theorem dX11_init_66 : decode cX11_init 66 = .ok (.sipush 320, 3) := by decide +kernel
theorem dX11_init_69 : decode cX11_init 69 = .ok (.newarray .int, 2) := by decide +kernel
theorem dX11_init_71 : decode cX11_init 71 = .ok (.putfield 35, 3) := by decide +kernel
theorem dX11_init_74 : decode cX11_init 74 = .ok (.aload_n 0, 1) := by decide +kernel
theorem dX11_init_75 : decode cX11_init 75 = .ok (.sipush 160, 3) := by decide +kernel
theorem dX11_init_78 : decode cX11_init 78 = .ok (.newarray .boolean, 2) := by decide +kernel
theorem dX11_init_80 : decode cX11_init 80 = .ok (.putfield 38, 3) := by decide +kernel
theorem dX11_init_83 : decode cX11_init 83 = .ok (.aload_n 0, 1) := by decide +kernel
theorem dX11_init_84 : decode cX11_init 84 = .ok (.sipush 1280, 3) := by decide +kernel
theorem dX11_init_87 : decode cX11_init 87 = .ok (.newarray .int, 2) := by decide +kernel
theorem dX11_init_89 : decode cX11_init 89 = .ok (.putfield 42, 3) := by decide +kernel
theorem dX11_init_92 : decode cX11_init 92 = .ok (.aload_n 0, 1) := by decide +kernel
theorem dX11_init_93 : decode cX11_init 93 = .ok (.sipush 1280, 3) := by decide +kernel
theorem dX11_init_96 : decode cX11_init 96 = .ok (.newarray .int, 2) := by decide +kernel
theorem dX11_init_98 : decode cX11_init 98 = .ok (.putfield 45, 3) := by decide +kernel
theorem dX11_init_101 : decode cX11_init 101 = .ok (.aload_n 0, 1) := by decide +kernel
theorem dX11_init_102 : decode cX11_init 102 = .ok (.sipush 320, 3) := by decide +kernel
theorem dX11_init_105 : decode cX11_init 105 = .ok (.newarray .int, 2) := by decide +kernel
theorem dX11_init_107 : decode cX11_init 107 = .ok (.putfield 48, 3) := by decide +kernel
theorem dX11_init_110 : decode cX11_init 110 = .ok (.aload_n 0, 1) := by decide +kernel
theorem dX11_init_111 : decode cX11_init 111 = .ok (.sipush 320, 3) := by decide +kernel
theorem dX11_init_114 : decode cX11_init 114 = .ok (.newarray .int, 2) := by decide +kernel
theorem dX11_init_116 : decode cX11_init 116 = .ok (.putfield 51, 3) := by decide +kernel
theorem dX11_init_119 : decode cX11_init 119 = .ok (.aload_n 0, 1) := by decide +kernel
theorem dX11_init_120 : decode cX11_init 120 = .ok (.sipush 320, 3) := by decide +kernel
theorem dX11_init_123 : decode cX11_init 123 = .ok (.newarray .int, 2) := by decide +kernel
theorem dX11_init_125 : decode cX11_init 125 = .ok (.putfield 54, 3) := by decide +kernel
theorem dX11_init_128 : decode cX11_init 128 = .ok (.aload_n 0, 1) := by decide +kernel
theorem dX11_init_129 : decode cX11_init 129 = .ok (.sipush 320, 3) := by decide +kernel
theorem dX11_init_132 : decode cX11_init 132 = .ok (.newarray .int, 2) := by decide +kernel
theorem dX11_init_134 : decode cX11_init 134 = .ok (.putfield 57, 3) := by decide +kernel
theorem dX11_init_137 : decode cX11_init 137 = .ok (.aload_n 0, 1) := by decide +kernel
theorem dX11_init_138 : decode cX11_init 138 = .ok (.sipush 320, 3) := by decide +kernel
theorem dX11_init_141 : decode cX11_init 141 = .ok (.newarray .int, 2) := by decide +kernel
theorem dX11_init_143 : decode cX11_init 143 = .ok (.putfield 60, 3) := by decide +kernel
theorem dX11_init_146 : decode cX11_init 146 = .ok (.aload_n 0, 1) := by decide +kernel
theorem dX11_init_147 : decode cX11_init 147 = .ok (.sipush 320, 3) := by decide +kernel
theorem dX11_init_150 : decode cX11_init 150 = .ok (.newarray .int, 2) := by decide +kernel
theorem dX11_init_152 : decode cX11_init 152 = .ok (.putfield 63, 3) := by decide +kernel
theorem dX11_init_155 : decode cX11_init 155 = .ok (.aload_n 0, 1) := by decide +kernel
theorem dX11_init_156 : decode cX11_init 156 = .ok (.sipush 320, 3) := by decide +kernel
theorem dX11_init_159 : decode cX11_init 159 = .ok (.newarray .int, 2) := by decide +kernel
theorem dX11_init_161 : decode cX11_init 161 = .ok (.putfield 66, 3) := by decide +kernel
theorem dX11_init_164 : decode cX11_init 164 = .ok (.aload_n 0, 1) := by decide +kernel
theorem dX11_init_165 : decode cX11_init 165 = .ok (.sipush 320, 3) := by decide +kernel
theorem dX11_init_168 : decode cX11_init 168 = .ok (.newarray .int, 2) := by decide +kernel
theorem dX11_init_170 : decode cX11_init 170 = .ok (.putfield 69, 3) := by decide +kernel
theorem dX11_init_173 : decode cX11_init 173 = .ok (.aload_n 0, 1) := by decide +kernel
theorem dX11_init_174 : decode cX11_init 174 = .ok (.sipush 320, 3) := by decide +kernel
theorem dX11_init_177 : decode cX11_init 177 = .ok (.newarray .int, 2) := by decide +kernel
theorem dX11_init_179 : decode cX11_init 179 = .ok (.putfield 72, 3) := by decide +kernel
theorem dX11_init_182 : decode cX11_init 182 = .ok (.aload_n 0, 1) := by decide +kernel
theorem dX11_init_183 : decode cX11_init 183 = .ok (.sipush 320, 3) := by decide +kernel
theorem dX11_init_186 : decode cX11_init 186 = .ok (.newarray .int, 2) := by decide +kernel
theorem dX11_init_188 : decode cX11_init 188 = .ok (.putfield 75, 3) := by decide +kernel
theorem dX11_init_191 : decode cX11_init 191 = .ok (.aload_n 0, 1) := by decide +kernel
theorem dX11_init_192 : decode cX11_init 192 = .ok (.iconst (-1), 1) := by decide +kernel
theorem dX11_init_193 : decode cX11_init 193 = .ok (.putfield 78, 3) := by decide +kernel
theorem dX11_init_196 : decode cX11_init 196 = .ok (.aload_n 0, 1) := by decide +kernel
theorem dX11_init_197 : decode cX11_init 197 = .ok (.iconst (-1), 1) := by decide +kernel
theorem dX11_init_198 : decode cX11_init 198 = .ok (.putfield 81, 3) := by decide +kernel
theorem dX11_init_201 : decode cX11_init 201 = .ok (.aload_n 0, 1) := by decide +kernel
theorem dX11_init_202 : decode cX11_init 202 = .ok (.bipush 32, 2) := by decide +kernel
theorem dX11_init_204 : decode cX11_init 204 = .ok (.newarray .int, 2) := by decide +kernel
theorem dX11_init_206 : decode cX11_init 206 = .ok (.putfield 84, 3) := by decide +kernel
theorem dX11_init_209 : decode cX11_init 209 = .ok (.aload_n 0, 1) := by decide +kernel
theorem dX11_init_210 : decode cX11_init 210 = .ok (.bipush 10, 2) := by decide +kernel
theorem dX11_init_212 : decode cX11_init 212 = .ok (.newarray .int, 2) := by decide +kernel
theorem dX11_init_214 : decode cX11_init 214 = .ok (.putfield 87, 3) := by decide +kernel
theorem dX11_init_217 : decode cX11_init 217 = .ok (.aload_n 0, 1) := by decide +kernel
theorem dX11_init_218 : decode cX11_init 218 = .ok (.bipush 10, 2) := by decide +kernel
theorem dX11_init_220 : decode cX11_init 220 = .ok (.newarray .int, 2) := by decide +kernel
theorem dX11_init_222 : decode cX11_init 222 = .ok (.putfield 90, 3) := by decide +kernel
theorem dX11_init_225 : decode cX11_init 225 = .ok (.aload_n 0, 1) := by decide +kernel
theorem dX11_init_226 : decode cX11_init 226 = .ok (.sipush 5120, 3) := by decide +kernel
theorem dX11_init_229 : decode cX11_init 229 = .ok (.newarray .int, 2) := by decide +kernel
theorem dX11_init_231 : decode cX11_init 231 = .ok (.putfield 93, 3) := by decide +kernel
theorem dX11_init_234 : decode cX11_init 234 = .ok (.aload_n 0, 1) := by decide +kernel
theorem dX11_init_235 : decode cX11_init 235 = .ok (.sipush 5120, 3) := by decide +kernel
theorem dX11_init_238 : decode cX11_init 238 = .ok (.newarray .int, 2) := by decide +kernel
theorem dX11_init_240 : decode cX11_init 240 = .ok (.putfield 96, 3) := by decide +kernel
theorem dX11_init_243 : decode cX11_init 243 = .ok (.aload_n 0, 1) := by decide +kernel
theorem dX11_init_244 : decode cX11_init 244 = .ok (.sipush 5120, 3) := by decide +kernel
theorem dX11_init_247 : decode cX11_init 247 = .ok (.newarray .int, 2) := by decide +kernel
theorem dX11_init_249 : decode cX11_init 249 = .ok (.putfield 99, 3) := by decide +kernel
theorem dX11_init_252 : decode cX11_init 252 = .ok (.aload_n 0, 1) := by decide +kernel
theorem dX11_init_253 : decode cX11_init 253 = .ok (.sipush 320, 3) := by decide +kernel
theorem dX11_init_256 : decode cX11_init 256 = .ok (.newarray .int, 2) := by decide +kernel
theorem dX11_init_258 : decode cX11_init 258 = .ok (.putfield 102, 3) := by decide +kernel
theorem dX11_init_261 : decode cX11_init 261 = .ok (.aload_n 0, 1) := by decide +kernel
theorem dX11_init_262 : decode cX11_init 262 = .ok (.sipush 320, 3) := by decide +kernel
theorem dX11_init_265 : decode cX11_init 265 = .ok (.newarray .int, 2) := by decide +kernel
theorem dX11_init_267 : decode cX11_init 267 = .ok (.putfield 105, 3) := by decide +kernel
theorem dX11_init_270 : decode cX11_init 270 = .ok (.aload_n 0, 1) := by decide +kernel
theorem dX11_init_271 : decode cX11_init 271 = .ok (.sipush 320, 3) := by decide +kernel
theorem dX11_init_274 : decode cX11_init 274 = .ok (.newarray .int, 2) := by decide +kernel
theorem dX11_init_276 : decode cX11_init 276 = .ok (.putfield 108, 3) := by decide +kernel
theorem dX11_init_279 : decode cX11_init 279 = .ok (.aload_n 0, 1) := by decide +kernel
theorem dX11_init_280 : decode cX11_init 280 = .ok (.sipush 320, 3) := by decide +kernel
theorem dX11_init_283 : decode cX11_init 283 = .ok (.newarray .int, 2) := by decide +kernel
theorem dX11_init_285 : decode cX11_init 285 = .ok (.putfield 111, 3) := by decide +kernel
theorem dX11_init_288 : decode cX11_init 288 = .ok (.aload_n 0, 1) := by decide +kernel
theorem dX11_init_289 : decode cX11_init 289 = .ok (.iconst 3, 1) := by decide +kernel
theorem dX11_init_290 : decode cX11_init 290 = .ok (.newarray .int, 2) := by decide +kernel
theorem dX11_init_292 : decode cX11_init 292 = .ok (.putfield 114, 3) := by decide +kernel
theorem dX11_init_295 : decode cX11_init 295 = .ok (.aload_n 0, 1) := by decide +kernel
theorem dX11_init_296 : decode cX11_init 296 = .ok (.iconst 3, 1) := by decide +kernel
theorem dX11_init_297 : decode cX11_init 297 = .ok (.newarray .int, 2) := by decide +kernel
theorem dX11_init_299 : decode cX11_init 299 = .ok (.putfield 117, 3) := by decide +kernel
theorem dX11_init_302 : decode cX11_init 302 = .ok (.aload_n 0, 1) := by decide +kernel
theorem dX11_init_303 : decode cX11_init 303 = .ok (.bipush 9, 2) := by decide +kernel
theorem dX11_init_305 : decode cX11_init 305 = .ok (.newarray .int, 2) := by decide +kernel
theorem dX11_init_307 : decode cX11_init 307 = .ok (.putfield 120, 3) := by decide +kernel
theorem dX11_init_310 : decode cX11_init 310 = .ok (.return_, 1) := by decide +kernel
theorem dX11_put_0 : decode cX11_put 0 = .ok (.aload_n 0, 1) := by decide +kernel
theorem dX11_put_1 : decode cX11_put 1 = .ok (.iconst 0, 1) := by decide +kernel
theorem dX11_put_2 : decode cX11_put 2 = .ok (.iload_n 1, 1) := by decide +kernel
theorem dX11_put_3 : decode cX11_put 3 = .ok (.ifCond .ne 7, 3) := by decide +kernel
theorem dX11_put_6 : decode cX11_put 6 = .ok (.iconst 0, 1) := by decide +kernel
theorem dX11_put_7 : decode cX11_put 7 = .ok (.goto 4, 3) := by decide +kernel
theorem dX11_put_10 : decode cX11_put 10 = .ok (.iconst 1, 1) := by decide +kernel
theorem dX11_put_11 : decode cX11_put 11 = .ok (.iastore, 1) := by decide +kernel
theorem dX11_put_12 : decode cX11_put 12 = .ok (.aload_n 0, 1) := by decide +kernel
theorem dX11_put_13 : decode cX11_put 13 = .ok (.iconst 1, 1) := by decide +kernel
theorem dX11_put_14 : decode cX11_put 14 = .ok (.iload_n 1, 1) := by decide +kernel
theorem dX11_put_15 : decode cX11_put 15 = .ok (.iastore, 1) := by decide +kernel
theorem dX11_put_16 : decode cX11_put 16 = .ok (.return_, 1) := by decide +kernel
theorem dX11_copy_0 : decode cX11_copy 0 = .ok (.iconst 0, 1) := by decide +kernel
theorem dX11_copy_1 : decode cX11_copy 1 = .ok (.istore_n 2, 1) := by decide +kernel
theorem dX11_copy_2 : decode cX11_copy 2 = .ok (.iload_n 2, 1) := by decide +kernel
theorem dX11_copy_3 : decode cX11_copy 3 = .ok (.aload_n 0, 1) := by decide +kernel
theorem dX11_copy_4 : decode cX11_copy 4 = .ok (.iconst 0, 1) := by decide +kernel
theorem dX11_copy_5 : decode cX11_copy 5 = .ok (.iaload, 1) := by decide +kernel
theorem dX11_copy_6 : decode cX11_copy 6 = .ok (.if_icmp .gt 15, 3) := by decide +kernel
theorem dX11_copy_9 : decode cX11_copy 9 = .ok (.aload_n 1, 1) := by decide +kernel
theorem dX11_copy_10 : decode cX11_copy 10 = .ok (.iload_n 2, 1) := by decide +kernel
theorem dX11_copy_11 : decode cX11_copy 11 = .ok (.aload_n 0, 1) := by decide +kernel
theorem dX11_copy_12 : decode cX11_copy 12 = .ok (.iload_n 2, 1) := by decide +kernel
theorem dX11_copy_13 : decode cX11_copy 13 = .ok (.iaload, 1) := by decide +kernel
theorem dX11_copy_14 : decode cX11_copy 14 = .ok (.iastore, 1) := by decide +kernel
theorem dX11_copy_15 : decode cX11_copy 15 = .ok (.iinc 2 1, 3) := by decide +kernel
theorem dX11_copy_18 : decode cX11_copy 18 = .ok (.goto (-16), 3) := by decide +kernel
theorem dX11_copy_21 : decode cX11_copy 21 = .ok (.return_, 1) := by decide +kernel
theorem dX11_compareTo_0 : decode cX11_compareTo 0 = .ok (.aload_n 0, 1) := by decide +kernel
theorem dX11_compareTo_1 : decode cX11_compareTo 1 = .ok (.iconst 0, 1) := by decide +kernel
theorem dX11_compareTo_2 : decode cX11_compareTo 2 = .ok (.iaload, 1) := by decide +kernel
theorem dX11_compareTo_3 : decode cX11_compareTo 3 = .ok (.aload_n 1, 1) := by decide +kernel
theorem dX11_compareTo_4 : decode cX11_compareTo 4 = .ok (.iconst 0, 1) := by decide +kernel
theorem dX11_compareTo_5 : decode cX11_compareTo 5 = .ok (.iaload, 1) := by decide +kernel
theorem dX11_compareTo_6 : decode cX11_compareTo 6 = .ok (.isub, 1) := by decide +kernel
theorem dX11_compareTo_7 : decode cX11_compareTo 7 = .ok (.istore_n 2, 1) := by decide +kernel
theorem dX11_compareTo_8 : decode cX11_compareTo 8 = .ok (.aload_n 0, 1) := by decide +kernel
theorem dX11_compareTo_9 : decode cX11_compareTo 9 = .ok (.iconst 0, 1) := by decide +kernel
theorem dX11_compareTo_10 : decode cX11_compareTo 10 = .ok (.iaload, 1) := by decide +kernel
theorem dX11_compareTo_11 : decode cX11_compareTo 11 = .ok (.istore_n 3, 1) := by decide +kernel
theorem dX11_compareTo_12 : decode cX11_compareTo 12 = .ok (.iload_n 3, 1) := by decide +kernel
theorem dX11_compareTo_13 : decode cX11_compareTo 13 = .ok (.ifCond .le 56, 3) := by decide +kernel
theorem dX11_compareTo_16 : decode cX11_compareTo 16 = .ok (.iload_n 2, 1) := by decide +kernel
theorem dX11_compareTo_17 : decode cX11_compareTo 17 = .ok (.ifCond .ne 52, 3) := by decide +kernel
theorem dX11_compareTo_20 : decode cX11_compareTo 20 = .ok (.aload_n 0, 1) := by decide +kernel
theorem dX11_compareTo_21 : decode cX11_compareTo 21 = .ok (.iload_n 3, 1) := by decide +kernel
theorem dX11_compareTo_22 : decode cX11_compareTo 22 = .ok (.iaload, 1) := by decide +kernel
theorem dX11_compareTo_23 : decode cX11_compareTo 23 = .ok (.i2l, 1) := by decide +kernel
theorem dX11_compareTo_24 : decode cX11_compareTo 24 = .ok (.ldc2_w 123, 3) := by decide +kernel
theorem dX11_compareTo_27 : decode cX11_compareTo 27 = .ok (.land, 1) := by decide +kernel
theorem dX11_compareTo_28 : decode cX11_compareTo 28 = .ok (.aload_n 1, 1) := by decide +kernel
theorem dX11_compareTo_29 : decode cX11_compareTo 29 = .ok (.iload_n 3, 1) := by decide +kernel
theorem dX11_compareTo_30 : decode cX11_compareTo 30 = .ok (.iaload, 1) := by decide +kernel
theorem dX11_compareTo_31 : decode cX11_compareTo 31 = .ok (.i2l, 1) := by decide +kernel
theorem dX11_compareTo_32 : decode cX11_compareTo 32 = .ok (.ldc2_w 123, 3) := by decide +kernel
theorem dX11_compareTo_35 : decode cX11_compareTo 35 = .ok (.land, 1) := by decide +kernel
theorem dX11_compareTo_36 : decode cX11_compareTo 36 = .ok (.lsub, 1) := by decide +kernel
theorem dX11_compareTo_37 : decode cX11_compareTo 37 = .ok (.lstore 4, 2) := by decide +kernel
theorem dX11_compareTo_39 : decode cX11_compareTo 39 = .ok (.lload 4, 2) := by decide +kernel
theorem dX11_compareTo_41 : decode cX11_compareTo 41 = .ok (.lconst 0, 1) := by decide +kernel
theorem dX11_compareTo_42 : decode cX11_compareTo 42 = .ok (.lcmp, 1) := by decide +kernel
theorem dX11_compareTo_43 : decode cX11_compareTo 43 = .ok (.ifCond .ge 7, 3) := by decide +kernel
theorem dX11_compareTo_46 : decode cX11_compareTo 46 = .ok (.iconst (-1), 1) := by decide +kernel
theorem dX11_compareTo_47 : decode cX11_compareTo 47 = .ok (.goto 15, 3) := by decide +kernel
theorem dX11_compareTo_50 : decode cX11_compareTo 50 = .ok (.lload 4, 2) := by decide +kernel
theorem dX11_compareTo_52 : decode cX11_compareTo 52 = .ok (.lconst 0, 1) := by decide +kernel
theorem dX11_compareTo_53 : decode cX11_compareTo 53 = .ok (.lcmp, 1) := by decide +kernel
theorem dX11_compareTo_54 : decode cX11_compareTo 54 = .ok (.ifCond .ne 7, 3) := by decide +kernel
theorem dX11_compareTo_57 : decode cX11_compareTo 57 = .ok (.iconst 0, 1) := by decide +kernel
theorem dX11_compareTo_58 : decode cX11_compareTo 58 = .ok (.goto 4, 3) := by decide +kernel
theorem dX11_compareTo_61 : decode cX11_compareTo 61 = .ok (.iconst 1, 1) := by decide +kernel
theorem dX11_compareTo_62 : decode cX11_compareTo 62 = .ok (.istore_n 2, 1) := by decide +kernel
theorem dX11_compareTo_63 : decode cX11_compareTo 63 = .ok (.iinc 3 (-1), 3) := by decide +kernel
theorem dX11_compareTo_66 : decode cX11_compareTo 66 = .ok (.goto (-54), 3) := by decide +kernel
theorem dX11_compareTo_69 : decode cX11_compareTo 69 = .ok (.iload_n 2, 1) := by decide +kernel
theorem dX11_compareTo_70 : decode cX11_compareTo 70 = .ok (.ireturn, 1) := by decide +kernel
theorem dX11_trim_0 : decode cX11_trim 0 = .ok (.iload_n 1, 1) := by decide +kernel
theorem dX11_trim_1 : decode cX11_trim 1 = .ok (.istore_n 2, 1) := by decide +kernel
theorem dX11_trim_2 : decode cX11_trim 2 = .ok (.iload_n 2, 1) := by decide +kernel
theorem dX11_trim_3 : decode cX11_trim 3 = .ok (.ifCond .le 15, 3) := by decide +kernel
theorem dX11_trim_6 : decode cX11_trim 6 = .ok (.aload_n 0, 1) := by decide +kernel
theorem dX11_trim_7 : decode cX11_trim 7 = .ok (.iload_n 2, 1) := by decide +kernel
theorem dX11_trim_8 : decode cX11_trim 8 = .ok (.iaload, 1) := by decide +kernel
theorem dX11_trim_9 : decode cX11_trim 9 = .ok (.ifCond .ne 9, 3) := by decide +kernel
theorem dX11_trim_12 : decode cX11_trim 12 = .ok (.iinc 2 (-1), 3) := by decide +kernel
theorem dX11_trim_15 : decode cX11_trim 15 = .ok (.goto (-13), 3) := by decide +kernel
theorem dX11_trim_18 : decode cX11_trim 18 = .ok (.aload_n 0, 1) := by decide +kernel
theorem dX11_trim_19 : decode cX11_trim 19 = .ok (.iconst 0, 1) := by decide +kernel
theorem dX11_trim_20 : decode cX11_trim 20 = .ok (.iload_n 2, 1) := by decide +kernel
theorem dX11_trim_21 : decode cX11_trim 21 = .ok (.iastore, 1) := by decide +kernel
theorem dX11_trim_22 : decode cX11_trim 22 = .ok (.return_, 1) := by decide +kernel
theorem dX11_times_0 : decode cX11_times 0 = .ok (.aload_n 0, 1) := by decide +kernel
theorem dX11_times_1 : decode cX11_times 1 = .ok (.iconst 0, 1) := by decide +kernel
theorem dX11_times_2 : decode cX11_times 2 = .ok (.iaload, 1) := by decide +kernel
theorem dX11_times_3 : decode cX11_times 3 = .ok (.aload_n 1, 1) := by decide +kernel
theorem dX11_times_4 : decode cX11_times 4 = .ok (.iconst 0, 1) := by decide +kernel
theorem dX11_times_5 : decode cX11_times 5 = .ok (.iaload, 1) := by decide +kernel
theorem dX11_times_6 : decode cX11_times 6 = .ok (.iadd, 1) := by decide +kernel
theorem dX11_times_7 : decode cX11_times 7 = .ok (.istore_n 3, 1) := by decide +kernel
theorem dX11_times_8 : decode cX11_times 8 = .ok (.iconst 1, 1) := by decide +kernel
theorem dX11_times_9 : decode cX11_times 9 = .ok (.istore 4, 2) := by decide +kernel
theorem dX11_times_11 : decode cX11_times 11 = .ok (.iload 4, 2) := by decide +kernel
theorem dX11_times_13 : decode cX11_times 13 = .ok (.iload_n 3, 1) := by decide +kernel
theorem dX11_times_14 : decode cX11_times 14 = .ok (.if_icmp .gt 14, 3) := by decide +kernel
theorem dX11_times_17 : decode cX11_times 17 = .ok (.aload_n 2, 1) := by decide +kernel
theorem dX11_times_18 : decode cX11_times 18 = .ok (.iload 4, 2) := by decide +kernel
theorem dX11_times_20 : decode cX11_times 20 = .ok (.iconst 0, 1) := by decide +kernel
theorem dX11_times_21 : decode cX11_times 21 = .ok (.iastore, 1) := by decide +kernel
theorem dX11_times_22 : decode cX11_times 22 = .ok (.iinc 4 1, 3) := by decide +kernel
theorem dX11_times_25 : decode cX11_times 25 = .ok (.goto (-14), 3) := by decide +kernel
theorem dX11_times_28 : decode cX11_times 28 = .ok (.iconst 1, 1) := by decide +kernel
theorem dX11_times_29 : decode cX11_times 29 = .ok (.istore 4, 2) := by decide +kernel
theorem dX11_times_31 : decode cX11_times 31 = .ok (.iload 4, 2) := by decide +kernel
theorem dX11_times_33 : decode cX11_times 33 = .ok (.aload_n 0, 1) := by decide +kernel
theorem dX11_times_34 : decode cX11_times 34 = .ok (.iconst 0, 1) := by decide +kernel
theorem dX11_times_35 : decode cX11_times 35 = .ok (.iaload, 1) := by decide +kernel
theorem dX11_times_36 : decode cX11_times 36 = .ok (.if_icmp .gt 98, 3) := by decide +kernel
theorem dX11_times_39 : decode cX11_times 39 = .ok (.lconst 0, 1) := by decide +kernel
theorem dX11_times_40 : decode cX11_times 40 = .ok (.lstore 5, 2) := by decide +kernel
theorem dX11_times_42 : decode cX11_times 42 = .ok (.iconst 1, 1) := by decide +kernel
theorem dX11_times_43 : decode cX11_times 43 = .ok (.istore 7, 2) := by decide +kernel
theorem dX11_times_45 : decode cX11_times 45 = .ok (.iload 7, 2) := by decide +kernel
theorem dX11_times_47 : decode cX11_times 47 = .ok (.aload_n 1, 1) := by decide +kernel
theorem dX11_times_48 : decode cX11_times 48 = .ok (.iconst 0, 1) := by decide +kernel
theorem dX11_times_49 : decode cX11_times 49 = .ok (.iaload, 1) := by decide +kernel
theorem dX11_times_50 : decode cX11_times 50 = .ok (.if_icmp .gt 67, 3) := by decide +kernel
theorem dX11_times_53 : decode cX11_times 53 = .ok (.aload_n 0, 1) := by decide +kernel
theorem dX11_times_54 : decode cX11_times 54 = .ok (.iload 4, 2) := by decide +kernel
theorem dX11_times_56 : decode cX11_times 56 = .ok (.iaload, 1) := by decide +kernel
theorem dX11_times_57 : decode cX11_times 57 = .ok (.i2l, 1) := by decide +kernel
theorem dX11_times_58 : decode cX11_times 58 = .ok (.ldc2_w 123, 3) := by decide +kernel
theorem dX11_times_61 : decode cX11_times 61 = .ok (.land, 1) := by decide +kernel
theorem dX11_times_62 : decode cX11_times 62 = .ok (.aload_n 1, 1) := by decide +kernel
theorem dX11_times_63 : decode cX11_times 63 = .ok (.iload 7, 2) := by decide +kernel
theorem dX11_times_65 : decode cX11_times 65 = .ok (.iaload, 1) := by decide +kernel
theorem dX11_times_66 : decode cX11_times 66 = .ok (.i2l, 1) := by decide +kernel
theorem dX11_times_67 : decode cX11_times 67 = .ok (.ldc2_w 123, 3) := by decide +kernel
theorem dX11_times_70 : decode cX11_times 70 = .ok (.land, 1) := by decide +kernel
theorem dX11_times_71 : decode cX11_times 71 = .ok (.lmul, 1) := by decide +kernel
theorem dX11_times_72 : decode cX11_times 72 = .ok (.aload_n 2, 1) := by decide +kernel
theorem dX11_times_73 : decode cX11_times 73 = .ok (.iload 4, 2) := by decide +kernel
theorem dX11_times_75 : decode cX11_times 75 = .ok (.iload 7, 2) := by decide +kernel
theorem dX11_times_77 : decode cX11_times 77 = .ok (.iadd, 1) := by decide +kernel
theorem dX11_times_78 : decode cX11_times 78 = .ok (.iconst 1, 1) := by decide +kernel
theorem dX11_times_79 : decode cX11_times 79 = .ok (.isub, 1) := by decide +kernel
theorem dX11_times_80 : decode cX11_times 80 = .ok (.iaload, 1) := by decide +kernel
theorem dX11_times_81 : decode cX11_times 81 = .ok (.i2l, 1) := by decide +kernel
theorem dX11_times_82 : decode cX11_times 82 = .ok (.ldc2_w 123, 3) := by decide +kernel
theorem dX11_times_85 : decode cX11_times 85 = .ok (.land, 1) := by decide +kernel
theorem dX11_times_86 : decode cX11_times 86 = .ok (.ladd, 1) := by decide +kernel
theorem dX11_times_87 : decode cX11_times 87 = .ok (.lload 5, 2) := by decide +kernel
theorem dX11_times_89 : decode cX11_times 89 = .ok (.ladd, 1) := by decide +kernel
theorem dX11_times_90 : decode cX11_times 90 = .ok (.lstore 8, 2) := by decide +kernel
theorem dX11_times_92 : decode cX11_times 92 = .ok (.aload_n 2, 1) := by decide +kernel
theorem dX11_times_93 : decode cX11_times 93 = .ok (.iload 4, 2) := by decide +kernel
theorem dX11_times_95 : decode cX11_times 95 = .ok (.iload 7, 2) := by decide +kernel
theorem dX11_times_97 : decode cX11_times 97 = .ok (.iadd, 1) := by decide +kernel
theorem dX11_times_98 : decode cX11_times 98 = .ok (.iconst 1, 1) := by decide +kernel
theorem dX11_times_99 : decode cX11_times 99 = .ok (.isub, 1) := by decide +kernel
theorem dX11_times_100 : decode cX11_times 100 = .ok (.lload 8, 2) := by decide +kernel
theorem dX11_times_102 : decode cX11_times 102 = .ok (.l2i, 1) := by decide +kernel
theorem dX11_times_103 : decode cX11_times 103 = .ok (.iastore, 1) := by decide +kernel
theorem dX11_times_104 : decode cX11_times 104 = .ok (.lload 8, 2) := by decide +kernel
theorem dX11_times_106 : decode cX11_times 106 = .ok (.bipush 32, 2) := by decide +kernel
theorem dX11_times_108 : decode cX11_times 108 = .ok (.lushr, 1) := by decide +kernel
theorem dX11_times_109 : decode cX11_times 109 = .ok (.lstore 5, 2) := by decide +kernel
theorem dX11_times_111 : decode cX11_times 111 = .ok (.iinc 7 1, 3) := by decide +kernel
theorem dX11_times_114 : decode cX11_times 114 = .ok (.goto (-69), 3) := by decide +kernel
theorem dX11_times_117 : decode cX11_times 117 = .ok (.aload_n 2, 1) := by decide +kernel
theorem dX11_times_118 : decode cX11_times 118 = .ok (.iload 4, 2) := by decide +kernel
theorem dX11_times_120 : decode cX11_times 120 = .ok (.aload_n 1, 1) := by decide +kernel
theorem dX11_times_121 : decode cX11_times 121 = .ok (.iconst 0, 1) := by decide +kernel
theorem dX11_times_122 : decode cX11_times 122 = .ok (.iaload, 1) := by decide +kernel
theorem dX11_times_123 : decode cX11_times 123 = .ok (.iadd, 1) := by decide +kernel
theorem dX11_times_124 : decode cX11_times 124 = .ok (.lload 5, 2) := by decide +kernel
theorem dX11_times_126 : decode cX11_times 126 = .ok (.l2i, 1) := by decide +kernel
theorem dX11_times_127 : decode cX11_times 127 = .ok (.iastore, 1) := by decide +kernel
theorem dX11_times_128 : decode cX11_times 128 = .ok (.iinc 4 1, 3) := by decide +kernel
theorem dX11_times_131 : decode cX11_times 131 = .ok (.goto (-100), 3) := by decide +kernel
theorem dX11_times_134 : decode cX11_times 134 = .ok (.aload_n 2, 1) := by decide +kernel
theorem dX11_times_135 : decode cX11_times 135 = .ok (.iload_n 3, 1) := by decide +kernel
theorem dX11_times_136 : decode cX11_times 136 = .ok (.invokestatic 125, 3) := by decide +kernel
theorem dX11_times_139 : decode cX11_times 139 = .ok (.return_, 1) := by decide +kernel
theorem dX11_plus_0 : decode cX11_plus 0 = .ok (.aload_n 0, 1) := by decide +kernel
theorem dX11_plus_1 : decode cX11_plus 1 = .ok (.iconst 0, 1) := by decide +kernel
theorem dX11_plus_2 : decode cX11_plus 2 = .ok (.iaload, 1) := by decide +kernel
theorem dX11_plus_3 : decode cX11_plus 3 = .ok (.aload_n 1, 1) := by decide +kernel
theorem dX11_plus_4 : decode cX11_plus 4 = .ok (.iconst 0, 1) := by decide +kernel
theorem dX11_plus_5 : decode cX11_plus 5 = .ok (.iaload, 1) := by decide +kernel
theorem dX11_plus_6 : decode cX11_plus 6 = .ok (.if_icmp .le 9, 3) := by decide +kernel
theorem dX11_plus_9 : decode cX11_plus 9 = .ok (.aload_n 0, 1) := by decide +kernel
theorem dX11_plus_10 : decode cX11_plus 10 = .ok (.iconst 0, 1) := by decide +kernel
theorem dX11_plus_11 : decode cX11_plus 11 = .ok (.iaload, 1) := by decide +kernel
theorem dX11_plus_12 : decode cX11_plus 12 = .ok (.goto 6, 3) := by decide +kernel
theorem dX11_plus_15 : decode cX11_plus 15 = .ok (.aload_n 1, 1) := by decide +kernel
theorem dX11_plus_16 : decode cX11_plus 16 = .ok (.iconst 0, 1) := by decide +kernel
theorem dX11_plus_17 : decode cX11_plus 17 = .ok (.iaload, 1) := by decide +kernel
theorem dX11_plus_18 : decode cX11_plus 18 = .ok (.istore_n 2, 1) := by decide +kernel
theorem dX11_plus_19 : decode cX11_plus 19 = .ok (.lconst 0, 1) := by decide +kernel
theorem dX11_plus_20 : decode cX11_plus 20 = .ok (.lstore_n 3, 1) := by decide +kernel
theorem dX11_plus_21 : decode cX11_plus 21 = .ok (.iconst 1, 1) := by decide +kernel
theorem dX11_plus_22 : decode cX11_plus 22 = .ok (.istore 5, 2) := by decide +kernel
theorem dX11_plus_24 : decode cX11_plus 24 = .ok (.iload 5, 2) := by decide +kernel
theorem dX11_plus_26 : decode cX11_plus 26 = .ok (.iload_n 2, 1) := by decide +kernel
theorem dX11_plus_27 : decode cX11_plus 27 = .ok (.if_icmp .gt 66, 3) := by decide +kernel
theorem dX11_plus_30 : decode cX11_plus 30 = .ok (.lload_n 3, 1) := by decide +kernel
theorem dX11_plus_31 : decode cX11_plus 31 = .ok (.iload 5, 2) := by decide +kernel
theorem dX11_plus_33 : decode cX11_plus 33 = .ok (.aload_n 0, 1) := by decide +kernel
theorem dX11_plus_34 : decode cX11_plus 34 = .ok (.iconst 0, 1) := by decide +kernel
theorem dX11_plus_35 : decode cX11_plus 35 = .ok (.iaload, 1) := by decide +kernel
theorem dX11_plus_36 : decode cX11_plus 36 = .ok (.if_icmp .gt 15, 3) := by decide +kernel
theorem dX11_plus_39 : decode cX11_plus 39 = .ok (.aload_n 0, 1) := by decide +kernel
theorem dX11_plus_40 : decode cX11_plus 40 = .ok (.iload 5, 2) := by decide +kernel
theorem dX11_plus_42 : decode cX11_plus 42 = .ok (.iaload, 1) := by decide +kernel
theorem dX11_plus_43 : decode cX11_plus 43 = .ok (.i2l, 1) := by decide +kernel
theorem dX11_plus_44 : decode cX11_plus 44 = .ok (.ldc2_w 123, 3) := by decide +kernel
theorem dX11_plus_47 : decode cX11_plus 47 = .ok (.land, 1) := by decide +kernel
theorem dX11_plus_48 : decode cX11_plus 48 = .ok (.goto 4, 3) := by decide +kernel
theorem dX11_plus_51 : decode cX11_plus 51 = .ok (.lconst 0, 1) := by decide +kernel
theorem dX11_plus_52 : decode cX11_plus 52 = .ok (.iload 5, 2) := by decide +kernel
theorem dX11_plus_54 : decode cX11_plus 54 = .ok (.aload_n 1, 1) := by decide +kernel
theorem dX11_plus_55 : decode cX11_plus 55 = .ok (.iconst 0, 1) := by decide +kernel
theorem dX11_plus_56 : decode cX11_plus 56 = .ok (.iaload, 1) := by decide +kernel
theorem dX11_plus_57 : decode cX11_plus 57 = .ok (.if_icmp .gt 15, 3) := by decide +kernel
theorem dX11_plus_60 : decode cX11_plus 60 = .ok (.aload_n 1, 1) := by decide +kernel
theorem dX11_plus_61 : decode cX11_plus 61 = .ok (.iload 5, 2) := by decide +kernel
theorem dX11_plus_63 : decode cX11_plus 63 = .ok (.iaload, 1) := by decide +kernel
theorem dX11_plus_64 : decode cX11_plus 64 = .ok (.i2l, 1) := by decide +kernel
theorem dX11_plus_65 : decode cX11_plus 65 = .ok (.ldc2_w 123, 3) := by decide +kernel
theorem dX11_plus_68 : decode cX11_plus 68 = .ok (.land, 1) := by decide +kernel
theorem dX11_plus_69 : decode cX11_plus 69 = .ok (.goto 4, 3) := by decide +kernel
theorem dX11_plus_72 : decode cX11_plus 72 = .ok (.lconst 0, 1) := by decide +kernel
theorem dX11_plus_73 : decode cX11_plus 73 = .ok (.ladd, 1) := by decide +kernel
theorem dX11_plus_74 : decode cX11_plus 74 = .ok (.ladd, 1) := by decide +kernel
theorem dX11_plus_75 : decode cX11_plus 75 = .ok (.lstore_n 3, 1) := by decide +kernel
theorem dX11_plus_76 : decode cX11_plus 76 = .ok (.aload_n 0, 1) := by decide +kernel
theorem dX11_plus_77 : decode cX11_plus 77 = .ok (.iload 5, 2) := by decide +kernel
theorem dX11_plus_79 : decode cX11_plus 79 = .ok (.lload_n 3, 1) := by decide +kernel
theorem dX11_plus_80 : decode cX11_plus 80 = .ok (.l2i, 1) := by decide +kernel
theorem dX11_plus_81 : decode cX11_plus 81 = .ok (.iastore, 1) := by decide +kernel
theorem dX11_plus_82 : decode cX11_plus 82 = .ok (.lload_n 3, 1) := by decide +kernel
theorem dX11_plus_83 : decode cX11_plus 83 = .ok (.bipush 32, 2) := by decide +kernel
theorem dX11_plus_85 : decode cX11_plus 85 = .ok (.lushr, 1) := by decide +kernel
theorem dX11_plus_86 : decode cX11_plus 86 = .ok (.lstore_n 3, 1) := by decide +kernel
theorem dX11_plus_87 : decode cX11_plus 87 = .ok (.iinc 5 1, 3) := by decide +kernel
theorem dX11_plus_90 : decode cX11_plus 90 = .ok (.goto (-66), 3) := by decide +kernel
theorem dX11_plus_93 : decode cX11_plus 93 = .ok (.aload_n 0, 1) := by decide +kernel
theorem dX11_plus_94 : decode cX11_plus 94 = .ok (.iload_n 2, 1) := by decide +kernel
theorem dX11_plus_95 : decode cX11_plus 95 = .ok (.iconst 1, 1) := by decide +kernel
theorem dX11_plus_96 : decode cX11_plus 96 = .ok (.iadd, 1) := by decide +kernel
theorem dX11_plus_97 : decode cX11_plus 97 = .ok (.lload_n 3, 1) := by decide +kernel
theorem dX11_plus_98 : decode cX11_plus 98 = .ok (.l2i, 1) := by decide +kernel
theorem dX11_plus_99 : decode cX11_plus 99 = .ok (.iastore, 1) := by decide +kernel
theorem dX11_plus_100 : decode cX11_plus 100 = .ok (.aload_n 0, 1) := by decide +kernel
theorem dX11_plus_101 : decode cX11_plus 101 = .ok (.iload_n 2, 1) := by decide +kernel
theorem dX11_plus_102 : decode cX11_plus 102 = .ok (.iconst 1, 1) := by decide +kernel
theorem dX11_plus_103 : decode cX11_plus 103 = .ok (.iadd, 1) := by decide +kernel
theorem dX11_plus_104 : decode cX11_plus 104 = .ok (.invokestatic 125, 3) := by decide +kernel
theorem dX11_plus_107 : decode cX11_plus 107 = .ok (.return_, 1) := by decide +kernel
theorem dX11_less_0 : decode cX11_less 0 = .ok (.lconst 0, 1) := by decide +kernel
theorem dX11_less_1 : decode cX11_less 1 = .ok (.lstore_n 2, 1) := by decide +kernel
theorem dX11_less_2 : decode cX11_less 2 = .ok (.iconst 1, 1) := by decide +kernel
theorem dX11_less_3 : decode cX11_less 3 = .ok (.istore 4, 2) := by decide +kernel
theorem dX11_less_5 : decode cX11_less 5 = .ok (.iload 4, 2) := by decide +kernel
theorem dX11_less_7 : decode cX11_less 7 = .ok (.aload_n 0, 1) := by decide +kernel
theorem dX11_less_8 : decode cX11_less 8 = .ok (.iconst 0, 1) := by decide +kernel
theorem dX11_less_9 : decode cX11_less 9 = .ok (.iaload, 1) := by decide +kernel
theorem dX11_less_10 : decode cX11_less 10 = .ok (.if_icmp .gt 64, 3) := by decide +kernel
theorem dX11_less_13 : decode cX11_less 13 = .ok (.aload_n 0, 1) := by decide +kernel
theorem dX11_less_14 : decode cX11_less 14 = .ok (.iload 4, 2) := by decide +kernel
theorem dX11_less_16 : decode cX11_less 16 = .ok (.iaload, 1) := by decide +kernel
theorem dX11_less_17 : decode cX11_less 17 = .ok (.i2l, 1) := by decide +kernel
theorem dX11_less_18 : decode cX11_less 18 = .ok (.ldc2_w 123, 3) := by decide +kernel
theorem dX11_less_21 : decode cX11_less 21 = .ok (.land, 1) := by decide +kernel
theorem dX11_less_22 : decode cX11_less 22 = .ok (.iload 4, 2) := by decide +kernel
theorem dX11_less_24 : decode cX11_less 24 = .ok (.aload_n 1, 1) := by decide +kernel
theorem dX11_less_25 : decode cX11_less 25 = .ok (.iconst 0, 1) := by decide +kernel
theorem dX11_less_26 : decode cX11_less 26 = .ok (.iaload, 1) := by decide +kernel
theorem dX11_less_27 : decode cX11_less 27 = .ok (.if_icmp .gt 15, 3) := by decide +kernel
theorem dX11_less_30 : decode cX11_less 30 = .ok (.aload_n 1, 1) := by decide +kernel
theorem dX11_less_31 : decode cX11_less 31 = .ok (.iload 4, 2) := by decide +kernel
theorem dX11_less_33 : decode cX11_less 33 = .ok (.iaload, 1) := by decide +kernel
theorem dX11_less_34 : decode cX11_less 34 = .ok (.i2l, 1) := by decide +kernel
theorem dX11_less_35 : decode cX11_less 35 = .ok (.ldc2_w 123, 3) := by decide +kernel
theorem dX11_less_38 : decode cX11_less 38 = .ok (.land, 1) := by decide +kernel
theorem dX11_less_39 : decode cX11_less 39 = .ok (.goto 4, 3) := by decide +kernel
theorem dX11_less_42 : decode cX11_less 42 = .ok (.lconst 0, 1) := by decide +kernel
theorem dX11_less_43 : decode cX11_less 43 = .ok (.lsub, 1) := by decide +kernel
theorem dX11_less_44 : decode cX11_less 44 = .ok (.lload_n 2, 1) := by decide +kernel
theorem dX11_less_45 : decode cX11_less 45 = .ok (.lsub, 1) := by decide +kernel
theorem dX11_less_46 : decode cX11_less 46 = .ok (.lstore 5, 2) := by decide +kernel
theorem dX11_less_48 : decode cX11_less 48 = .ok (.aload_n 0, 1) := by decide +kernel
theorem dX11_less_49 : decode cX11_less 49 = .ok (.iload 4, 2) := by decide +kernel
theorem dX11_less_51 : decode cX11_less 51 = .ok (.lload 5, 2) := by decide +kernel
theorem dX11_less_53 : decode cX11_less 53 = .ok (.l2i, 1) := by decide +kernel
theorem dX11_less_54 : decode cX11_less 54 = .ok (.iastore, 1) := by decide +kernel
theorem dX11_less_55 : decode cX11_less 55 = .ok (.lload 5, 2) := by decide +kernel
theorem dX11_less_57 : decode cX11_less 57 = .ok (.lconst 0, 1) := by decide +kernel
theorem dX11_less_58 : decode cX11_less 58 = .ok (.lcmp, 1) := by decide +kernel
theorem dX11_less_59 : decode cX11_less 59 = .ok (.ifCond .ge 7, 3) := by decide +kernel
theorem dX11_less_62 : decode cX11_less 62 = .ok (.lconst 1, 1) := by decide +kernel
theorem dX11_less_63 : decode cX11_less 63 = .ok (.goto 4, 3) := by decide +kernel
theorem dX11_less_66 : decode cX11_less 66 = .ok (.lconst 0, 1) := by decide +kernel
theorem dX11_less_67 : decode cX11_less 67 = .ok (.lstore_n 2, 1) := by decide +kernel
theorem dX11_less_68 : decode cX11_less 68 = .ok (.iinc 4 1, 3) := by decide +kernel
theorem dX11_less_71 : decode cX11_less 71 = .ok (.goto (-66), 3) := by decide +kernel
theorem dX11_less_74 : decode cX11_less 74 = .ok (.aload_n 0, 1) := by decide +kernel
theorem dX11_less_75 : decode cX11_less 75 = .ok (.aload_n 0, 1) := by decide +kernel
theorem dX11_less_76 : decode cX11_less 76 = .ok (.iconst 0, 1) := by decide +kernel
theorem dX11_less_77 : decode cX11_less 77 = .ok (.iaload, 1) := by decide +kernel
theorem dX11_less_78 : decode cX11_less 78 = .ok (.invokestatic 125, 3) := by decide +kernel
theorem dX11_less_81 : decode cX11_less 81 = .ok (.return_, 1) := by decide +kernel
theorem dX11_halve_0 : decode cX11_halve 0 = .ok (.iconst 1, 1) := by decide +kernel
theorem dX11_halve_1 : decode cX11_halve 1 = .ok (.istore_n 1, 1) := by decide +kernel
theorem dX11_halve_2 : decode cX11_halve 2 = .ok (.iload_n 1, 1) := by decide +kernel
theorem dX11_halve_3 : decode cX11_halve 3 = .ok (.aload_n 0, 1) := by decide +kernel
theorem dX11_halve_4 : decode cX11_halve 4 = .ok (.iconst 0, 1) := by decide +kernel
theorem dX11_halve_5 : decode cX11_halve 5 = .ok (.iaload, 1) := by decide +kernel
theorem dX11_halve_6 : decode cX11_halve 6 = .ok (.if_icmp .gt 37, 3) := by decide +kernel
theorem dX11_halve_9 : decode cX11_halve 9 = .ok (.aload_n 0, 1) := by decide +kernel
theorem dX11_halve_10 : decode cX11_halve 10 = .ok (.iload_n 1, 1) := by decide +kernel
theorem dX11_halve_11 : decode cX11_halve 11 = .ok (.aload_n 0, 1) := by decide +kernel
theorem dX11_halve_12 : decode cX11_halve 12 = .ok (.iload_n 1, 1) := by decide +kernel
theorem dX11_halve_13 : decode cX11_halve 13 = .ok (.iaload, 1) := by decide +kernel
theorem dX11_halve_14 : decode cX11_halve 14 = .ok (.iconst 1, 1) := by decide +kernel
theorem dX11_halve_15 : decode cX11_halve 15 = .ok (.iushr, 1) := by decide +kernel
theorem dX11_halve_16 : decode cX11_halve 16 = .ok (.iload_n 1, 1) := by decide +kernel
theorem dX11_halve_17 : decode cX11_halve 17 = .ok (.aload_n 0, 1) := by decide +kernel
theorem dX11_halve_18 : decode cX11_halve 18 = .ok (.iconst 0, 1) := by decide +kernel
theorem dX11_halve_19 : decode cX11_halve 19 = .ok (.iaload, 1) := by decide +kernel
theorem dX11_halve_20 : decode cX11_halve 20 = .ok (.if_icmp .ge 14, 3) := by decide +kernel
theorem dX11_halve_23 : decode cX11_halve 23 = .ok (.aload_n 0, 1) := by decide +kernel
theorem dX11_halve_24 : decode cX11_halve 24 = .ok (.iload_n 1, 1) := by decide +kernel
theorem dX11_halve_25 : decode cX11_halve 25 = .ok (.iconst 1, 1) := by decide +kernel
theorem dX11_halve_26 : decode cX11_halve 26 = .ok (.iadd, 1) := by decide +kernel
theorem dX11_halve_27 : decode cX11_halve 27 = .ok (.iaload, 1) := by decide +kernel
theorem dX11_halve_28 : decode cX11_halve 28 = .ok (.bipush 31, 2) := by decide +kernel
theorem dX11_halve_30 : decode cX11_halve 30 = .ok (.ishl, 1) := by decide +kernel
theorem dX11_halve_31 : decode cX11_halve 31 = .ok (.goto 4, 3) := by decide +kernel
theorem dX11_halve_34 : decode cX11_halve 34 = .ok (.iconst 0, 1) := by decide +kernel
theorem dX11_halve_35 : decode cX11_halve 35 = .ok (.ior, 1) := by decide +kernel
theorem dX11_halve_36 : decode cX11_halve 36 = .ok (.iastore, 1) := by decide +kernel
theorem dX11_halve_37 : decode cX11_halve 37 = .ok (.iinc 1 1, 3) := by decide +kernel
theorem dX11_halve_40 : decode cX11_halve 40 = .ok (.goto (-38), 3) := by decide +kernel
theorem dX11_halve_43 : decode cX11_halve 43 = .ok (.aload_n 0, 1) := by decide +kernel
theorem dX11_halve_44 : decode cX11_halve 44 = .ok (.aload_n 0, 1) := by decide +kernel
theorem dX11_halve_45 : decode cX11_halve 45 = .ok (.iconst 0, 1) := by decide +kernel
theorem dX11_halve_46 : decode cX11_halve 46 = .ok (.iaload, 1) := by decide +kernel
theorem dX11_halve_47 : decode cX11_halve 47 = .ok (.invokestatic 125, 3) := by decide +kernel
theorem dX11_halve_50 : decode cX11_halve 50 = .ok (.return_, 1) := by decide +kernel
theorem dX11_twice_0 : decode cX11_twice 0 = .ok (.iload_n 1, 1) := by decide +kernel
theorem dX11_twice_1 : decode cX11_twice 1 = .ok (.istore_n 2, 1) := by decide +kernel
theorem dX11_twice_2 : decode cX11_twice 2 = .ok (.iconst 1, 1) := by decide +kernel
theorem dX11_twice_3 : decode cX11_twice 3 = .ok (.istore_n 3, 1) := by decide +kernel
theorem dX11_twice_4 : decode cX11_twice 4 = .ok (.iload_n 3, 1) := by decide +kernel
theorem dX11_twice_5 : decode cX11_twice 5 = .ok (.aload_n 0, 1) := by decide +kernel
theorem dX11_twice_6 : decode cX11_twice 6 = .ok (.iconst 0, 1) := by decide +kernel
theorem dX11_twice_7 : decode cX11_twice 7 = .ok (.iaload, 1) := by decide +kernel
theorem dX11_twice_8 : decode cX11_twice 8 = .ok (.if_icmp .gt 30, 3) := by decide +kernel
theorem dX11_twice_11 : decode cX11_twice 11 = .ok (.aload_n 0, 1) := by decide +kernel
theorem dX11_twice_12 : decode cX11_twice 12 = .ok (.iload_n 3, 1) := by decide +kernel
theorem dX11_twice_13 : decode cX11_twice 13 = .ok (.iaload, 1) := by decide +kernel
theorem dX11_twice_14 : decode cX11_twice 14 = .ok (.bipush 31, 2) := by decide +kernel
theorem dX11_twice_16 : decode cX11_twice 16 = .ok (.iushr, 1) := by decide +kernel
theorem dX11_twice_17 : decode cX11_twice 17 = .ok (.istore 4, 2) := by decide +kernel
theorem dX11_twice_19 : decode cX11_twice 19 = .ok (.aload_n 0, 1) := by decide +kernel
theorem dX11_twice_20 : decode cX11_twice 20 = .ok (.iload_n 3, 1) := by decide +kernel
theorem dX11_twice_21 : decode cX11_twice 21 = .ok (.aload_n 0, 1) := by decide +kernel
theorem dX11_twice_22 : decode cX11_twice 22 = .ok (.iload_n 3, 1) := by decide +kernel
theorem dX11_twice_23 : decode cX11_twice 23 = .ok (.iaload, 1) := by decide +kernel
theorem dX11_twice_24 : decode cX11_twice 24 = .ok (.iconst 1, 1) := by decide +kernel
theorem dX11_twice_25 : decode cX11_twice 25 = .ok (.ishl, 1) := by decide +kernel
theorem dX11_twice_26 : decode cX11_twice 26 = .ok (.iload_n 2, 1) := by decide +kernel
theorem dX11_twice_27 : decode cX11_twice 27 = .ok (.ior, 1) := by decide +kernel
theorem dX11_twice_28 : decode cX11_twice 28 = .ok (.iastore, 1) := by decide +kernel
theorem dX11_twice_29 : decode cX11_twice 29 = .ok (.iload 4, 2) := by decide +kernel
theorem dX11_twice_31 : decode cX11_twice 31 = .ok (.istore_n 2, 1) := by decide +kernel
theorem dX11_twice_32 : decode cX11_twice 32 = .ok (.iinc 3 1, 3) := by decide +kernel
theorem dX11_twice_35 : decode cX11_twice 35 = .ok (.goto (-31), 3) := by decide +kernel
theorem dX11_twice_38 : decode cX11_twice 38 = .ok (.aload_n 0, 1) := by decide +kernel
theorem dX11_twice_39 : decode cX11_twice 39 = .ok (.aload_n 0, 1) := by decide +kernel
theorem dX11_twice_40 : decode cX11_twice 40 = .ok (.iconst 0, 1) := by decide +kernel
theorem dX11_twice_41 : decode cX11_twice 41 = .ok (.iaload, 1) := by decide +kernel
theorem dX11_twice_42 : decode cX11_twice 42 = .ok (.iconst 1, 1) := by decide +kernel
theorem dX11_twice_43 : decode cX11_twice 43 = .ok (.iadd, 1) := by decide +kernel
theorem dX11_twice_44 : decode cX11_twice 44 = .ok (.iload_n 2, 1) := by decide +kernel
theorem dX11_twice_45 : decode cX11_twice 45 = .ok (.iastore, 1) := by decide +kernel
theorem dX11_twice_46 : decode cX11_twice 46 = .ok (.aload_n 0, 1) := by decide +kernel
theorem dX11_twice_47 : decode cX11_twice 47 = .ok (.aload_n 0, 1) := by decide +kernel
theorem dX11_twice_48 : decode cX11_twice 48 = .ok (.iconst 0, 1) := by decide +kernel
theorem dX11_twice_49 : decode cX11_twice 49 = .ok (.iaload, 1) := by decide +kernel
theorem dX11_twice_50 : decode cX11_twice 50 = .ok (.iconst 1, 1) := by decide +kernel
theorem dX11_twice_51 : decode cX11_twice 51 = .ok (.iadd, 1) := by decide +kernel
theorem dX11_twice_52 : decode cX11_twice 52 = .ok (.invokestatic 125, 3) := by decide +kernel
theorem dX11_twice_55 : decode cX11_twice 55 = .ok (.return_, 1) := by decide +kernel
theorem dX11_isEven_0 : decode cX11_isEven 0 = .ok (.aload_n 0, 1) := by decide +kernel
theorem dX11_isEven_1 : decode cX11_isEven 1 = .ok (.iconst 1, 1) := by decide +kernel
theorem dX11_isEven_2 : decode cX11_isEven 2 = .ok (.iaload, 1) := by decide +kernel
theorem dX11_isEven_3 : decode cX11_isEven 3 = .ok (.iconst 1, 1) := by decide +kernel
theorem dX11_isEven_4 : decode cX11_isEven 4 = .ok (.iand, 1) := by decide +kernel
theorem dX11_isEven_5 : decode cX11_isEven 5 = .ok (.ifCond .ne 7, 3) := by decide +kernel
theorem dX11_isEven_8 : decode cX11_isEven 8 = .ok (.iconst 1, 1) := by decide +kernel
theorem dX11_isEven_9 : decode cX11_isEven 9 = .ok (.goto 4, 3) := by decide +kernel
theorem dX11_isEven_12 : decode cX11_isEven 12 = .ok (.iconst 0, 1) := by decide +kernel
theorem dX11_isEven_13 : decode cX11_isEven 13 = .ok (.ireturn, 1) := by decide +kernel
theorem dX11_common_0 : decode cX11_common 0 = .ok (.aload_n 1, 1) := by decide +kernel
theorem dX11_common_1 : decode cX11_common 1 = .ok (.aload_n 0, 1) := by decide +kernel
theorem dX11_common_2 : decode cX11_common 2 = .ok (.getfield 23, 3) := by decide +kernel
theorem dX11_common_5 : decode cX11_common 5 = .ok (.invokestatic 129, 3) := by decide +kernel
theorem dX11_common_8 : decode cX11_common 8 = .ok (.aload_n 2, 1) := by decide +kernel
theorem dX11_common_9 : decode cX11_common 9 = .ok (.aload_n 0, 1) := by decide +kernel
theorem dX11_common_10 : decode cX11_common 10 = .ok (.getfield 26, 3) := by decide +kernel
theorem dX11_common_13 : decode cX11_common 13 = .ok (.invokestatic 129, 3) := by decide +kernel
theorem dX11_common_16 : decode cX11_common 16 = .ok (.iconst 0, 1) := by decide +kernel
theorem dX11_common_17 : decode cX11_common 17 = .ok (.istore_n 3, 1) := by decide +kernel
theorem dX11_common_18 : decode cX11_common 18 = .ok (.aload_n 0, 1) := by decide +kernel
theorem dX11_common_19 : decode cX11_common 19 = .ok (.getfield 23, 3) := by decide +kernel
theorem dX11_common_22 : decode cX11_common 22 = .ok (.invokestatic 133, 3) := by decide +kernel
theorem dX11_common_25 : decode cX11_common 25 = .ok (.ifCond .eq 33, 3) := by decide +kernel
theorem dX11_common_28 : decode cX11_common 28 = .ok (.aload_n 0, 1) := by decide +kernel
theorem dX11_common_29 : decode cX11_common 29 = .ok (.getfield 26, 3) := by decide +kernel
theorem dX11_common_32 : decode cX11_common 32 = .ok (.invokestatic 133, 3) := by decide +kernel
theorem dX11_common_35 : decode cX11_common 35 = .ok (.ifCond .eq 23, 3) := by decide +kernel
theorem dX11_common_38 : decode cX11_common 38 = .ok (.aload_n 0, 1) := by decide +kernel
theorem dX11_common_39 : decode cX11_common 39 = .ok (.getfield 23, 3) := by decide +kernel
theorem dX11_common_42 : decode cX11_common 42 = .ok (.invokestatic 137, 3) := by decide +kernel
theorem dX11_common_45 : decode cX11_common 45 = .ok (.aload_n 0, 1) := by decide +kernel
theorem dX11_common_46 : decode cX11_common 46 = .ok (.getfield 26, 3) := by decide +kernel
theorem dX11_common_49 : decode cX11_common 49 = .ok (.invokestatic 137, 3) := by decide +kernel
theorem dX11_common_52 : decode cX11_common 52 = .ok (.iinc 3 1, 3) := by decide +kernel
theorem dX11_common_55 : decode cX11_common 55 = .ok (.goto (-37), 3) := by decide +kernel
theorem dX11_common_58 : decode cX11_common 58 = .ok (.aload_n 0, 1) := by decide +kernel
theorem dX11_common_59 : decode cX11_common 59 = .ok (.getfield 26, 3) := by decide +kernel
theorem dX11_common_62 : decode cX11_common 62 = .ok (.iconst 0, 1) := by decide +kernel
theorem dX11_common_63 : decode cX11_common 63 = .ok (.iaload, 1) := by decide +kernel
theorem dX11_common_64 : decode cX11_common 64 = .ok (.ifCond .le 104, 3) := by decide +kernel
theorem dX11_common_67 : decode cX11_common 67 = .ok (.aload_n 0, 1) := by decide +kernel
theorem dX11_common_68 : decode cX11_common 68 = .ok (.getfield 23, 3) := by decide +kernel
theorem dX11_common_71 : decode cX11_common 71 = .ok (.invokestatic 133, 3) := by decide +kernel
theorem dX11_common_74 : decode cX11_common 74 = .ok (.ifCond .eq 13, 3) := by decide +kernel
theorem dX11_common_77 : decode cX11_common 77 = .ok (.aload_n 0, 1) := by decide +kernel
theorem dX11_common_78 : decode cX11_common 78 = .ok (.getfield 23, 3) := by decide +kernel
theorem dX11_common_81 : decode cX11_common 81 = .ok (.invokestatic 137, 3) := by decide +kernel
theorem dX11_common_84 : decode cX11_common 84 = .ok (.goto (-17), 3) := by decide +kernel
theorem dX11_common_87 : decode cX11_common 87 = .ok (.aload_n 0, 1) := by decide +kernel
theorem dX11_common_88 : decode cX11_common 88 = .ok (.getfield 26, 3) := by decide +kernel
theorem dX11_common_91 : decode cX11_common 91 = .ok (.invokestatic 133, 3) := by decide +kernel
theorem dX11_common_94 : decode cX11_common 94 = .ok (.ifCond .eq 13, 3) := by decide +kernel
theorem dX11_common_97 : decode cX11_common 97 = .ok (.aload_n 0, 1) := by decide +kernel
theorem dX11_common_98 : decode cX11_common 98 = .ok (.getfield 26, 3) := by decide +kernel
theorem dX11_common_101 : decode cX11_common 101 = .ok (.invokestatic 137, 3) := by decide +kernel
theorem dX11_common_104 : decode cX11_common 104 = .ok (.goto (-17), 3) := by decide +kernel
theorem dX11_common_107 : decode cX11_common 107 = .ok (.aload_n 0, 1) := by decide +kernel
theorem dX11_common_108 : decode cX11_common 108 = .ok (.getfield 23, 3) := by decide +kernel
theorem dX11_common_111 : decode cX11_common 111 = .ok (.aload_n 0, 1) := by decide +kernel
theorem dX11_common_112 : decode cX11_common 112 = .ok (.getfield 26, 3) := by decide +kernel
theorem dX11_common_115 : decode cX11_common 115 = .ok (.invokestatic 141, 3) := by decide +kernel
theorem dX11_common_118 : decode cX11_common 118 = .ok (.ifCond .le 36, 3) := by decide +kernel
theorem dX11_common_121 : decode cX11_common 121 = .ok (.aload_n 0, 1) := by decide +kernel
theorem dX11_common_122 : decode cX11_common 122 = .ok (.getfield 23, 3) := by decide +kernel
theorem dX11_common_125 : decode cX11_common 125 = .ok (.aload_n 0, 1) := by decide +kernel
theorem dX11_common_126 : decode cX11_common 126 = .ok (.getfield 29, 3) := by decide +kernel
theorem dX11_common_129 : decode cX11_common 129 = .ok (.invokestatic 129, 3) := by decide +kernel
theorem dX11_common_132 : decode cX11_common 132 = .ok (.aload_n 0, 1) := by decide +kernel
theorem dX11_common_133 : decode cX11_common 133 = .ok (.getfield 26, 3) := by decide +kernel
theorem dX11_common_136 : decode cX11_common 136 = .ok (.aload_n 0, 1) := by decide +kernel
theorem dX11_common_137 : decode cX11_common 137 = .ok (.getfield 23, 3) := by decide +kernel
theorem dX11_common_140 : decode cX11_common 140 = .ok (.invokestatic 129, 3) := by decide +kernel
theorem dX11_common_143 : decode cX11_common 143 = .ok (.aload_n 0, 1) := by decide +kernel
theorem dX11_common_144 : decode cX11_common 144 = .ok (.getfield 29, 3) := by decide +kernel
theorem dX11_common_147 : decode cX11_common 147 = .ok (.aload_n 0, 1) := by decide +kernel
theorem dX11_common_148 : decode cX11_common 148 = .ok (.getfield 26, 3) := by decide +kernel
theorem dX11_common_151 : decode cX11_common 151 = .ok (.invokestatic 129, 3) := by decide +kernel
theorem dX11_common_154 : decode cX11_common 154 = .ok (.aload_n 0, 1) := by decide +kernel
theorem dX11_common_155 : decode cX11_common 155 = .ok (.getfield 26, 3) := by decide +kernel
theorem dX11_common_158 : decode cX11_common 158 = .ok (.aload_n 0, 1) := by decide +kernel
theorem dX11_common_159 : decode cX11_common 159 = .ok (.getfield 23, 3) := by decide +kernel
theorem dX11_common_162 : decode cX11_common 162 = .ok (.invokestatic 145, 3) := by decide +kernel
theorem dX11_common_165 : decode cX11_common 165 = .ok (.goto (-107), 3) := by decide +kernel
theorem dX11_common_168 : decode cX11_common 168 = .ok (.iconst 0, 1) := by decide +kernel
theorem dX11_common_169 : decode cX11_common 169 = .ok (.istore 4, 2) := by decide +kernel
theorem dX11_common_171 : decode cX11_common 171 = .ok (.iload 4, 2) := by decide +kernel
theorem dX11_common_173 : decode cX11_common 173 = .ok (.iload_n 3, 1) := by decide +kernel
theorem dX11_common_174 : decode cX11_common 174 = .ok (.if_icmp .ge 17, 3) := by decide +kernel
theorem dX11_common_177 : decode cX11_common 177 = .ok (.aload_n 0, 1) := by decide +kernel
theorem dX11_common_178 : decode cX11_common 178 = .ok (.getfield 23, 3) := by decide +kernel
theorem dX11_common_181 : decode cX11_common 181 = .ok (.iconst 0, 1) := by decide +kernel
theorem dX11_common_182 : decode cX11_common 182 = .ok (.invokestatic 148, 3) := by decide +kernel
theorem dX11_common_185 : decode cX11_common 185 = .ok (.iinc 4 1, 3) := by decide +kernel
theorem dX11_common_188 : decode cX11_common 188 = .ok (.goto (-17), 3) := by decide +kernel
theorem dX11_common_191 : decode cX11_common 191 = .ok (.return_, 1) := by decide +kernel
theorem dX11_divide_0 : decode cX11_divide 0 = .ok (.aload_n 0, 1) := by decide +kernel
theorem dX11_divide_1 : decode cX11_divide 1 = .ok (.getfield 29, 3) := by decide +kernel
theorem dX11_divide_4 : decode cX11_divide 4 = .ok (.iconst 0, 1) := by decide +kernel
theorem dX11_divide_5 : decode cX11_divide 5 = .ok (.iconst 0, 1) := by decide +kernel
theorem dX11_divide_6 : decode cX11_divide 6 = .ok (.iastore, 1) := by decide +kernel
theorem dX11_divide_7 : decode cX11_divide 7 = .ok (.aload_n 1, 1) := by decide +kernel
theorem dX11_divide_8 : decode cX11_divide 8 = .ok (.iconst 0, 1) := by decide +kernel
theorem dX11_divide_9 : decode cX11_divide 9 = .ok (.iaload, 1) := by decide +kernel
theorem dX11_divide_10 : decode cX11_divide 10 = .ok (.istore_n 2, 1) := by decide +kernel
theorem dX11_divide_11 : decode cX11_divide 11 = .ok (.iload_n 2, 1) := by decide +kernel
theorem dX11_divide_12 : decode cX11_divide 12 = .ok (.istore_n 3, 1) := by decide +kernel
theorem dX11_divide_13 : decode cX11_divide 13 = .ok (.iload_n 3, 1) := by decide +kernel
theorem dX11_divide_14 : decode cX11_divide 14 = .ok (.ifCond .le 85, 3) := by decide +kernel
theorem dX11_divide_17 : decode cX11_divide 17 = .ok (.aload_n 1, 1) := by decide +kernel
theorem dX11_divide_18 : decode cX11_divide 18 = .ok (.iload_n 3, 1) := by decide +kernel
theorem dX11_divide_19 : decode cX11_divide 19 = .ok (.iaload, 1) := by decide +kernel
theorem dX11_divide_20 : decode cX11_divide 20 = .ok (.istore 4, 2) := by decide +kernel
theorem dX11_divide_22 : decode cX11_divide 22 = .ok (.iconst 0, 1) := by decide +kernel
theorem dX11_divide_23 : decode cX11_divide 23 = .ok (.istore 5, 2) := by decide +kernel
theorem dX11_divide_25 : decode cX11_divide 25 = .ok (.bipush 31, 2) := by decide +kernel
theorem dX11_divide_27 : decode cX11_divide 27 = .ok (.istore 6, 2) := by decide +kernel
theorem dX11_divide_29 : decode cX11_divide 29 = .ok (.iload 6, 2) := by decide +kernel
theorem dX11_divide_31 : decode cX11_divide 31 = .ok (.ifCond .lt 57, 3) := by decide +kernel
theorem dX11_divide_34 : decode cX11_divide 34 = .ok (.aload_n 0, 1) := by decide +kernel
theorem dX11_divide_35 : decode cX11_divide 35 = .ok (.getfield 29, 3) := by decide +kernel
theorem dX11_divide_38 : decode cX11_divide 38 = .ok (.iload 4, 2) := by decide +kernel
theorem dX11_divide_40 : decode cX11_divide 40 = .ok (.iload 6, 2) := by decide +kernel
theorem dX11_divide_42 : decode cX11_divide 42 = .ok (.iushr, 1) := by decide +kernel
theorem dX11_divide_43 : decode cX11_divide 43 = .ok (.iconst 1, 1) := by decide +kernel
theorem dX11_divide_44 : decode cX11_divide 44 = .ok (.iand, 1) := by decide +kernel
theorem dX11_divide_45 : decode cX11_divide 45 = .ok (.invokestatic 148, 3) := by decide +kernel
theorem dX11_divide_48 : decode cX11_divide 48 = .ok (.aload_n 0, 1) := by decide +kernel
theorem dX11_divide_49 : decode cX11_divide 49 = .ok (.getfield 29, 3) := by decide +kernel
theorem dX11_divide_52 : decode cX11_divide 52 = .ok (.aload_n 0, 1) := by decide +kernel
theorem dX11_divide_53 : decode cX11_divide 53 = .ok (.getfield 23, 3) := by decide +kernel
theorem dX11_divide_56 : decode cX11_divide 56 = .ok (.invokestatic 141, 3) := by decide +kernel
theorem dX11_divide_59 : decode cX11_divide 59 = .ok (.ifCond .lt 23, 3) := by decide +kernel
theorem dX11_divide_62 : decode cX11_divide 62 = .ok (.aload_n 0, 1) := by decide +kernel
theorem dX11_divide_63 : decode cX11_divide 63 = .ok (.getfield 29, 3) := by decide +kernel
theorem dX11_divide_66 : decode cX11_divide 66 = .ok (.aload_n 0, 1) := by decide +kernel
theorem dX11_divide_67 : decode cX11_divide 67 = .ok (.getfield 23, 3) := by decide +kernel
theorem dX11_divide_70 : decode cX11_divide 70 = .ok (.invokestatic 145, 3) := by decide +kernel
theorem dX11_divide_73 : decode cX11_divide 73 = .ok (.iload 5, 2) := by decide +kernel
theorem dX11_divide_75 : decode cX11_divide 75 = .ok (.iconst 1, 1) := by decide +kernel
theorem dX11_divide_76 : decode cX11_divide 76 = .ok (.iload 6, 2) := by decide +kernel
theorem dX11_divide_78 : decode cX11_divide 78 = .ok (.ishl, 1) := by decide +kernel
theorem dX11_divide_79 : decode cX11_divide 79 = .ok (.ior, 1) := by decide +kernel
theorem dX11_divide_80 : decode cX11_divide 80 = .ok (.istore 5, 2) := by decide +kernel
theorem dX11_divide_82 : decode cX11_divide 82 = .ok (.iinc 6 (-1), 3) := by decide +kernel
theorem dX11_divide_85 : decode cX11_divide 85 = .ok (.goto (-56), 3) := by decide +kernel
theorem dX11_divide_88 : decode cX11_divide 88 = .ok (.aload_n 1, 1) := by decide +kernel
theorem dX11_divide_89 : decode cX11_divide 89 = .ok (.iload_n 3, 1) := by decide +kernel
theorem dX11_divide_90 : decode cX11_divide 90 = .ok (.iload 5, 2) := by decide +kernel
theorem dX11_divide_92 : decode cX11_divide 92 = .ok (.iastore, 1) := by decide +kernel
theorem dX11_divide_93 : decode cX11_divide 93 = .ok (.iinc 3 (-1), 3) := by decide +kernel
theorem dX11_divide_96 : decode cX11_divide 96 = .ok (.goto (-83), 3) := by decide +kernel
theorem dX11_divide_99 : decode cX11_divide 99 = .ok (.aload_n 1, 1) := by decide +kernel
theorem dX11_divide_100 : decode cX11_divide 100 = .ok (.iload_n 2, 1) := by decide +kernel
theorem dX11_divide_101 : decode cX11_divide 101 = .ok (.invokestatic 125, 3) := by decide +kernel
theorem dX11_divide_104 : decode cX11_divide 104 = .ok (.return_, 1) := by decide +kernel
theorem dX11_least_0 : decode cX11_least 0 = .ok (.aload_n 0, 1) := by decide +kernel
theorem dX11_least_1 : decode cX11_least 1 = .ok (.getfield 32, 3) := by decide +kernel
theorem dX11_least_4 : decode cX11_least 4 = .ok (.iconst 0, 1) := by decide +kernel
theorem dX11_least_5 : decode cX11_least 5 = .ok (.iaload, 1) := by decide +kernel
theorem dX11_least_6 : decode cX11_least 6 = .ok (.ifCond .ne 12, 3) := by decide +kernel
theorem dX11_least_9 : decode cX11_least 9 = .ok (.aload_n 0, 1) := by decide +kernel
theorem dX11_least_10 : decode cX11_least 10 = .ok (.getfield 35, 3) := by decide +kernel
theorem dX11_least_13 : decode cX11_least 13 = .ok (.iconst 1, 1) := by decide +kernel
theorem dX11_least_14 : decode cX11_least 14 = .ok (.invokestatic 151, 3) := by decide +kernel
theorem dX11_least_17 : decode cX11_least 17 = .ok (.return_, 1) := by decide +kernel
theorem dX11_least_18 : decode cX11_least 18 = .ok (.aload_n 0, 1) := by decide +kernel
theorem dX11_least_19 : decode cX11_least 19 = .ok (.aload_n 0, 1) := by decide +kernel
theorem dX11_least_20 : decode cX11_least 20 = .ok (.getfield 32, 3) := by decide +kernel
theorem dX11_least_23 : decode cX11_least 23 = .ok (.aload_n 0, 1) := by decide +kernel
theorem dX11_least_24 : decode cX11_least 24 = .ok (.getfield 35, 3) := by decide +kernel
theorem dX11_least_27 : decode cX11_least 27 = .ok (.invokevirtual 154, 3) := by decide +kernel
theorem dX11_least_30 : decode cX11_least 30 = .ok (.aload_n 0, 1) := by decide +kernel
theorem dX11_least_31 : decode cX11_least 31 = .ok (.aload_n 0, 1) := by decide +kernel
theorem dX11_least_32 : decode cX11_least 32 = .ok (.getfield 32, 3) := by decide +kernel
theorem dX11_least_35 : decode cX11_least 35 = .ok (.invokevirtual 157, 3) := by decide +kernel
theorem dX11_least_38 : decode cX11_least 38 = .ok (.aload_n 0, 1) := by decide +kernel
theorem dX11_least_39 : decode cX11_least 39 = .ok (.aload_n 0, 1) := by decide +kernel
theorem dX11_least_40 : decode cX11_least 40 = .ok (.getfield 35, 3) := by decide +kernel
theorem dX11_least_43 : decode cX11_least 43 = .ok (.invokevirtual 157, 3) := by decide +kernel
theorem dX11_least_46 : decode cX11_least 46 = .ok (.return_, 1) := by decide +kernel
theorem dX11_grow_0 : decode cX11_grow 0 = .ok (.lconst 0, 1) := by decide +kernel
theorem dX11_grow_1 : decode cX11_grow 1 = .ok (.lstore_n 3, 1) := by decide +kernel
theorem dX11_grow_2 : decode cX11_grow 2 = .ok (.aload_n 0, 1) := by decide +kernel
theorem dX11_grow_3 : decode cX11_grow 3 = .ok (.iload_n 1, 1) := by decide +kernel
theorem dX11_grow_4 : decode cX11_grow 4 = .ok (.iaload, 1) := by decide +kernel
theorem dX11_grow_5 : decode cX11_grow 5 = .ok (.istore 5, 2) := by decide +kernel
theorem dX11_grow_7 : decode cX11_grow 7 = .ok (.iconst 1, 1) := by decide +kernel
theorem dX11_grow_8 : decode cX11_grow 8 = .ok (.istore 6, 2) := by decide +kernel
theorem dX11_grow_10 : decode cX11_grow 10 = .ok (.iload 6, 2) := by decide +kernel
theorem dX11_grow_12 : decode cX11_grow 12 = .ok (.iload 5, 2) := by decide +kernel
theorem dX11_grow_14 : decode cX11_grow 14 = .ok (.if_icmp .gt 39, 3) := by decide +kernel
theorem dX11_grow_17 : decode cX11_grow 17 = .ok (.lload_n 3, 1) := by decide +kernel
theorem dX11_grow_18 : decode cX11_grow 18 = .ok (.aload_n 0, 1) := by decide +kernel
theorem dX11_grow_19 : decode cX11_grow 19 = .ok (.iload_n 1, 1) := by decide +kernel
theorem dX11_grow_20 : decode cX11_grow 20 = .ok (.iload 6, 2) := by decide +kernel
theorem dX11_grow_22 : decode cX11_grow 22 = .ok (.iadd, 1) := by decide +kernel
theorem dX11_grow_23 : decode cX11_grow 23 = .ok (.iaload, 1) := by decide +kernel
theorem dX11_grow_24 : decode cX11_grow 24 = .ok (.i2l, 1) := by decide +kernel
theorem dX11_grow_25 : decode cX11_grow 25 = .ok (.ldc2_w 123, 3) := by decide +kernel
theorem dX11_grow_28 : decode cX11_grow 28 = .ok (.land, 1) := by decide +kernel
theorem dX11_grow_29 : decode cX11_grow 29 = .ok (.iload_n 2, 1) := by decide +kernel
theorem dX11_grow_30 : decode cX11_grow 30 = .ok (.i2l, 1) := by decide +kernel
theorem dX11_grow_31 : decode cX11_grow 31 = .ok (.lmul, 1) := by decide +kernel
theorem dX11_grow_32 : decode cX11_grow 32 = .ok (.ladd, 1) := by decide +kernel
theorem dX11_grow_33 : decode cX11_grow 33 = .ok (.lstore_n 3, 1) := by decide +kernel
theorem dX11_grow_34 : decode cX11_grow 34 = .ok (.aload_n 0, 1) := by decide +kernel
theorem dX11_grow_35 : decode cX11_grow 35 = .ok (.iload_n 1, 1) := by decide +kernel
theorem dX11_grow_36 : decode cX11_grow 36 = .ok (.iload 6, 2) := by decide +kernel
theorem dX11_grow_38 : decode cX11_grow 38 = .ok (.iadd, 1) := by decide +kernel
theorem dX11_grow_39 : decode cX11_grow 39 = .ok (.lload_n 3, 1) := by decide +kernel
theorem dX11_grow_40 : decode cX11_grow 40 = .ok (.l2i, 1) := by decide +kernel
theorem dX11_grow_41 : decode cX11_grow 41 = .ok (.iastore, 1) := by decide +kernel
theorem dX11_grow_42 : decode cX11_grow 42 = .ok (.lload_n 3, 1) := by decide +kernel
theorem dX11_grow_43 : decode cX11_grow 43 = .ok (.bipush 32, 2) := by decide +kernel
theorem dX11_grow_45 : decode cX11_grow 45 = .ok (.lushr, 1) := by decide +kernel
theorem dX11_grow_46 : decode cX11_grow 46 = .ok (.lstore_n 3, 1) := by decide +kernel
theorem dX11_grow_47 : decode cX11_grow 47 = .ok (.iinc 6 1, 3) := by decide +kernel
theorem dX11_grow_50 : decode cX11_grow 50 = .ok (.goto (-40), 3) := by decide +kernel
theorem dX11_grow_53 : decode cX11_grow 53 = .ok (.lload_n 3, 1) := by decide +kernel
theorem dX11_grow_54 : decode cX11_grow 54 = .ok (.lconst 0, 1) := by decide +kernel
theorem dX11_grow_55 : decode cX11_grow 55 = .ok (.lcmp, 1) := by decide +kernel
theorem dX11_grow_56 : decode cX11_grow 56 = .ok (.ifCond .eq 20, 3) := by decide +kernel
theorem dX11_grow_59 : decode cX11_grow 59 = .ok (.aload_n 0, 1) := by decide +kernel
theorem dX11_grow_60 : decode cX11_grow 60 = .ok (.iload_n 1, 1) := by decide +kernel
theorem dX11_grow_61 : decode cX11_grow 61 = .ok (.iload 5, 2) := by decide +kernel
theorem dX11_grow_63 : decode cX11_grow 63 = .ok (.iconst 1, 1) := by decide +kernel
theorem dX11_grow_64 : decode cX11_grow 64 = .ok (.iadd, 1) := by decide +kernel
theorem dX11_grow_65 : decode cX11_grow 65 = .ok (.iastore, 1) := by decide +kernel
theorem dX11_grow_66 : decode cX11_grow 66 = .ok (.aload_n 0, 1) := by decide +kernel
theorem dX11_grow_67 : decode cX11_grow 67 = .ok (.iload_n 1, 1) := by decide +kernel
theorem dX11_grow_68 : decode cX11_grow 68 = .ok (.iload 5, 2) := by decide +kernel
theorem dX11_grow_70 : decode cX11_grow 70 = .ok (.iadd, 1) := by decide +kernel
theorem dX11_grow_71 : decode cX11_grow 71 = .ok (.iconst 1, 1) := by decide +kernel
theorem dX11_grow_72 : decode cX11_grow 72 = .ok (.iadd, 1) := by decide +kernel
theorem dX11_grow_73 : decode cX11_grow 73 = .ok (.lload_n 3, 1) := by decide +kernel
theorem dX11_grow_74 : decode cX11_grow 74 = .ok (.l2i, 1) := by decide +kernel
theorem dX11_grow_75 : decode cX11_grow 75 = .ok (.iastore, 1) := by decide +kernel
theorem dX11_grow_76 : decode cX11_grow 76 = .ok (.return_, 1) := by decide +kernel
theorem dX11_place_0 : decode cX11_place 0 = .ok (.bipush 32, 2) := by decide +kernel
theorem dX11_place_2 : decode cX11_place 2 = .ok (.iload_n 0, 1) := by decide +kernel
theorem dX11_place_3 : decode cX11_place 3 = .ok (.imul, 1) := by decide +kernel
theorem dX11_place_4 : decode cX11_place 4 = .ok (.iload_n 1, 1) := by decide +kernel
theorem dX11_place_5 : decode cX11_place 5 = .ok (.iadd, 1) := by decide +kernel
theorem dX11_place_6 : decode cX11_place 6 = .ok (.bipush 8, 2) := by decide +kernel
theorem dX11_place_8 : decode cX11_place 8 = .ok (.imul, 1) := by decide +kernel
theorem dX11_place_9 : decode cX11_place 9 = .ok (.ireturn, 1) := by decide +kernel
theorem dX11_agree_0 : decode cX11_agree 0 = .ok (.iconst 1, 1) := by decide +kernel
theorem dX11_agree_1 : decode cX11_agree 1 = .ok (.istore 4, 2) := by decide +kernel
theorem dX11_agree_3 : decode cX11_agree 3 = .ok (.iconst 0, 1) := by decide +kernel
theorem dX11_agree_4 : decode cX11_agree 4 = .ok (.istore 5, 2) := by decide +kernel
theorem dX11_agree_6 : decode cX11_agree 6 = .ok (.iload 5, 2) := by decide +kernel
theorem dX11_agree_8 : decode cX11_agree 8 = .ok (.aload_n 0, 1) := by decide +kernel
theorem dX11_agree_9 : decode cX11_agree 9 = .ok (.getfield 160, 3) := by decide +kernel
theorem dX11_agree_12 : decode cX11_agree 12 = .ok (.if_icmp .ge 55, 3) := by decide +kernel
theorem dX11_agree_15 : decode cX11_agree 15 = .ok (.iload 4, 2) := by decide +kernel
theorem dX11_agree_17 : decode cX11_agree 17 = .ok (.ifCond .eq 41, 3) := by decide +kernel
theorem dX11_agree_20 : decode cX11_agree 20 = .ok (.iload_n 3, 1) := by decide +kernel
theorem dX11_agree_21 : decode cX11_agree 21 = .ok (.iload 5, 2) := by decide +kernel
theorem dX11_agree_23 : decode cX11_agree 23 = .ok (.ishr, 1) := by decide +kernel
theorem dX11_agree_24 : decode cX11_agree 24 = .ok (.iconst 1, 1) := by decide +kernel
theorem dX11_agree_25 : decode cX11_agree 25 = .ok (.iand, 1) := by decide +kernel
theorem dX11_agree_26 : decode cX11_agree 26 = .ok (.ifCond .eq 28, 3) := by decide +kernel
theorem dX11_agree_29 : decode cX11_agree 29 = .ok (.aload_n 0, 1) := by decide +kernel
theorem dX11_agree_30 : decode cX11_agree 30 = .ok (.getfield 13, 3) := by decide +kernel
theorem dX11_agree_33 : decode cX11_agree 33 = .ok (.iconst 5, 1) := by decide +kernel
theorem dX11_agree_34 : decode cX11_agree 34 = .ok (.iload_n 1, 1) := by decide +kernel
theorem dX11_agree_35 : decode cX11_agree 35 = .ok (.imul, 1) := by decide +kernel
theorem dX11_agree_36 : decode cX11_agree 36 = .ok (.iload 5, 2) := by decide +kernel
theorem dX11_agree_38 : decode cX11_agree 38 = .ok (.iadd, 1) := by decide +kernel
theorem dX11_agree_39 : decode cX11_agree 39 = .ok (.iaload, 1) := by decide +kernel
theorem dX11_agree_40 : decode cX11_agree 40 = .ok (.aload_n 0, 1) := by decide +kernel
theorem dX11_agree_41 : decode cX11_agree 41 = .ok (.getfield 13, 3) := by decide +kernel
theorem dX11_agree_44 : decode cX11_agree 44 = .ok (.iconst 5, 1) := by decide +kernel
theorem dX11_agree_45 : decode cX11_agree 45 = .ok (.iload_n 2, 1) := by decide +kernel
theorem dX11_agree_46 : decode cX11_agree 46 = .ok (.imul, 1) := by decide +kernel
theorem dX11_agree_47 : decode cX11_agree 47 = .ok (.iload 5, 2) := by decide +kernel
theorem dX11_agree_49 : decode cX11_agree 49 = .ok (.iadd, 1) := by decide +kernel
theorem dX11_agree_50 : decode cX11_agree 50 = .ok (.iaload, 1) := by decide +kernel
theorem dX11_agree_51 : decode cX11_agree 51 = .ok (.if_icmp .ne 7, 3) := by decide +kernel
theorem dX11_agree_54 : decode cX11_agree 54 = .ok (.iconst 1, 1) := by decide +kernel
theorem dX11_agree_55 : decode cX11_agree 55 = .ok (.goto 4, 3) := by decide +kernel
theorem dX11_agree_58 : decode cX11_agree 58 = .ok (.iconst 0, 1) := by decide +kernel
theorem dX11_agree_59 : decode cX11_agree 59 = .ok (.istore 4, 2) := by decide +kernel
theorem dX11_agree_61 : decode cX11_agree 61 = .ok (.iinc 5 1, 3) := by decide +kernel
theorem dX11_agree_64 : decode cX11_agree 64 = .ok (.goto (-58), 3) := by decide +kernel
theorem dX11_agree_67 : decode cX11_agree 67 = .ok (.iload 4, 2) := by decide +kernel
theorem dX11_agree_69 : decode cX11_agree 69 = .ok (.ireturn, 1) := by decide +kernel
theorem dX11_family_0 : decode cX11_family 0 = .ok (.iload_n 1, 1) := by decide +kernel
theorem dX11_family_1 : decode cX11_family 1 = .ok (.iload_n 2, 1) := by decide +kernel
theorem dX11_family_2 : decode cX11_family 2 = .ok (.invokestatic 163, 3) := by decide +kernel
theorem dX11_family_5 : decode cX11_family 5 = .ok (.istore_n 3, 1) := by decide +kernel
theorem dX11_family_6 : decode cX11_family 6 = .ok (.aload_n 0, 1) := by decide +kernel
theorem dX11_family_7 : decode cX11_family 7 = .ok (.getfield 38, 3) := by decide +kernel
theorem dX11_family_10 : decode cX11_family 10 = .ok (.bipush 32, 2) := by decide +kernel
theorem dX11_family_12 : decode cX11_family 12 = .ok (.iload_n 1, 1) := by decide +kernel
theorem dX11_family_13 : decode cX11_family 13 = .ok (.imul, 1) := by decide +kernel
theorem dX11_family_14 : decode cX11_family 14 = .ok (.iload_n 2, 1) := by decide +kernel
theorem dX11_family_15 : decode cX11_family 15 = .ok (.iadd, 1) := by decide +kernel
theorem dX11_family_16 : decode cX11_family 16 = .ok (.baload, 1) := by decide +kernel
theorem dX11_family_17 : decode cX11_family 17 = .ok (.ifCond .ne 97, 3) := by decide +kernel
theorem dX11_family_20 : decode cX11_family 20 = .ok (.aload_n 0, 1) := by decide +kernel
theorem dX11_family_21 : decode cX11_family 21 = .ok (.iload_n 1, 1) := by decide +kernel
theorem dX11_family_22 : decode cX11_family 22 = .ok (.iload_n 2, 1) := by decide +kernel
theorem dX11_family_23 : decode cX11_family 23 = .ok (.invokevirtual 167, 3) := by decide +kernel
theorem dX11_family_26 : decode cX11_family 26 = .ok (.aload_n 0, 1) := by decide +kernel
theorem dX11_family_27 : decode cX11_family 27 = .ok (.getfield 42, 3) := by decide +kernel
theorem dX11_family_30 : decode cX11_family 30 = .ok (.iload_n 3, 1) := by decide +kernel
theorem dX11_family_31 : decode cX11_family 31 = .ok (.aload_n 0, 1) := by decide +kernel
theorem dX11_family_32 : decode cX11_family 32 = .ok (.getfield 48, 3) := by decide +kernel
theorem dX11_family_35 : decode cX11_family 35 = .ok (.invokestatic 171, 3) := by decide +kernel
theorem dX11_family_38 : decode cX11_family 38 = .ok (.aload_n 0, 1) := by decide +kernel
theorem dX11_family_39 : decode cX11_family 39 = .ok (.getfield 45, 3) := by decide +kernel
theorem dX11_family_42 : decode cX11_family 42 = .ok (.iload_n 3, 1) := by decide +kernel
theorem dX11_family_43 : decode cX11_family 43 = .ok (.aload_n 0, 1) := by decide +kernel
theorem dX11_family_44 : decode cX11_family 44 = .ok (.getfield 51, 3) := by decide +kernel
theorem dX11_family_47 : decode cX11_family 47 = .ok (.invokestatic 171, 3) := by decide +kernel
theorem dX11_family_50 : decode cX11_family 50 = .ok (.aload_n 0, 1) := by decide +kernel
theorem dX11_family_51 : decode cX11_family 51 = .ok (.aload_n 0, 1) := by decide +kernel
theorem dX11_family_52 : decode cX11_family 52 = .ok (.getfield 48, 3) := by decide +kernel
theorem dX11_family_55 : decode cX11_family 55 = .ok (.aload_n 0, 1) := by decide +kernel
theorem dX11_family_56 : decode cX11_family 56 = .ok (.getfield 51, 3) := by decide +kernel
theorem dX11_family_59 : decode cX11_family 59 = .ok (.invokevirtual 154, 3) := by decide +kernel
theorem dX11_family_62 : decode cX11_family 62 = .ok (.aload_n 0, 1) := by decide +kernel
theorem dX11_family_63 : decode cX11_family 63 = .ok (.aload_n 0, 1) := by decide +kernel
theorem dX11_family_64 : decode cX11_family 64 = .ok (.getfield 48, 3) := by decide +kernel
theorem dX11_family_67 : decode cX11_family 67 = .ok (.invokevirtual 157, 3) := by decide +kernel
theorem dX11_family_70 : decode cX11_family 70 = .ok (.aload_n 0, 1) := by decide +kernel
theorem dX11_family_71 : decode cX11_family 71 = .ok (.getfield 48, 3) := by decide +kernel
theorem dX11_family_74 : decode cX11_family 74 = .ok (.aload_n 0, 1) := by decide +kernel
theorem dX11_family_75 : decode cX11_family 75 = .ok (.getfield 42, 3) := by decide +kernel
theorem dX11_family_78 : decode cX11_family 78 = .ok (.iload_n 3, 1) := by decide +kernel
theorem dX11_family_79 : decode cX11_family 79 = .ok (.invokestatic 175, 3) := by decide +kernel
theorem dX11_family_82 : decode cX11_family 82 = .ok (.aload_n 0, 1) := by decide +kernel
theorem dX11_family_83 : decode cX11_family 83 = .ok (.aload_n 0, 1) := by decide +kernel
theorem dX11_family_84 : decode cX11_family 84 = .ok (.getfield 51, 3) := by decide +kernel
theorem dX11_family_87 : decode cX11_family 87 = .ok (.invokevirtual 157, 3) := by decide +kernel
theorem dX11_family_90 : decode cX11_family 90 = .ok (.aload_n 0, 1) := by decide +kernel
theorem dX11_family_91 : decode cX11_family 91 = .ok (.getfield 51, 3) := by decide +kernel
theorem dX11_family_94 : decode cX11_family 94 = .ok (.aload_n 0, 1) := by decide +kernel
theorem dX11_family_95 : decode cX11_family 95 = .ok (.getfield 45, 3) := by decide +kernel
theorem dX11_family_98 : decode cX11_family 98 = .ok (.iload_n 3, 1) := by decide +kernel
theorem dX11_family_99 : decode cX11_family 99 = .ok (.invokestatic 175, 3) := by decide +kernel
theorem dX11_family_102 : decode cX11_family 102 = .ok (.aload_n 0, 1) := by decide +kernel
theorem dX11_family_103 : decode cX11_family 103 = .ok (.getfield 38, 3) := by decide +kernel
theorem dX11_family_106 : decode cX11_family 106 = .ok (.bipush 32, 2) := by decide +kernel
theorem dX11_family_108 : decode cX11_family 108 = .ok (.iload_n 1, 1) := by decide +kernel
theorem dX11_family_109 : decode cX11_family 109 = .ok (.imul, 1) := by decide +kernel
theorem dX11_family_110 : decode cX11_family 110 = .ok (.iload_n 2, 1) := by decide +kernel
theorem dX11_family_111 : decode cX11_family 111 = .ok (.iadd, 1) := by decide +kernel
theorem dX11_family_112 : decode cX11_family 112 = .ok (.iconst 1, 1) := by decide +kernel
theorem dX11_family_113 : decode cX11_family 113 = .ok (.bastore, 1) := by decide +kernel
theorem dX11_family_114 : decode cX11_family 114 = .ok (.iload_n 3, 1) := by decide +kernel
theorem dX11_family_115 : decode cX11_family 115 = .ok (.ireturn, 1) := by decide +kernel
theorem dX11_store_0 : decode cX11_store 0 = .ok (.iconst 0, 1) := by decide +kernel
theorem dX11_store_1 : decode cX11_store 1 = .ok (.istore_n 3, 1) := by decide +kernel
theorem dX11_store_2 : decode cX11_store 2 = .ok (.iload_n 3, 1) := by decide +kernel
theorem dX11_store_3 : decode cX11_store 3 = .ok (.aload_n 0, 1) := by decide +kernel
theorem dX11_store_4 : decode cX11_store 4 = .ok (.iconst 0, 1) := by decide +kernel
theorem dX11_store_5 : decode cX11_store 5 = .ok (.iaload, 1) := by decide +kernel
theorem dX11_store_6 : decode cX11_store 6 = .ok (.if_icmp .gt 17, 3) := by decide +kernel
theorem dX11_store_9 : decode cX11_store 9 = .ok (.aload_n 1, 1) := by decide +kernel
theorem dX11_store_10 : decode cX11_store 10 = .ok (.iload_n 2, 1) := by decide +kernel
theorem dX11_store_11 : decode cX11_store 11 = .ok (.iload_n 3, 1) := by decide +kernel
theorem dX11_store_12 : decode cX11_store 12 = .ok (.iadd, 1) := by decide +kernel
theorem dX11_store_13 : decode cX11_store 13 = .ok (.aload_n 0, 1) := by decide +kernel
theorem dX11_store_14 : decode cX11_store 14 = .ok (.iload_n 3, 1) := by decide +kernel
theorem dX11_store_15 : decode cX11_store 15 = .ok (.iaload, 1) := by decide +kernel
theorem dX11_store_16 : decode cX11_store 16 = .ok (.iastore, 1) := by decide +kernel
theorem dX11_store_17 : decode cX11_store 17 = .ok (.iinc 3 1, 3) := by decide +kernel
theorem dX11_store_20 : decode cX11_store 20 = .ok (.goto (-18), 3) := by decide +kernel
theorem dX11_store_23 : decode cX11_store 23 = .ok (.return_, 1) := by decide +kernel
theorem dX11_work_0 : decode cX11_work 0 = .ok (.iload_n 1, 1) := by decide +kernel
theorem dX11_work_1 : decode cX11_work 1 = .ok (.iload_n 2, 1) := by decide +kernel
theorem dX11_work_2 : decode cX11_work 2 = .ok (.invokestatic 163, 3) := by decide +kernel
theorem dX11_work_5 : decode cX11_work 5 = .ok (.istore_n 3, 1) := by decide +kernel
theorem dX11_work_6 : decode cX11_work 6 = .ok (.aload_n 0, 1) := by decide +kernel
theorem dX11_work_7 : decode cX11_work 7 = .ok (.getfield 42, 3) := by decide +kernel
theorem dX11_work_10 : decode cX11_work 10 = .ok (.iload_n 3, 1) := by decide +kernel
theorem dX11_work_11 : decode cX11_work 11 = .ok (.iconst 1, 1) := by decide +kernel
theorem dX11_work_12 : decode cX11_work 12 = .ok (.iastore, 1) := by decide +kernel
theorem dX11_work_13 : decode cX11_work 13 = .ok (.aload_n 0, 1) := by decide +kernel
theorem dX11_work_14 : decode cX11_work 14 = .ok (.getfield 42, 3) := by decide +kernel
theorem dX11_work_17 : decode cX11_work 17 = .ok (.iload_n 3, 1) := by decide +kernel
theorem dX11_work_18 : decode cX11_work 18 = .ok (.iconst 1, 1) := by decide +kernel
theorem dX11_work_19 : decode cX11_work 19 = .ok (.iadd, 1) := by decide +kernel
theorem dX11_work_20 : decode cX11_work 20 = .ok (.iconst 1, 1) := by decide +kernel
theorem dX11_work_21 : decode cX11_work 21 = .ok (.iastore, 1) := by decide +kernel
theorem dX11_work_22 : decode cX11_work 22 = .ok (.aload_n 0, 1) := by decide +kernel
theorem dX11_work_23 : decode cX11_work 23 = .ok (.getfield 45, 3) := by decide +kernel
theorem dX11_work_26 : decode cX11_work 26 = .ok (.iload_n 3, 1) := by decide +kernel
theorem dX11_work_27 : decode cX11_work 27 = .ok (.iconst 1, 1) := by decide +kernel
theorem dX11_work_28 : decode cX11_work 28 = .ok (.iastore, 1) := by decide +kernel
theorem dX11_work_29 : decode cX11_work 29 = .ok (.aload_n 0, 1) := by decide +kernel
theorem dX11_work_30 : decode cX11_work 30 = .ok (.getfield 45, 3) := by decide +kernel
theorem dX11_work_33 : decode cX11_work 33 = .ok (.iload_n 3, 1) := by decide +kernel
theorem dX11_work_34 : decode cX11_work 34 = .ok (.iconst 1, 1) := by decide +kernel
theorem dX11_work_35 : decode cX11_work 35 = .ok (.iadd, 1) := by decide +kernel
theorem dX11_work_36 : decode cX11_work 36 = .ok (.iconst 1, 1) := by decide +kernel
theorem dX11_work_37 : decode cX11_work 37 = .ok (.iastore, 1) := by decide +kernel
theorem dX11_work_38 : decode cX11_work 38 = .ok (.aload_n 0, 1) := by decide +kernel
theorem dX11_work_39 : decode cX11_work 39 = .ok (.getfield 7, 3) := by decide +kernel
theorem dX11_work_42 : decode cX11_work 42 = .ok (.iload_n 1, 1) := by decide +kernel
theorem dX11_work_43 : decode cX11_work 43 = .ok (.iaload, 1) := by decide +kernel
theorem dX11_work_44 : decode cX11_work 44 = .ok (.istore 4, 2) := by decide +kernel
theorem dX11_work_46 : decode cX11_work 46 = .ok (.iconst 0, 1) := by decide +kernel
theorem dX11_work_47 : decode cX11_work 47 = .ok (.istore 5, 2) := by decide +kernel
theorem dX11_work_49 : decode cX11_work 49 = .ok (.iload 5, 2) := by decide +kernel
theorem dX11_work_51 : decode cX11_work 51 = .ok (.aload_n 0, 1) := by decide +kernel
theorem dX11_work_52 : decode cX11_work 52 = .ok (.getfield 160, 3) := by decide +kernel
theorem dX11_work_55 : decode cX11_work 55 = .ok (.if_icmp .ge 35, 3) := by decide +kernel
theorem dX11_work_58 : decode cX11_work 58 = .ok (.iload 4, 2) := by decide +kernel
theorem dX11_work_60 : decode cX11_work 60 = .ok (.iload_n 2, 1) := by decide +kernel
theorem dX11_work_61 : decode cX11_work 61 = .ok (.iload 5, 2) := by decide +kernel
theorem dX11_work_63 : decode cX11_work 63 = .ok (.ishr, 1) := by decide +kernel
theorem dX11_work_64 : decode cX11_work 64 = .ok (.iconst 1, 1) := by decide +kernel
theorem dX11_work_65 : decode cX11_work 65 = .ok (.iand, 1) := by decide +kernel
theorem dX11_work_66 : decode cX11_work 66 = .ok (.iconst 1, 1) := by decide +kernel
theorem dX11_work_67 : decode cX11_work 67 = .ok (.if_icmp .ne 13, 3) := by decide +kernel
theorem dX11_work_70 : decode cX11_work 70 = .ok (.aload_n 0, 1) := by decide +kernel
theorem dX11_work_71 : decode cX11_work 71 = .ok (.getfield 7, 3) := by decide +kernel
theorem dX11_work_74 : decode cX11_work 74 = .ok (.iload 5, 2) := by decide +kernel
theorem dX11_work_76 : decode cX11_work 76 = .ok (.iaload, 1) := by decide +kernel
theorem dX11_work_77 : decode cX11_work 77 = .ok (.goto 4, 3) := by decide +kernel
theorem dX11_work_80 : decode cX11_work 80 = .ok (.iconst 1, 1) := by decide +kernel
theorem dX11_work_81 : decode cX11_work 81 = .ok (.imul, 1) := by decide +kernel
theorem dX11_work_82 : decode cX11_work 82 = .ok (.istore 4, 2) := by decide +kernel
theorem dX11_work_84 : decode cX11_work 84 = .ok (.iinc 5 1, 3) := by decide +kernel
theorem dX11_work_87 : decode cX11_work 87 = .ok (.goto (-38), 3) := by decide +kernel
theorem dX11_work_90 : decode cX11_work 90 = .ok (.iconst 0, 1) := by decide +kernel
theorem dX11_work_91 : decode cX11_work 91 = .ok (.istore 5, 2) := by decide +kernel
theorem dX11_work_93 : decode cX11_work 93 = .ok (.iload 5, 2) := by decide +kernel
theorem dX11_work_95 : decode cX11_work 95 = .ok (.aload_n 0, 1) := by decide +kernel
theorem dX11_work_96 : decode cX11_work 96 = .ok (.getfield 179, 3) := by decide +kernel
theorem dX11_work_99 : decode cX11_work 99 = .ok (.if_icmp .ge 124, 3) := by decide +kernel
theorem dX11_work_102 : decode cX11_work 102 = .ok (.iconst 0, 1) := by decide +kernel
theorem dX11_work_103 : decode cX11_work 103 = .ok (.istore 6, 2) := by decide +kernel
theorem dX11_work_105 : decode cX11_work 105 = .ok (.iconst 0, 1) := by decide +kernel
theorem dX11_work_106 : decode cX11_work 106 = .ok (.istore 7, 2) := by decide +kernel
theorem dX11_work_108 : decode cX11_work 108 = .ok (.iconst 0, 1) := by decide +kernel
theorem dX11_work_109 : decode cX11_work 109 = .ok (.istore 8, 2) := by decide +kernel
theorem dX11_work_111 : decode cX11_work 111 = .ok (.iload 8, 2) := by decide +kernel
theorem dX11_work_113 : decode cX11_work 113 = .ok (.iload 5, 2) := by decide +kernel
theorem dX11_work_115 : decode cX11_work 115 = .ok (.if_icmp .ge 59, 3) := by decide +kernel
theorem dX11_work_118 : decode cX11_work 118 = .ok (.aload_n 0, 1) := by decide +kernel
theorem dX11_work_119 : decode cX11_work 119 = .ok (.iload 5, 2) := by decide +kernel
theorem dX11_work_121 : decode cX11_work 121 = .ok (.iload 8, 2) := by decide +kernel
theorem dX11_work_123 : decode cX11_work 123 = .ok (.iload_n 2, 1) := by decide +kernel
theorem dX11_work_124 : decode cX11_work 124 = .ok (.invokevirtual 182, 3) := by decide +kernel
theorem dX11_work_127 : decode cX11_work 127 = .ok (.ifCond .eq 41, 3) := by decide +kernel
theorem dX11_work_130 : decode cX11_work 130 = .ok (.iinc 6 1, 3) := by decide +kernel
theorem dX11_work_133 : decode cX11_work 133 = .ok (.iload 7, 2) := by decide +kernel
theorem dX11_work_135 : decode cX11_work 135 = .ok (.aload_n 0, 1) := by decide +kernel
theorem dX11_work_136 : decode cX11_work 136 = .ok (.getfield 13, 3) := by decide +kernel
theorem dX11_work_139 : decode cX11_work 139 = .ok (.iconst 5, 1) := by decide +kernel
theorem dX11_work_140 : decode cX11_work 140 = .ok (.iload 5, 2) := by decide +kernel
theorem dX11_work_142 : decode cX11_work 142 = .ok (.imul, 1) := by decide +kernel
theorem dX11_work_143 : decode cX11_work 143 = .ok (.iload_n 1, 1) := by decide +kernel
theorem dX11_work_144 : decode cX11_work 144 = .ok (.iadd, 1) := by decide +kernel
theorem dX11_work_145 : decode cX11_work 145 = .ok (.iaload, 1) := by decide +kernel
theorem dX11_work_146 : decode cX11_work 146 = .ok (.aload_n 0, 1) := by decide +kernel
theorem dX11_work_147 : decode cX11_work 147 = .ok (.getfield 13, 3) := by decide +kernel
theorem dX11_work_150 : decode cX11_work 150 = .ok (.iconst 5, 1) := by decide +kernel
theorem dX11_work_151 : decode cX11_work 151 = .ok (.iload 8, 2) := by decide +kernel
theorem dX11_work_153 : decode cX11_work 153 = .ok (.imul, 1) := by decide +kernel
theorem dX11_work_154 : decode cX11_work 154 = .ok (.iload_n 1, 1) := by decide +kernel
theorem dX11_work_155 : decode cX11_work 155 = .ok (.iadd, 1) := by decide +kernel
theorem dX11_work_156 : decode cX11_work 156 = .ok (.iaload, 1) := by decide +kernel
theorem dX11_work_157 : decode cX11_work 157 = .ok (.if_icmp .ne 7, 3) := by decide +kernel
theorem dX11_work_160 : decode cX11_work 160 = .ok (.iconst 1, 1) := by decide +kernel
theorem dX11_work_161 : decode cX11_work 161 = .ok (.goto 4, 3) := by decide +kernel
theorem dX11_work_164 : decode cX11_work 164 = .ok (.iconst 0, 1) := by decide +kernel
theorem dX11_work_165 : decode cX11_work 165 = .ok (.iadd, 1) := by decide +kernel
theorem dX11_work_166 : decode cX11_work 166 = .ok (.istore 7, 2) := by decide +kernel
theorem dX11_work_168 : decode cX11_work 168 = .ok (.iinc 8 1, 3) := by decide +kernel
theorem dX11_work_171 : decode cX11_work 171 = .ok (.goto (-60), 3) := by decide +kernel
theorem dX11_work_174 : decode cX11_work 174 = .ok (.aload_n 0, 1) := by decide +kernel
theorem dX11_work_175 : decode cX11_work 175 = .ok (.getfield 42, 3) := by decide +kernel
theorem dX11_work_178 : decode cX11_work 178 = .ok (.iload_n 3, 1) := by decide +kernel
theorem dX11_work_179 : decode cX11_work 179 = .ok (.aload_n 0, 1) := by decide +kernel
theorem dX11_work_180 : decode cX11_work 180 = .ok (.getfield 16, 3) := by decide +kernel
theorem dX11_work_183 : decode cX11_work 183 = .ok (.iload 7, 2) := by decide +kernel
theorem dX11_work_185 : decode cX11_work 185 = .ok (.iload 4, 2) := by decide +kernel
theorem dX11_work_187 : decode cX11_work 187 = .ok (.imul, 1) := by decide +kernel
theorem dX11_work_188 : decode cX11_work 188 = .ok (.iadd, 1) := by decide +kernel
theorem dX11_work_189 : decode cX11_work 189 = .ok (.invokestatic 186, 3) := by decide +kernel
theorem dX11_work_192 : decode cX11_work 192 = .ok (.aload_n 0, 1) := by decide +kernel
theorem dX11_work_193 : decode cX11_work 193 = .ok (.getfield 45, 3) := by decide +kernel
theorem dX11_work_196 : decode cX11_work 196 = .ok (.iload_n 3, 1) := by decide +kernel
theorem dX11_work_197 : decode cX11_work 197 = .ok (.aload_n 0, 1) := by decide +kernel
theorem dX11_work_198 : decode cX11_work 198 = .ok (.getfield 7, 3) := by decide +kernel
theorem dX11_work_201 : decode cX11_work 201 = .ok (.iload_n 1, 1) := by decide +kernel
theorem dX11_work_202 : decode cX11_work 202 = .ok (.iaload, 1) := by decide +kernel
theorem dX11_work_203 : decode cX11_work 203 = .ok (.aload_n 0, 1) := by decide +kernel
theorem dX11_work_204 : decode cX11_work 204 = .ok (.getfield 16, 3) := by decide +kernel
theorem dX11_work_207 : decode cX11_work 207 = .ok (.imul, 1) := by decide +kernel
theorem dX11_work_208 : decode cX11_work 208 = .ok (.iload 6, 2) := by decide +kernel
theorem dX11_work_210 : decode cX11_work 210 = .ok (.iload 4, 2) := by decide +kernel
theorem dX11_work_212 : decode cX11_work 212 = .ok (.imul, 1) := by decide +kernel
theorem dX11_work_213 : decode cX11_work 213 = .ok (.iadd, 1) := by decide +kernel
theorem dX11_work_214 : decode cX11_work 214 = .ok (.invokestatic 186, 3) := by decide +kernel
theorem dX11_work_217 : decode cX11_work 217 = .ok (.iinc 5 1, 3) := by decide +kernel
theorem dX11_work_220 : decode cX11_work 220 = .ok (.goto (-127), 3) := by decide +kernel
theorem dX11_work_223 : decode cX11_work 223 = .ok (.return_, 1) := by decide +kernel
theorem dX11_load_0 : decode cX11_load 0 = .ok (.iconst 0, 1) := by decide +kernel
theorem dX11_load_1 : decode cX11_load 1 = .ok (.istore_n 3, 1) := by decide +kernel
theorem dX11_load_2 : decode cX11_load 2 = .ok (.iload_n 3, 1) := by decide +kernel
theorem dX11_load_3 : decode cX11_load 3 = .ok (.aload_n 0, 1) := by decide +kernel
theorem dX11_load_4 : decode cX11_load 4 = .ok (.iload_n 1, 1) := by decide +kernel
theorem dX11_load_5 : decode cX11_load 5 = .ok (.iaload, 1) := by decide +kernel
theorem dX11_load_6 : decode cX11_load 6 = .ok (.if_icmp .gt 17, 3) := by decide +kernel
theorem dX11_load_9 : decode cX11_load 9 = .ok (.aload_n 2, 1) := by decide +kernel
theorem dX11_load_10 : decode cX11_load 10 = .ok (.iload_n 3, 1) := by decide +kernel
theorem dX11_load_11 : decode cX11_load 11 = .ok (.aload_n 0, 1) := by decide +kernel
theorem dX11_load_12 : decode cX11_load 12 = .ok (.iload_n 1, 1) := by decide +kernel
theorem dX11_load_13 : decode cX11_load 13 = .ok (.iload_n 3, 1) := by decide +kernel
theorem dX11_load_14 : decode cX11_load 14 = .ok (.iadd, 1) := by decide +kernel
theorem dX11_load_15 : decode cX11_load 15 = .ok (.iaload, 1) := by decide +kernel
theorem dX11_load_16 : decode cX11_load 16 = .ok (.iastore, 1) := by decide +kernel
theorem dX11_load_17 : decode cX11_load 17 = .ok (.iinc 3 1, 3) := by decide +kernel
theorem dX11_load_20 : decode cX11_load 20 = .ok (.goto (-18), 3) := by decide +kernel
theorem dX11_load_23 : decode cX11_load 23 = .ok (.return_, 1) := by decide +kernel
theorem dX11_multiply_0 : decode cX11_multiply 0 = .ok (.aload_n 2, 1) := by decide +kernel
theorem dX11_multiply_1 : decode cX11_multiply 1 = .ok (.iload_n 3, 1) := by decide +kernel
theorem dX11_multiply_2 : decode cX11_multiply 2 = .ok (.aload_n 0, 1) := by decide +kernel
theorem dX11_multiply_3 : decode cX11_multiply 3 = .ok (.getfield 54, 3) := by decide +kernel
theorem dX11_multiply_6 : decode cX11_multiply 6 = .ok (.invokestatic 171, 3) := by decide +kernel
theorem dX11_multiply_9 : decode cX11_multiply 9 = .ok (.aload_n 1, 1) := by decide +kernel
theorem dX11_multiply_10 : decode cX11_multiply 10 = .ok (.aload_n 0, 1) := by decide +kernel
theorem dX11_multiply_11 : decode cX11_multiply 11 = .ok (.getfield 54, 3) := by decide +kernel
theorem dX11_multiply_14 : decode cX11_multiply 14 = .ok (.aload_n 0, 1) := by decide +kernel
theorem dX11_multiply_15 : decode cX11_multiply 15 = .ok (.getfield 57, 3) := by decide +kernel
theorem dX11_multiply_18 : decode cX11_multiply 18 = .ok (.invokestatic 190, 3) := by decide +kernel
theorem dX11_multiply_21 : decode cX11_multiply 21 = .ok (.aload_n 0, 1) := by decide +kernel
theorem dX11_multiply_22 : decode cX11_multiply 22 = .ok (.getfield 57, 3) := by decide +kernel
theorem dX11_multiply_25 : decode cX11_multiply 25 = .ok (.aload_n 1, 1) := by decide +kernel
theorem dX11_multiply_26 : decode cX11_multiply 26 = .ok (.invokestatic 129, 3) := by decide +kernel
theorem dX11_multiply_29 : decode cX11_multiply 29 = .ok (.return_, 1) := by decide +kernel
theorem dX11_bits_0 : decode cX11_bits 0 = .ok (.iconst 0, 1) := by decide +kernel
theorem dX11_bits_1 : decode cX11_bits 1 = .ok (.istore_n 1, 1) := by decide +kernel
theorem dX11_bits_2 : decode cX11_bits 2 = .ok (.iconst 0, 1) := by decide +kernel
theorem dX11_bits_3 : decode cX11_bits 3 = .ok (.istore_n 2, 1) := by decide +kernel
theorem dX11_bits_4 : decode cX11_bits 4 = .ok (.iload_n 2, 1) := by decide +kernel
theorem dX11_bits_5 : decode cX11_bits 5 = .ok (.iconst 5, 1) := by decide +kernel
theorem dX11_bits_6 : decode cX11_bits 6 = .ok (.if_icmp .ge 17, 3) := by decide +kernel
theorem dX11_bits_9 : decode cX11_bits 9 = .ok (.iload_n 1, 1) := by decide +kernel
theorem dX11_bits_10 : decode cX11_bits 10 = .ok (.iload_n 0, 1) := by decide +kernel
theorem dX11_bits_11 : decode cX11_bits 11 = .ok (.iload_n 2, 1) := by decide +kernel
theorem dX11_bits_12 : decode cX11_bits 12 = .ok (.ishr, 1) := by decide +kernel
theorem dX11_bits_13 : decode cX11_bits 13 = .ok (.iconst 1, 1) := by decide +kernel
theorem dX11_bits_14 : decode cX11_bits 14 = .ok (.iand, 1) := by decide +kernel
theorem dX11_bits_15 : decode cX11_bits 15 = .ok (.iadd, 1) := by decide +kernel
theorem dX11_bits_16 : decode cX11_bits 16 = .ok (.istore_n 1, 1) := by decide +kernel
theorem dX11_bits_17 : decode cX11_bits 17 = .ok (.iinc 2 1, 3) := by decide +kernel
theorem dX11_bits_20 : decode cX11_bits 20 = .ok (.goto (-16), 3) := by decide +kernel
theorem dX11_bits_23 : decode cX11_bits 23 = .ok (.iload_n 1, 1) := by decide +kernel
theorem dX11_bits_24 : decode cX11_bits 24 = .ok (.ireturn, 1) := by decide +kernel
theorem dX11_parentsOf_0 : decode cX11_parentsOf 0 = .ok (.iconst 0, 1) := by decide +kernel
theorem dX11_parentsOf_1 : decode cX11_parentsOf 1 = .ok (.istore_n 2, 1) := by decide +kernel
theorem dX11_parentsOf_2 : decode cX11_parentsOf 2 = .ok (.iconst 0, 1) := by decide +kernel
theorem dX11_parentsOf_3 : decode cX11_parentsOf 3 = .ok (.istore_n 3, 1) := by decide +kernel
theorem dX11_parentsOf_4 : decode cX11_parentsOf 4 = .ok (.iload_n 3, 1) := by decide +kernel
theorem dX11_parentsOf_5 : decode cX11_parentsOf 5 = .ok (.iconst 5, 1) := by decide +kernel
theorem dX11_parentsOf_6 : decode cX11_parentsOf 6 = .ok (.if_icmp .ge 23, 3) := by decide +kernel
theorem dX11_parentsOf_9 : decode cX11_parentsOf 9 = .ok (.iload_n 2, 1) := by decide +kernel
theorem dX11_parentsOf_10 : decode cX11_parentsOf 10 = .ok (.iload_n 0, 1) := by decide +kernel
theorem dX11_parentsOf_11 : decode cX11_parentsOf 11 = .ok (.iconst 5, 1) := by decide +kernel
theorem dX11_parentsOf_12 : decode cX11_parentsOf 12 = .ok (.iload_n 3, 1) := by decide +kernel
theorem dX11_parentsOf_13 : decode cX11_parentsOf 13 = .ok (.imul, 1) := by decide +kernel
theorem dX11_parentsOf_14 : decode cX11_parentsOf 14 = .ok (.iload_n 1, 1) := by decide +kernel
theorem dX11_parentsOf_15 : decode cX11_parentsOf 15 = .ok (.iadd, 1) := by decide +kernel
theorem dX11_parentsOf_16 : decode cX11_parentsOf 16 = .ok (.ishr, 1) := by decide +kernel
theorem dX11_parentsOf_17 : decode cX11_parentsOf 17 = .ok (.iconst 1, 1) := by decide +kernel
theorem dX11_parentsOf_18 : decode cX11_parentsOf 18 = .ok (.iand, 1) := by decide +kernel
theorem dX11_parentsOf_19 : decode cX11_parentsOf 19 = .ok (.iload_n 3, 1) := by decide +kernel
theorem dX11_parentsOf_20 : decode cX11_parentsOf 20 = .ok (.ishl, 1) := by decide +kernel
theorem dX11_parentsOf_21 : decode cX11_parentsOf 21 = .ok (.ior, 1) := by decide +kernel
theorem dX11_parentsOf_22 : decode cX11_parentsOf 22 = .ok (.istore_n 2, 1) := by decide +kernel
theorem dX11_parentsOf_23 : decode cX11_parentsOf 23 = .ok (.iinc 3 1, 3) := by decide +kernel
theorem dX11_parentsOf_26 : decode cX11_parentsOf 26 = .ok (.goto (-22), 3) := by decide +kernel
theorem dX11_parentsOf_29 : decode cX11_parentsOf 29 = .ok (.iload_n 2, 1) := by decide +kernel
theorem dX11_parentsOf_30 : decode cX11_parentsOf 30 = .ok (.ireturn, 1) := by decide +kernel
theorem dX11_fit_0 : decode cX11_fit 0 = .ok (.aload_n 2, 1) := by decide +kernel
theorem dX11_fit_1 : decode cX11_fit 1 = .ok (.iconst 1, 1) := by decide +kernel
theorem dX11_fit_2 : decode cX11_fit 2 = .ok (.invokestatic 151, 3) := by decide +kernel
theorem dX11_fit_5 : decode cX11_fit 5 = .ok (.aload_n 3, 1) := by decide +kernel
theorem dX11_fit_6 : decode cX11_fit 6 = .ok (.iconst 1, 1) := by decide +kernel
theorem dX11_fit_7 : decode cX11_fit 7 = .ok (.invokestatic 151, 3) := by decide +kernel
theorem dX11_fit_10 : decode cX11_fit 10 = .ok (.iconst 0, 1) := by decide +kernel
theorem dX11_fit_11 : decode cX11_fit 11 = .ok (.istore 4, 2) := by decide +kernel
theorem dX11_fit_13 : decode cX11_fit 13 = .ok (.iload 4, 2) := by decide +kernel
theorem dX11_fit_15 : decode cX11_fit 15 = .ok (.aload_n 0, 1) := by decide +kernel
theorem dX11_fit_16 : decode cX11_fit 16 = .ok (.getfield 160, 3) := by decide +kernel
theorem dX11_fit_19 : decode cX11_fit 19 = .ok (.if_icmp .ge 45, 3) := by decide +kernel
theorem dX11_fit_22 : decode cX11_fit 22 = .ok (.aload_n 0, 1) := by decide +kernel
theorem dX11_fit_23 : decode cX11_fit 23 = .ok (.iload 4, 2) := by decide +kernel
theorem dX11_fit_25 : decode cX11_fit 25 = .ok (.iload_n 1, 1) := by decide +kernel
theorem dX11_fit_26 : decode cX11_fit 26 = .ok (.iload 4, 2) := by decide +kernel
theorem dX11_fit_28 : decode cX11_fit 28 = .ok (.invokestatic 194, 3) := by decide +kernel
theorem dX11_fit_31 : decode cX11_fit 31 = .ok (.invokevirtual 197, 3) := by decide +kernel
theorem dX11_fit_34 : decode cX11_fit 34 = .ok (.istore 5, 2) := by decide +kernel
theorem dX11_fit_36 : decode cX11_fit 36 = .ok (.aload_n 0, 1) := by decide +kernel
theorem dX11_fit_37 : decode cX11_fit 37 = .ok (.aload_n 2, 1) := by decide +kernel
theorem dX11_fit_38 : decode cX11_fit 38 = .ok (.aload_n 0, 1) := by decide +kernel
theorem dX11_fit_39 : decode cX11_fit 39 = .ok (.getfield 42, 3) := by decide +kernel
theorem dX11_fit_42 : decode cX11_fit 42 = .ok (.iload 5, 2) := by decide +kernel
theorem dX11_fit_44 : decode cX11_fit 44 = .ok (.invokevirtual 200, 3) := by decide +kernel
theorem dX11_fit_47 : decode cX11_fit 47 = .ok (.aload_n 0, 1) := by decide +kernel
theorem dX11_fit_48 : decode cX11_fit 48 = .ok (.aload_n 3, 1) := by decide +kernel
theorem dX11_fit_49 : decode cX11_fit 49 = .ok (.aload_n 0, 1) := by decide +kernel
theorem dX11_fit_50 : decode cX11_fit 50 = .ok (.getfield 45, 3) := by decide +kernel
theorem dX11_fit_53 : decode cX11_fit 53 = .ok (.iload 5, 2) := by decide +kernel
theorem dX11_fit_55 : decode cX11_fit 55 = .ok (.invokevirtual 200, 3) := by decide +kernel
theorem dX11_fit_58 : decode cX11_fit 58 = .ok (.iinc 4 1, 3) := by decide +kernel
theorem dX11_fit_61 : decode cX11_fit 61 = .ok (.goto (-48), 3) := by decide +kernel
theorem dX11_fit_64 : decode cX11_fit 64 = .ok (.return_, 1) := by decide +kernel
theorem dX11_sign_0 : decode cX11_sign 0 = .ok (.aload_n 0, 1) := by decide +kernel
theorem dX11_sign_1 : decode cX11_sign 1 = .ok (.getfield 60, 3) := by decide +kernel
theorem dX11_sign_4 : decode cX11_sign 4 = .ok (.aload_n 0, 1) := by decide +kernel
theorem dX11_sign_5 : decode cX11_sign 5 = .ok (.getfield 69, 3) := by decide +kernel
theorem dX11_sign_8 : decode cX11_sign 8 = .ok (.aload_n 0, 1) := by decide +kernel
theorem dX11_sign_9 : decode cX11_sign 9 = .ok (.getfield 72, 3) := by decide +kernel
theorem dX11_sign_12 : decode cX11_sign 12 = .ok (.invokestatic 190, 3) := by decide +kernel
theorem dX11_sign_15 : decode cX11_sign 15 = .ok (.aload_n 0, 1) := by decide +kernel
theorem dX11_sign_16 : decode cX11_sign 16 = .ok (.getfield 66, 3) := by decide +kernel
theorem dX11_sign_19 : decode cX11_sign 19 = .ok (.aload_n 0, 1) := by decide +kernel
theorem dX11_sign_20 : decode cX11_sign 20 = .ok (.getfield 63, 3) := by decide +kernel
theorem dX11_sign_23 : decode cX11_sign 23 = .ok (.aload_n 0, 1) := by decide +kernel
theorem dX11_sign_24 : decode cX11_sign 24 = .ok (.getfield 75, 3) := by decide +kernel
theorem dX11_sign_27 : decode cX11_sign 27 = .ok (.invokestatic 190, 3) := by decide +kernel
theorem dX11_sign_30 : decode cX11_sign 30 = .ok (.aload_n 0, 1) := by decide +kernel
theorem dX11_sign_31 : decode cX11_sign 31 = .ok (.getfield 72, 3) := by decide +kernel
theorem dX11_sign_34 : decode cX11_sign 34 = .ok (.aload_n 0, 1) := by decide +kernel
theorem dX11_sign_35 : decode cX11_sign 35 = .ok (.getfield 75, 3) := by decide +kernel
theorem dX11_sign_38 : decode cX11_sign 38 = .ok (.invokestatic 141, 3) := by decide +kernel
theorem dX11_sign_41 : decode cX11_sign 41 = .ok (.ireturn, 1) := by decide +kernel
theorem dX11_signOf_0 : decode cX11_signOf 0 = .ok (.aload_n 0, 1) := by decide +kernel
theorem dX11_signOf_1 : decode cX11_signOf 1 = .ok (.iload_n 1, 1) := by decide +kernel
theorem dX11_signOf_2 : decode cX11_signOf 2 = .ok (.aload_n 0, 1) := by decide +kernel
theorem dX11_signOf_3 : decode cX11_signOf 3 = .ok (.getfield 60, 3) := by decide +kernel
theorem dX11_signOf_6 : decode cX11_signOf 6 = .ok (.aload_n 0, 1) := by decide +kernel
theorem dX11_signOf_7 : decode cX11_signOf 7 = .ok (.getfield 63, 3) := by decide +kernel
theorem dX11_signOf_10 : decode cX11_signOf 10 = .ok (.invokevirtual 203, 3) := by decide +kernel
theorem dX11_signOf_13 : decode cX11_signOf 13 = .ok (.aload_n 0, 1) := by decide +kernel
theorem dX11_signOf_14 : decode cX11_signOf 14 = .ok (.iload_n 2, 1) := by decide +kernel
theorem dX11_signOf_15 : decode cX11_signOf 15 = .ok (.aload_n 0, 1) := by decide +kernel
theorem dX11_signOf_16 : decode cX11_signOf 16 = .ok (.getfield 66, 3) := by decide +kernel
theorem dX11_signOf_19 : decode cX11_signOf 19 = .ok (.aload_n 0, 1) := by decide +kernel
theorem dX11_signOf_20 : decode cX11_signOf 20 = .ok (.getfield 69, 3) := by decide +kernel
theorem dX11_signOf_23 : decode cX11_signOf 23 = .ok (.invokevirtual 203, 3) := by decide +kernel
theorem dX11_signOf_26 : decode cX11_signOf 26 = .ok (.aload_n 0, 1) := by decide +kernel
theorem dX11_signOf_27 : decode cX11_signOf 27 = .ok (.invokevirtual 207, 3) := by decide +kernel
theorem dX11_signOf_30 : decode cX11_signOf 30 = .ok (.ireturn, 1) := by decide +kernel
theorem dX11_isSet_0 : decode cX11_isSet 0 = .ok (.iload_n 1, 1) := by decide +kernel
theorem dX11_isSet_1 : decode cX11_isSet 1 = .ok (.ifCond .lt 17, 3) := by decide +kernel
theorem dX11_isSet_4 : decode cX11_isSet 4 = .ok (.iload_n 1, 1) := by decide +kernel
theorem dX11_isSet_5 : decode cX11_isSet 5 = .ok (.iconst 1, 1) := by decide +kernel
theorem dX11_isSet_6 : decode cX11_isSet 6 = .ok (.aload_n 0, 1) := by decide +kernel
theorem dX11_isSet_7 : decode cX11_isSet 7 = .ok (.getfield 160, 3) := by decide +kernel
theorem dX11_isSet_10 : decode cX11_isSet 10 = .ok (.ishl, 1) := by decide +kernel
theorem dX11_isSet_11 : decode cX11_isSet 11 = .ok (.if_icmp .ge 7, 3) := by decide +kernel
theorem dX11_isSet_14 : decode cX11_isSet 14 = .ok (.iconst 1, 1) := by decide +kernel
theorem dX11_isSet_15 : decode cX11_isSet 15 = .ok (.goto 4, 3) := by decide +kernel
theorem dX11_isSet_18 : decode cX11_isSet 18 = .ok (.iconst 0, 1) := by decide +kernel
theorem dX11_isSet_19 : decode cX11_isSet 19 = .ok (.ireturn, 1) := by decide +kernel
theorem dX11_isName_0 : decode cX11_isName 0 = .ok (.iload_n 1, 1) := by decide +kernel
theorem dX11_isName_1 : decode cX11_isName 1 = .ok (.ifCond .lt 15, 3) := by decide +kernel
theorem dX11_isName_4 : decode cX11_isName 4 = .ok (.iload_n 1, 1) := by decide +kernel
theorem dX11_isName_5 : decode cX11_isName 5 = .ok (.aload_n 0, 1) := by decide +kernel
theorem dX11_isName_6 : decode cX11_isName 6 = .ok (.getfield 160, 3) := by decide +kernel
theorem dX11_isName_9 : decode cX11_isName 9 = .ok (.if_icmp .ge 7, 3) := by decide +kernel
theorem dX11_isName_12 : decode cX11_isName 12 = .ok (.iconst 1, 1) := by decide +kernel
theorem dX11_isName_13 : decode cX11_isName 13 = .ok (.goto 4, 3) := by decide +kernel
theorem dX11_isName_16 : decode cX11_isName 16 = .ok (.iconst 0, 1) := by decide +kernel
theorem dX11_isName_17 : decode cX11_isName 17 = .ok (.ireturn, 1) := by decide +kernel
theorem dX11_isGraph_0 : decode cX11_isGraph 0 = .ok (.iload_n 1, 1) := by decide +kernel
theorem dX11_isGraph_1 : decode cX11_isGraph 1 = .ok (.ifCond .lt 9, 3) := by decide +kernel
theorem dX11_isGraph_4 : decode cX11_isGraph 4 = .ok (.iload_n 1, 1) := by decide +kernel
theorem dX11_isGraph_5 : decode cX11_isGraph 5 = .ok (.ldc 211, 2) := by decide +kernel
theorem dX11_isGraph_7 : decode cX11_isGraph 7 = .ok (.if_icmp .lt 5, 3) := by decide +kernel
theorem dX11_isGraph_10 : decode cX11_isGraph 10 = .ok (.iconst 0, 1) := by decide +kernel
theorem dX11_isGraph_11 : decode cX11_isGraph 11 = .ok (.ireturn, 1) := by decide +kernel
theorem dX11_isGraph_12 : decode cX11_isGraph 12 = .ok (.iconst 0, 1) := by decide +kernel
theorem dX11_isGraph_13 : decode cX11_isGraph 13 = .ok (.istore_n 2, 1) := by decide +kernel
theorem dX11_isGraph_14 : decode cX11_isGraph 14 = .ok (.iload_n 2, 1) := by decide +kernel
theorem dX11_isGraph_15 : decode cX11_isGraph 15 = .ok (.iconst 5, 1) := by decide +kernel
theorem dX11_isGraph_16 : decode cX11_isGraph 16 = .ok (.if_icmp .ge 49, 3) := by decide +kernel
theorem dX11_isGraph_19 : decode cX11_isGraph 19 = .ok (.iload_n 1, 1) := by decide +kernel
theorem dX11_isGraph_20 : decode cX11_isGraph 20 = .ok (.iconst 5, 1) := by decide +kernel
theorem dX11_isGraph_21 : decode cX11_isGraph 21 = .ok (.iload_n 2, 1) := by decide +kernel
theorem dX11_isGraph_22 : decode cX11_isGraph 22 = .ok (.imul, 1) := by decide +kernel
theorem dX11_isGraph_23 : decode cX11_isGraph 23 = .ok (.ishr, 1) := by decide +kernel
theorem dX11_isGraph_24 : decode cX11_isGraph 24 = .ok (.bipush 31, 2) := by decide +kernel
theorem dX11_isGraph_26 : decode cX11_isGraph 26 = .ok (.iand, 1) := by decide +kernel
theorem dX11_isGraph_27 : decode cX11_isGraph 27 = .ok (.istore_n 3, 1) := by decide +kernel
theorem dX11_isGraph_28 : decode cX11_isGraph 28 = .ok (.iload_n 3, 1) := by decide +kernel
theorem dX11_isGraph_29 : decode cX11_isGraph 29 = .ok (.ifCond .eq 30, 3) := by decide +kernel
theorem dX11_isGraph_32 : decode cX11_isGraph 32 = .ok (.iload_n 2, 1) := by decide +kernel
theorem dX11_isGraph_33 : decode cX11_isGraph 33 = .ok (.aload_n 0, 1) := by decide +kernel
theorem dX11_isGraph_34 : decode cX11_isGraph 34 = .ok (.getfield 160, 3) := by decide +kernel
theorem dX11_isGraph_37 : decode cX11_isGraph 37 = .ok (.if_icmp .ge 20, 3) := by decide +kernel
theorem dX11_isGraph_40 : decode cX11_isGraph 40 = .ok (.aload_n 0, 1) := by decide +kernel
theorem dX11_isGraph_41 : decode cX11_isGraph 41 = .ok (.iload_n 3, 1) := by decide +kernel
theorem dX11_isGraph_42 : decode cX11_isGraph 42 = .ok (.invokevirtual 212, 3) := by decide +kernel
theorem dX11_isGraph_45 : decode cX11_isGraph 45 = .ok (.ifCond .eq 12, 3) := by decide +kernel
theorem dX11_isGraph_48 : decode cX11_isGraph 48 = .ok (.iload_n 3, 1) := by decide +kernel
theorem dX11_isGraph_49 : decode cX11_isGraph 49 = .ok (.iload_n 2, 1) := by decide +kernel
theorem dX11_isGraph_50 : decode cX11_isGraph 50 = .ok (.ishr, 1) := by decide +kernel
theorem dX11_isGraph_51 : decode cX11_isGraph 51 = .ok (.iconst 1, 1) := by decide +kernel
theorem dX11_isGraph_52 : decode cX11_isGraph 52 = .ok (.iand, 1) := by decide +kernel
theorem dX11_isGraph_53 : decode cX11_isGraph 53 = .ok (.iconst 1, 1) := by decide +kernel
theorem dX11_isGraph_54 : decode cX11_isGraph 54 = .ok (.if_icmp .ne 5, 3) := by decide +kernel
theorem dX11_isGraph_57 : decode cX11_isGraph 57 = .ok (.iconst 0, 1) := by decide +kernel
theorem dX11_isGraph_58 : decode cX11_isGraph 58 = .ok (.ireturn, 1) := by decide +kernel
theorem dX11_isGraph_59 : decode cX11_isGraph 59 = .ok (.iinc 2 1, 3) := by decide +kernel
theorem dX11_isGraph_62 : decode cX11_isGraph 62 = .ok (.goto (-48), 3) := by decide +kernel
theorem dX11_isGraph_65 : decode cX11_isGraph 65 = .ok (.iconst 0, 1) := by decide +kernel
theorem dX11_isGraph_66 : decode cX11_isGraph 66 = .ok (.istore_n 2, 1) := by decide +kernel
theorem dX11_isGraph_67 : decode cX11_isGraph 67 = .ok (.iconst 0, 1) := by decide +kernel
theorem dX11_isGraph_68 : decode cX11_isGraph 68 = .ok (.istore_n 3, 1) := by decide +kernel
theorem dX11_isGraph_69 : decode cX11_isGraph 69 = .ok (.iload_n 3, 1) := by decide +kernel
theorem dX11_isGraph_70 : decode cX11_isGraph 70 = .ok (.aload_n 0, 1) := by decide +kernel
theorem dX11_isGraph_71 : decode cX11_isGraph 71 = .ok (.getfield 160, 3) := by decide +kernel
theorem dX11_isGraph_74 : decode cX11_isGraph 74 = .ok (.if_icmp .ge 51, 3) := by decide +kernel
theorem dX11_isGraph_77 : decode cX11_isGraph 77 = .ok (.iconst 0, 1) := by decide +kernel
theorem dX11_isGraph_78 : decode cX11_isGraph 78 = .ok (.istore 4, 2) := by decide +kernel
theorem dX11_isGraph_80 : decode cX11_isGraph 80 = .ok (.iload 4, 2) := by decide +kernel
theorem dX11_isGraph_82 : decode cX11_isGraph 82 = .ok (.aload_n 0, 1) := by decide +kernel
theorem dX11_isGraph_83 : decode cX11_isGraph 83 = .ok (.getfield 160, 3) := by decide +kernel
theorem dX11_isGraph_86 : decode cX11_isGraph 86 = .ok (.if_icmp .ge 33, 3) := by decide +kernel
theorem dX11_isGraph_89 : decode cX11_isGraph 89 = .ok (.iload_n 2, 1) := by decide +kernel
theorem dX11_isGraph_90 : decode cX11_isGraph 90 = .ok (.iload_n 1, 1) := by decide +kernel
theorem dX11_isGraph_91 : decode cX11_isGraph 91 = .ok (.iload 4, 2) := by decide +kernel
theorem dX11_isGraph_93 : decode cX11_isGraph 93 = .ok (.invokestatic 194, 3) := by decide +kernel
theorem dX11_isGraph_96 : decode cX11_isGraph 96 = .ok (.iload_n 2, 1) := by decide +kernel
theorem dX11_isGraph_97 : decode cX11_isGraph 97 = .ok (.iconst (-1), 1) := by decide +kernel
theorem dX11_isGraph_98 : decode cX11_isGraph 98 = .ok (.ixor, 1) := by decide +kernel
theorem dX11_isGraph_99 : decode cX11_isGraph 99 = .ok (.iand, 1) := by decide +kernel
theorem dX11_isGraph_100 : decode cX11_isGraph 100 = .ok (.ifCond .ne 10, 3) := by decide +kernel
theorem dX11_isGraph_103 : decode cX11_isGraph 103 = .ok (.iconst 1, 1) := by decide +kernel
theorem dX11_isGraph_104 : decode cX11_isGraph 104 = .ok (.iload 4, 2) := by decide +kernel
theorem dX11_isGraph_106 : decode cX11_isGraph 106 = .ok (.ishl, 1) := by decide +kernel
theorem dX11_isGraph_107 : decode cX11_isGraph 107 = .ok (.goto 4, 3) := by decide +kernel
theorem dX11_isGraph_110 : decode cX11_isGraph 110 = .ok (.iconst 0, 1) := by decide +kernel
theorem dX11_isGraph_111 : decode cX11_isGraph 111 = .ok (.ior, 1) := by decide +kernel
theorem dX11_isGraph_112 : decode cX11_isGraph 112 = .ok (.istore_n 2, 1) := by decide +kernel
theorem dX11_isGraph_113 : decode cX11_isGraph 113 = .ok (.iinc 4 1, 3) := by decide +kernel
theorem dX11_isGraph_116 : decode cX11_isGraph 116 = .ok (.goto (-36), 3) := by decide +kernel
theorem dX11_isGraph_119 : decode cX11_isGraph 119 = .ok (.iinc 3 1, 3) := by decide +kernel
theorem dX11_isGraph_122 : decode cX11_isGraph 122 = .ok (.goto (-53), 3) := by decide +kernel
theorem dX11_isGraph_125 : decode cX11_isGraph 125 = .ok (.iload_n 2, 1) := by decide +kernel
theorem dX11_isGraph_126 : decode cX11_isGraph 126 = .ok (.iconst 1, 1) := by decide +kernel
theorem dX11_isGraph_127 : decode cX11_isGraph 127 = .ok (.aload_n 0, 1) := by decide +kernel
theorem dX11_isGraph_128 : decode cX11_isGraph 128 = .ok (.getfield 160, 3) := by decide +kernel
theorem dX11_isGraph_131 : decode cX11_isGraph 131 = .ok (.ishl, 1) := by decide +kernel
theorem dX11_isGraph_132 : decode cX11_isGraph 132 = .ok (.iconst 1, 1) := by decide +kernel
theorem dX11_isGraph_133 : decode cX11_isGraph 133 = .ok (.isub, 1) := by decide +kernel
theorem dX11_isGraph_134 : decode cX11_isGraph 134 = .ok (.if_icmp .ne 7, 3) := by decide +kernel
theorem dX11_isGraph_137 : decode cX11_isGraph 137 = .ok (.iconst 1, 1) := by decide +kernel
theorem dX11_isGraph_138 : decode cX11_isGraph 138 = .ok (.goto 4, 3) := by decide +kernel
theorem dX11_isGraph_141 : decode cX11_isGraph 141 = .ok (.iconst 0, 1) := by decide +kernel
theorem dX11_isGraph_142 : decode cX11_isGraph 142 = .ok (.ireturn, 1) := by decide +kernel
theorem dX11_isBounded_0 : decode cX11_isBounded 0 = .ok (.iconst 1, 1) := by decide +kernel
theorem dX11_isBounded_1 : decode cX11_isBounded 1 = .ok (.istore_n 2, 1) := by decide +kernel
theorem dX11_isBounded_2 : decode cX11_isBounded 2 = .ok (.iconst 0, 1) := by decide +kernel
theorem dX11_isBounded_3 : decode cX11_isBounded 3 = .ok (.istore_n 3, 1) := by decide +kernel
theorem dX11_isBounded_4 : decode cX11_isBounded 4 = .ok (.iload_n 3, 1) := by decide +kernel
theorem dX11_isBounded_5 : decode cX11_isBounded 5 = .ok (.aload_n 0, 1) := by decide +kernel
theorem dX11_isBounded_6 : decode cX11_isBounded 6 = .ok (.getfield 160, 3) := by decide +kernel
theorem dX11_isBounded_9 : decode cX11_isBounded 9 = .ok (.if_icmp .ge 34, 3) := by decide +kernel
theorem dX11_isBounded_12 : decode cX11_isBounded 12 = .ok (.iload_n 2, 1) := by decide +kernel
theorem dX11_isBounded_13 : decode cX11_isBounded 13 = .ok (.ifCond .eq 22, 3) := by decide +kernel
theorem dX11_isBounded_16 : decode cX11_isBounded 16 = .ok (.iload_n 1, 1) := by decide +kernel
theorem dX11_isBounded_17 : decode cX11_isBounded 17 = .ok (.iload_n 3, 1) := by decide +kernel
theorem dX11_isBounded_18 : decode cX11_isBounded 18 = .ok (.invokestatic 194, 3) := by decide +kernel
theorem dX11_isBounded_21 : decode cX11_isBounded 21 = .ok (.invokestatic 216, 3) := by decide +kernel
theorem dX11_isBounded_24 : decode cX11_isBounded 24 = .ok (.aload_n 0, 1) := by decide +kernel
theorem dX11_isBounded_25 : decode cX11_isBounded 25 = .ok (.getfield 20, 3) := by decide +kernel
theorem dX11_isBounded_28 : decode cX11_isBounded 28 = .ok (.if_icmp .gt 7, 3) := by decide +kernel
theorem dX11_isBounded_31 : decode cX11_isBounded 31 = .ok (.iconst 1, 1) := by decide +kernel
theorem dX11_isBounded_32 : decode cX11_isBounded 32 = .ok (.goto 4, 3) := by decide +kernel
theorem dX11_isBounded_35 : decode cX11_isBounded 35 = .ok (.iconst 0, 1) := by decide +kernel
theorem dX11_isBounded_36 : decode cX11_isBounded 36 = .ok (.istore_n 2, 1) := by decide +kernel
theorem dX11_isBounded_37 : decode cX11_isBounded 37 = .ok (.iinc 3 1, 3) := by decide +kernel
theorem dX11_isBounded_40 : decode cX11_isBounded 40 = .ok (.goto (-36), 3) := by decide +kernel
theorem dX11_isBounded_43 : decode cX11_isBounded 43 = .ok (.iload_n 2, 1) := by decide +kernel
theorem dX11_isBounded_44 : decode cX11_isBounded 44 = .ok (.ireturn, 1) := by decide +kernel
theorem dX11_has_0 : decode cX11_has 0 = .ok (.iload_n 0, 1) := by decide +kernel
theorem dX11_has_1 : decode cX11_has 1 = .ok (.iconst 5, 1) := by decide +kernel
theorem dX11_has_2 : decode cX11_has 2 = .ok (.iload_n 1, 1) := by decide +kernel
theorem dX11_has_3 : decode cX11_has 3 = .ok (.imul, 1) := by decide +kernel
theorem dX11_has_4 : decode cX11_has 4 = .ok (.iload_n 2, 1) := by decide +kernel
theorem dX11_has_5 : decode cX11_has 5 = .ok (.iadd, 1) := by decide +kernel
theorem dX11_has_6 : decode cX11_has 6 = .ok (.ishr, 1) := by decide +kernel
theorem dX11_has_7 : decode cX11_has 7 = .ok (.iconst 1, 1) := by decide +kernel
theorem dX11_has_8 : decode cX11_has 8 = .ok (.iand, 1) := by decide +kernel
theorem dX11_has_9 : decode cX11_has 9 = .ok (.iconst 1, 1) := by decide +kernel
theorem dX11_has_10 : decode cX11_has 10 = .ok (.if_icmp .ne 7, 3) := by decide +kernel
theorem dX11_has_13 : decode cX11_has 13 = .ok (.iconst 1, 1) := by decide +kernel
theorem dX11_has_14 : decode cX11_has 14 = .ok (.goto 4, 3) := by decide +kernel
theorem dX11_has_17 : decode cX11_has 17 = .ok (.iconst 0, 1) := by decide +kernel
theorem dX11_has_18 : decode cX11_has 18 = .ok (.ireturn, 1) := by decide +kernel
theorem dX11_touch_0 : decode cX11_touch 0 = .ok (.iload_n 0, 1) := by decide +kernel
theorem dX11_touch_1 : decode cX11_touch 1 = .ok (.iload_n 1, 1) := by decide +kernel
theorem dX11_touch_2 : decode cX11_touch 2 = .ok (.iload_n 2, 1) := by decide +kernel
theorem dX11_touch_3 : decode cX11_touch 3 = .ok (.invokestatic 220, 3) := by decide +kernel
theorem dX11_touch_6 : decode cX11_touch 6 = .ok (.ifCond .ne 12, 3) := by decide +kernel
theorem dX11_touch_9 : decode cX11_touch 9 = .ok (.iload_n 0, 1) := by decide +kernel
theorem dX11_touch_10 : decode cX11_touch 10 = .ok (.iload_n 2, 1) := by decide +kernel
theorem dX11_touch_11 : decode cX11_touch 11 = .ok (.iload_n 1, 1) := by decide +kernel
theorem dX11_touch_12 : decode cX11_touch 12 = .ok (.invokestatic 220, 3) := by decide +kernel
theorem dX11_touch_15 : decode cX11_touch 15 = .ok (.ifCond .eq 7, 3) := by decide +kernel
theorem dX11_touch_18 : decode cX11_touch 18 = .ok (.iconst 1, 1) := by decide +kernel
theorem dX11_touch_19 : decode cX11_touch 19 = .ok (.goto 4, 3) := by decide +kernel
theorem dX11_touch_22 : decode cX11_touch 22 = .ok (.iconst 0, 1) := by decide +kernel
theorem dX11_touch_23 : decode cX11_touch 23 = .ok (.ireturn, 1) := by decide +kernel
theorem dX11_isAlike_0 : decode cX11_isAlike 0 = .ok (.iconst 1, 1) := by decide +kernel
theorem dX11_isAlike_1 : decode cX11_isAlike 1 = .ok (.istore_n 2, 1) := by decide +kernel
theorem dX11_isAlike_2 : decode cX11_isAlike 2 = .ok (.iconst 0, 1) := by decide +kernel
theorem dX11_isAlike_3 : decode cX11_isAlike 3 = .ok (.istore_n 3, 1) := by decide +kernel
theorem dX11_isAlike_4 : decode cX11_isAlike 4 = .ok (.iload_n 3, 1) := by decide +kernel
theorem dX11_isAlike_5 : decode cX11_isAlike 5 = .ok (.iconst 5, 1) := by decide +kernel
theorem dX11_isAlike_6 : decode cX11_isAlike 6 = .ok (.if_icmp .ge 143, 3) := by decide +kernel
theorem dX11_isAlike_9 : decode cX11_isAlike 9 = .ok (.iload_n 3, 1) := by decide +kernel
theorem dX11_isAlike_10 : decode cX11_isAlike 10 = .ok (.iconst 1, 1) := by decide +kernel
theorem dX11_isAlike_11 : decode cX11_isAlike 11 = .ok (.iadd, 1) := by decide +kernel
theorem dX11_isAlike_12 : decode cX11_isAlike 12 = .ok (.istore 4, 2) := by decide +kernel
theorem dX11_isAlike_14 : decode cX11_isAlike 14 = .ok (.iload 4, 2) := by decide +kernel
theorem dX11_isAlike_16 : decode cX11_isAlike 16 = .ok (.iconst 5, 1) := by decide +kernel
theorem dX11_isAlike_17 : decode cX11_isAlike 17 = .ok (.if_icmp .ge 126, 3) := by decide +kernel
theorem dX11_isAlike_20 : decode cX11_isAlike 20 = .ok (.iload_n 2, 1) := by decide +kernel
theorem dX11_isAlike_21 : decode cX11_isAlike 21 = .ok (.ifCond .eq 24, 3) := by decide +kernel
theorem dX11_isAlike_24 : decode cX11_isAlike 24 = .ok (.iload_n 0, 1) := by decide +kernel
theorem dX11_isAlike_25 : decode cX11_isAlike 25 = .ok (.iload_n 3, 1) := by decide +kernel
theorem dX11_isAlike_26 : decode cX11_isAlike 26 = .ok (.iload 4, 2) := by decide +kernel
theorem dX11_isAlike_28 : decode cX11_isAlike 28 = .ok (.invokestatic 223, 3) := by decide +kernel
theorem dX11_isAlike_31 : decode cX11_isAlike 31 = .ok (.iload_n 1, 1) := by decide +kernel
theorem dX11_isAlike_32 : decode cX11_isAlike 32 = .ok (.iload_n 3, 1) := by decide +kernel
theorem dX11_isAlike_33 : decode cX11_isAlike 33 = .ok (.iload 4, 2) := by decide +kernel
theorem dX11_isAlike_35 : decode cX11_isAlike 35 = .ok (.invokestatic 223, 3) := by decide +kernel
theorem dX11_isAlike_38 : decode cX11_isAlike 38 = .ok (.if_icmp .ne 7, 3) := by decide +kernel
theorem dX11_isAlike_41 : decode cX11_isAlike 41 = .ok (.iconst 1, 1) := by decide +kernel
theorem dX11_isAlike_42 : decode cX11_isAlike 42 = .ok (.goto 4, 3) := by decide +kernel
theorem dX11_isAlike_45 : decode cX11_isAlike 45 = .ok (.iconst 0, 1) := by decide +kernel
theorem dX11_isAlike_46 : decode cX11_isAlike 46 = .ok (.istore_n 2, 1) := by decide +kernel
theorem dX11_isAlike_47 : decode cX11_isAlike 47 = .ok (.iconst 0, 1) := by decide +kernel
theorem dX11_isAlike_48 : decode cX11_isAlike 48 = .ok (.istore 5, 2) := by decide +kernel
theorem dX11_isAlike_50 : decode cX11_isAlike 50 = .ok (.iload 5, 2) := by decide +kernel
theorem dX11_isAlike_52 : decode cX11_isAlike 52 = .ok (.iconst 5, 1) := by decide +kernel
theorem dX11_isAlike_53 : decode cX11_isAlike 53 = .ok (.if_icmp .ge 84, 3) := by decide +kernel
theorem dX11_isAlike_56 : decode cX11_isAlike 56 = .ok (.iload_n 0, 1) := by decide +kernel
theorem dX11_isAlike_57 : decode cX11_isAlike 57 = .ok (.iload_n 3, 1) := by decide +kernel
theorem dX11_isAlike_58 : decode cX11_isAlike 58 = .ok (.iload 4, 2) := by decide +kernel
theorem dX11_isAlike_60 : decode cX11_isAlike 60 = .ok (.invokestatic 223, 3) := by decide +kernel
theorem dX11_isAlike_63 : decode cX11_isAlike 63 = .ok (.ifCond .ne 74, 3) := by decide +kernel
theorem dX11_isAlike_66 : decode cX11_isAlike 66 = .ok (.iload_n 2, 1) := by decide +kernel
theorem dX11_isAlike_67 : decode cX11_isAlike 67 = .ok (.ifCond .eq 62, 3) := by decide +kernel
theorem dX11_isAlike_70 : decode cX11_isAlike 70 = .ok (.iload_n 0, 1) := by decide +kernel
theorem dX11_isAlike_71 : decode cX11_isAlike 71 = .ok (.iload_n 3, 1) := by decide +kernel
theorem dX11_isAlike_72 : decode cX11_isAlike 72 = .ok (.iload 5, 2) := by decide +kernel
theorem dX11_isAlike_74 : decode cX11_isAlike 74 = .ok (.invokestatic 220, 3) := by decide +kernel
theorem dX11_isAlike_77 : decode cX11_isAlike 77 = .ok (.ifCond .eq 18, 3) := by decide +kernel
theorem dX11_isAlike_80 : decode cX11_isAlike 80 = .ok (.iload_n 0, 1) := by decide +kernel
theorem dX11_isAlike_81 : decode cX11_isAlike 81 = .ok (.iload 4, 2) := by decide +kernel
theorem dX11_isAlike_83 : decode cX11_isAlike 83 = .ok (.iload 5, 2) := by decide +kernel
theorem dX11_isAlike_85 : decode cX11_isAlike 85 = .ok (.invokestatic 220, 3) := by decide +kernel
theorem dX11_isAlike_88 : decode cX11_isAlike 88 = .ok (.ifCond .eq 7, 3) := by decide +kernel
theorem dX11_isAlike_91 : decode cX11_isAlike 91 = .ok (.iconst 1, 1) := by decide +kernel
theorem dX11_isAlike_92 : decode cX11_isAlike 92 = .ok (.goto 4, 3) := by decide +kernel
theorem dX11_isAlike_95 : decode cX11_isAlike 95 = .ok (.iconst 0, 1) := by decide +kernel
theorem dX11_isAlike_96 : decode cX11_isAlike 96 = .ok (.iload_n 1, 1) := by decide +kernel
theorem dX11_isAlike_97 : decode cX11_isAlike 97 = .ok (.iload_n 3, 1) := by decide +kernel
theorem dX11_isAlike_98 : decode cX11_isAlike 98 = .ok (.iload 5, 2) := by decide +kernel
theorem dX11_isAlike_100 : decode cX11_isAlike 100 = .ok (.invokestatic 220, 3) := by decide +kernel
theorem dX11_isAlike_103 : decode cX11_isAlike 103 = .ok (.ifCond .eq 18, 3) := by decide +kernel
theorem dX11_isAlike_106 : decode cX11_isAlike 106 = .ok (.iload_n 1, 1) := by decide +kernel
theorem dX11_isAlike_107 : decode cX11_isAlike 107 = .ok (.iload 4, 2) := by decide +kernel
theorem dX11_isAlike_109 : decode cX11_isAlike 109 = .ok (.iload 5, 2) := by decide +kernel
theorem dX11_isAlike_111 : decode cX11_isAlike 111 = .ok (.invokestatic 220, 3) := by decide +kernel
theorem dX11_isAlike_114 : decode cX11_isAlike 114 = .ok (.ifCond .eq 7, 3) := by decide +kernel
theorem dX11_isAlike_117 : decode cX11_isAlike 117 = .ok (.iconst 1, 1) := by decide +kernel
theorem dX11_isAlike_118 : decode cX11_isAlike 118 = .ok (.goto 4, 3) := by decide +kernel
theorem dX11_isAlike_121 : decode cX11_isAlike 121 = .ok (.iconst 0, 1) := by decide +kernel
theorem dX11_isAlike_122 : decode cX11_isAlike 122 = .ok (.if_icmp .ne 7, 3) := by decide +kernel
theorem dX11_isAlike_125 : decode cX11_isAlike 125 = .ok (.iconst 1, 1) := by decide +kernel
theorem dX11_isAlike_126 : decode cX11_isAlike 126 = .ok (.goto 4, 3) := by decide +kernel
theorem dX11_isAlike_129 : decode cX11_isAlike 129 = .ok (.iconst 0, 1) := by decide +kernel
theorem dX11_isAlike_130 : decode cX11_isAlike 130 = .ok (.istore_n 2, 1) := by decide +kernel
theorem dX11_isAlike_131 : decode cX11_isAlike 131 = .ok (.iinc 5 1, 3) := by decide +kernel
theorem dX11_isAlike_134 : decode cX11_isAlike 134 = .ok (.goto (-84), 3) := by decide +kernel
theorem dX11_isAlike_137 : decode cX11_isAlike 137 = .ok (.iinc 4 1, 3) := by decide +kernel
theorem dX11_isAlike_140 : decode cX11_isAlike 140 = .ok (.goto (-126), 3) := by decide +kernel
theorem dX11_isAlike_143 : decode cX11_isAlike 143 = .ok (.iinc 3 1, 3) := by decide +kernel
theorem dX11_isAlike_146 : decode cX11_isAlike 146 = .ok (.goto (-142), 3) := by decide +kernel
theorem dX11_isAlike_149 : decode cX11_isAlike 149 = .ok (.iload_n 2, 1) := by decide +kernel
theorem dX11_isAlike_150 : decode cX11_isAlike 150 = .ok (.ireturn, 1) := by decide +kernel
theorem dX11_change_0 : decode cX11_change 0 = .ok (.iconst 0, 1) := by decide +kernel
theorem dX11_change_1 : decode cX11_change 1 = .ok (.istore_n 1, 1) := by decide +kernel
theorem dX11_change_2 : decode cX11_change 2 = .ok (.iload_n 1, 1) := by decide +kernel
theorem dX11_change_3 : decode cX11_change 3 = .ok (.sipush 160, 3) := by decide +kernel
theorem dX11_change_6 : decode cX11_change 6 = .ok (.if_icmp .ge 16, 3) := by decide +kernel
theorem dX11_change_9 : decode cX11_change 9 = .ok (.aload_n 0, 1) := by decide +kernel
theorem dX11_change_10 : decode cX11_change 10 = .ok (.getfield 38, 3) := by decide +kernel
theorem dX11_change_13 : decode cX11_change 13 = .ok (.iload_n 1, 1) := by decide +kernel
theorem dX11_change_14 : decode cX11_change 14 = .ok (.iconst 0, 1) := by decide +kernel
theorem dX11_change_15 : decode cX11_change 15 = .ok (.bastore, 1) := by decide +kernel
theorem dX11_change_16 : decode cX11_change 16 = .ok (.iinc 1 1, 3) := by decide +kernel
theorem dX11_change_19 : decode cX11_change 19 = .ok (.goto (-17), 3) := by decide +kernel
theorem dX11_change_22 : decode cX11_change 22 = .ok (.aload_n 0, 1) := by decide +kernel
theorem dX11_change_23 : decode cX11_change 23 = .ok (.iconst (-1), 1) := by decide +kernel
theorem dX11_change_24 : decode cX11_change 24 = .ok (.putfield 78, 3) := by decide +kernel
theorem dX11_change_27 : decode cX11_change 27 = .ok (.aload_n 0, 1) := by decide +kernel
theorem dX11_change_28 : decode cX11_change 28 = .ok (.iconst (-1), 1) := by decide +kernel
theorem dX11_change_29 : decode cX11_change 29 = .ok (.putfield 81, 3) := by decide +kernel
theorem dX11_change_32 : decode cX11_change 32 = .ok (.return_, 1) := by decide +kernel
theorem dX11_clear_0 : decode cX11_clear 0 = .ok (.aload_n 0, 1) := by decide +kernel
theorem dX11_clear_1 : decode cX11_clear 1 = .ok (.getfield 179, 3) := by decide +kernel
theorem dX11_clear_4 : decode cX11_clear 4 = .ok (.istore_n 1, 1) := by decide +kernel
theorem dX11_clear_5 : decode cX11_clear 5 = .ok (.aload_n 0, 1) := by decide +kernel
theorem dX11_clear_6 : decode cX11_clear 6 = .ok (.iconst 0, 1) := by decide +kernel
theorem dX11_clear_7 : decode cX11_clear 7 = .ok (.putfield 160, 3) := by decide +kernel
theorem dX11_clear_10 : decode cX11_clear 10 = .ok (.aload_n 0, 1) := by decide +kernel
theorem dX11_clear_11 : decode cX11_clear 11 = .ok (.iconst 0, 1) := by decide +kernel
theorem dX11_clear_12 : decode cX11_clear 12 = .ok (.putfield 179, 3) := by decide +kernel
theorem dX11_clear_15 : decode cX11_clear 15 = .ok (.aload_n 0, 1) := by decide +kernel
theorem dX11_clear_16 : decode cX11_clear 16 = .ok (.iconst 1, 1) := by decide +kernel
theorem dX11_clear_17 : decode cX11_clear 17 = .ok (.putfield 16, 3) := by decide +kernel
theorem dX11_clear_20 : decode cX11_clear 20 = .ok (.aload_n 0, 1) := by decide +kernel
theorem dX11_clear_21 : decode cX11_clear 21 = .ok (.iconst 4, 1) := by decide +kernel
theorem dX11_clear_22 : decode cX11_clear 22 = .ok (.putfield 20, 3) := by decide +kernel
theorem dX11_clear_25 : decode cX11_clear 25 = .ok (.aload_n 0, 1) := by decide +kernel
theorem dX11_clear_26 : decode cX11_clear 26 = .ok (.invokevirtual 226, 3) := by decide +kernel
theorem dX11_clear_29 : decode cX11_clear 29 = .ok (.iload_n 1, 1) := by decide +kernel
theorem dX11_clear_30 : decode cX11_clear 30 = .ok (.ireturn, 1) := by decide +kernel
theorem dX11_name_0 : decode cX11_name 0 = .ok (.iload_n 1, 1) := by decide +kernel
theorem dX11_name_1 : decode cX11_name 1 = .ok (.iconst 2, 1) := by decide +kernel
theorem dX11_name_2 : decode cX11_name 2 = .ok (.if_icmp .eq 10, 3) := by decide +kernel
theorem dX11_name_5 : decode cX11_name 5 = .ok (.iload_n 1, 1) := by decide +kernel
theorem dX11_name_6 : decode cX11_name 6 = .ok (.iconst 3, 1) := by decide +kernel
theorem dX11_name_7 : decode cX11_name 7 = .ok (.if_icmp .eq 5, 3) := by decide +kernel
theorem dX11_name_10 : decode cX11_name 10 = .ok (.iconst (-1), 1) := by decide +kernel
theorem dX11_name_11 : decode cX11_name 11 = .ok (.ireturn, 1) := by decide +kernel
theorem dX11_name_12 : decode cX11_name 12 = .ok (.aload_n 0, 1) := by decide +kernel
theorem dX11_name_13 : decode cX11_name 13 = .ok (.getfield 179, 3) := by decide +kernel
theorem dX11_name_16 : decode cX11_name 16 = .ok (.ifCond .le 6, 3) := by decide +kernel
theorem dX11_name_19 : decode cX11_name 19 = .ok (.bipush (-2), 2) := by decide +kernel
theorem dX11_name_21 : decode cX11_name 21 = .ok (.ireturn, 1) := by decide +kernel
theorem dX11_name_22 : decode cX11_name 22 = .ok (.aload_n 0, 1) := by decide +kernel
theorem dX11_name_23 : decode cX11_name 23 = .ok (.getfield 160, 3) := by decide +kernel
theorem dX11_name_26 : decode cX11_name 26 = .ok (.iconst 5, 1) := by decide +kernel
theorem dX11_name_27 : decode cX11_name 27 = .ok (.if_icmp .ne 6, 3) := by decide +kernel
theorem dX11_name_30 : decode cX11_name 30 = .ok (.bipush (-3), 2) := by decide +kernel
theorem dX11_name_32 : decode cX11_name 32 = .ok (.ireturn, 1) := by decide +kernel
theorem dX11_name_33 : decode cX11_name 33 = .ok (.aload_n 0, 1) := by decide +kernel
theorem dX11_name_34 : decode cX11_name 34 = .ok (.getfield 7, 3) := by decide +kernel
theorem dX11_name_37 : decode cX11_name 37 = .ok (.aload_n 0, 1) := by decide +kernel
theorem dX11_name_38 : decode cX11_name 38 = .ok (.getfield 160, 3) := by decide +kernel
theorem dX11_name_41 : decode cX11_name 41 = .ok (.iload_n 1, 1) := by decide +kernel
theorem dX11_name_42 : decode cX11_name 42 = .ok (.iastore, 1) := by decide +kernel
theorem dX11_name_43 : decode cX11_name 43 = .ok (.aload_n 0, 1) := by decide +kernel
theorem dX11_name_44 : decode cX11_name 44 = .ok (.dup, 1) := by decide +kernel
theorem dX11_name_45 : decode cX11_name 45 = .ok (.getfield 160, 3) := by decide +kernel
theorem dX11_name_48 : decode cX11_name 48 = .ok (.iconst 1, 1) := by decide +kernel
theorem dX11_name_49 : decode cX11_name 49 = .ok (.iadd, 1) := by decide +kernel
theorem dX11_name_50 : decode cX11_name 50 = .ok (.putfield 160, 3) := by decide +kernel
theorem dX11_name_53 : decode cX11_name 53 = .ok (.aload_n 0, 1) := by decide +kernel
theorem dX11_name_54 : decode cX11_name 54 = .ok (.invokevirtual 226, 3) := by decide +kernel
theorem dX11_name_57 : decode cX11_name 57 = .ok (.aload_n 0, 1) := by decide +kernel
theorem dX11_name_58 : decode cX11_name 58 = .ok (.getfield 160, 3) := by decide +kernel
theorem dX11_name_61 : decode cX11_name 61 = .ok (.iconst 1, 1) := by decide +kernel
theorem dX11_name_62 : decode cX11_name 62 = .ok (.isub, 1) := by decide +kernel
theorem dX11_name_63 : decode cX11_name 63 = .ok (.ireturn, 1) := by decide +kernel
theorem dX11_isValue_0 : decode cX11_isValue 0 = .ok (.iload_n 1, 1) := by decide +kernel
theorem dX11_isValue_1 : decode cX11_isValue 1 = .ok (.aload_n 0, 1) := by decide +kernel
theorem dX11_isValue_2 : decode cX11_isValue 2 = .ok (.getfield 160, 3) := by decide +kernel
theorem dX11_isValue_5 : decode cX11_isValue 5 = .ok (.if_icmp .ge 17, 3) := by decide +kernel
theorem dX11_isValue_8 : decode cX11_isValue 8 = .ok (.iload_n 2, 1) := by decide +kernel
theorem dX11_isValue_9 : decode cX11_isValue 9 = .ok (.ifCond .lt 17, 3) := by decide +kernel
theorem dX11_isValue_12 : decode cX11_isValue 12 = .ok (.iload_n 2, 1) := by decide +kernel
theorem dX11_isValue_13 : decode cX11_isValue 13 = .ok (.aload_n 0, 1) := by decide +kernel
theorem dX11_isValue_14 : decode cX11_isValue 14 = .ok (.getfield 7, 3) := by decide +kernel
theorem dX11_isValue_17 : decode cX11_isValue 17 = .ok (.iload_n 1, 1) := by decide +kernel
theorem dX11_isValue_18 : decode cX11_isValue 18 = .ok (.iaload, 1) := by decide +kernel
theorem dX11_isValue_19 : decode cX11_isValue 19 = .ok (.if_icmp .ge 7, 3) := by decide +kernel
theorem dX11_isValue_22 : decode cX11_isValue 22 = .ok (.iconst 1, 1) := by decide +kernel
theorem dX11_isValue_23 : decode cX11_isValue 23 = .ok (.goto 4, 3) := by decide +kernel
theorem dX11_isValue_26 : decode cX11_isValue 26 = .ok (.iconst 0, 1) := by decide +kernel
theorem dX11_isValue_27 : decode cX11_isValue 27 = .ok (.ireturn, 1) := by decide +kernel
theorem dX11_row_0 : decode cX11_row 0 = .ok (.aload_n 0, 1) := by decide +kernel
theorem dX11_row_1 : decode cX11_row 1 = .ok (.iconst 0, 1) := by decide +kernel
theorem dX11_row_2 : decode cX11_row 2 = .ok (.iload_n 1, 1) := by decide +kernel
theorem dX11_row_3 : decode cX11_row 3 = .ok (.invokevirtual 229, 3) := by decide +kernel
theorem dX11_row_6 : decode cX11_row 6 = .ok (.ifCond .eq 41, 3) := by decide +kernel
theorem dX11_row_9 : decode cX11_row 9 = .ok (.aload_n 0, 1) := by decide +kernel
theorem dX11_row_10 : decode cX11_row 10 = .ok (.iconst 1, 1) := by decide +kernel
theorem dX11_row_11 : decode cX11_row 11 = .ok (.iload_n 2, 1) := by decide +kernel
theorem dX11_row_12 : decode cX11_row 12 = .ok (.invokevirtual 229, 3) := by decide +kernel
theorem dX11_row_15 : decode cX11_row 15 = .ok (.ifCond .eq 32, 3) := by decide +kernel
theorem dX11_row_18 : decode cX11_row 18 = .ok (.aload_n 0, 1) := by decide +kernel
theorem dX11_row_19 : decode cX11_row 19 = .ok (.iconst 2, 1) := by decide +kernel
theorem dX11_row_20 : decode cX11_row 20 = .ok (.iload_n 3, 1) := by decide +kernel
theorem dX11_row_21 : decode cX11_row 21 = .ok (.invokevirtual 229, 3) := by decide +kernel
theorem dX11_row_24 : decode cX11_row 24 = .ok (.ifCond .eq 23, 3) := by decide +kernel
theorem dX11_row_27 : decode cX11_row 27 = .ok (.aload_n 0, 1) := by decide +kernel
theorem dX11_row_28 : decode cX11_row 28 = .ok (.iconst 3, 1) := by decide +kernel
theorem dX11_row_29 : decode cX11_row 29 = .ok (.iload 4, 2) := by decide +kernel
theorem dX11_row_31 : decode cX11_row 31 = .ok (.invokevirtual 229, 3) := by decide +kernel
theorem dX11_row_34 : decode cX11_row 34 = .ok (.ifCond .eq 13, 3) := by decide +kernel
theorem dX11_row_37 : decode cX11_row 37 = .ok (.aload_n 0, 1) := by decide +kernel
theorem dX11_row_38 : decode cX11_row 38 = .ok (.iconst 4, 1) := by decide +kernel
theorem dX11_row_39 : decode cX11_row 39 = .ok (.iload 5, 2) := by decide +kernel
theorem dX11_row_41 : decode cX11_row 41 = .ok (.invokevirtual 229, 3) := by decide +kernel
theorem dX11_row_44 : decode cX11_row 44 = .ok (.ifCond .ne 5, 3) := by decide +kernel
theorem dX11_row_47 : decode cX11_row 47 = .ok (.iconst (-1), 1) := by decide +kernel
theorem dX11_row_48 : decode cX11_row 48 = .ok (.ireturn, 1) := by decide +kernel
theorem dX11_row_49 : decode cX11_row 49 = .ok (.aload_n 0, 1) := by decide +kernel
theorem dX11_row_50 : decode cX11_row 50 = .ok (.getfield 160, 3) := by decide +kernel
theorem dX11_row_53 : decode cX11_row 53 = .ok (.ifCond .ne 6, 3) := by decide +kernel
theorem dX11_row_56 : decode cX11_row 56 = .ok (.bipush (-2), 2) := by decide +kernel
theorem dX11_row_58 : decode cX11_row 58 = .ok (.ireturn, 1) := by decide +kernel
theorem dX11_row_59 : decode cX11_row 59 = .ok (.aload_n 0, 1) := by decide +kernel
theorem dX11_row_60 : decode cX11_row 60 = .ok (.getfield 179, 3) := by decide +kernel
theorem dX11_row_63 : decode cX11_row 63 = .ok (.bipush 16, 2) := by decide +kernel
theorem dX11_row_65 : decode cX11_row 65 = .ok (.if_icmp .ne 6, 3) := by decide +kernel
theorem dX11_row_68 : decode cX11_row 68 = .ok (.bipush (-3), 2) := by decide +kernel
theorem dX11_row_70 : decode cX11_row 70 = .ok (.ireturn, 1) := by decide +kernel
theorem dX11_row_71 : decode cX11_row 71 = .ok (.iconst 5, 1) := by decide +kernel
theorem dX11_row_72 : decode cX11_row 72 = .ok (.aload_n 0, 1) := by decide +kernel
theorem dX11_row_73 : decode cX11_row 73 = .ok (.getfield 179, 3) := by decide +kernel
theorem dX11_row_76 : decode cX11_row 76 = .ok (.imul, 1) := by decide +kernel
theorem dX11_row_77 : decode cX11_row 77 = .ok (.istore 6, 2) := by decide +kernel
theorem dX11_row_79 : decode cX11_row 79 = .ok (.aload_n 0, 1) := by decide +kernel
theorem dX11_row_80 : decode cX11_row 80 = .ok (.getfield 13, 3) := by decide +kernel
theorem dX11_row_83 : decode cX11_row 83 = .ok (.iload 6, 2) := by decide +kernel
theorem dX11_row_85 : decode cX11_row 85 = .ok (.iload_n 1, 1) := by decide +kernel
theorem dX11_row_86 : decode cX11_row 86 = .ok (.iastore, 1) := by decide +kernel
theorem dX11_row_87 : decode cX11_row 87 = .ok (.aload_n 0, 1) := by decide +kernel
theorem dX11_row_88 : decode cX11_row 88 = .ok (.getfield 13, 3) := by decide +kernel
theorem dX11_row_91 : decode cX11_row 91 = .ok (.iload 6, 2) := by decide +kernel
theorem dX11_row_93 : decode cX11_row 93 = .ok (.iconst 1, 1) := by decide +kernel
theorem dX11_row_94 : decode cX11_row 94 = .ok (.iadd, 1) := by decide +kernel
theorem dX11_row_95 : decode cX11_row 95 = .ok (.iload_n 2, 1) := by decide +kernel
theorem dX11_row_96 : decode cX11_row 96 = .ok (.iastore, 1) := by decide +kernel
theorem dX11_row_97 : decode cX11_row 97 = .ok (.aload_n 0, 1) := by decide +kernel
theorem dX11_row_98 : decode cX11_row 98 = .ok (.getfield 13, 3) := by decide +kernel
theorem dX11_row_101 : decode cX11_row 101 = .ok (.iload 6, 2) := by decide +kernel
theorem dX11_row_103 : decode cX11_row 103 = .ok (.iconst 2, 1) := by decide +kernel
theorem dX11_row_104 : decode cX11_row 104 = .ok (.iadd, 1) := by decide +kernel
theorem dX11_row_105 : decode cX11_row 105 = .ok (.iload_n 3, 1) := by decide +kernel
theorem dX11_row_106 : decode cX11_row 106 = .ok (.iastore, 1) := by decide +kernel
theorem dX11_row_107 : decode cX11_row 107 = .ok (.aload_n 0, 1) := by decide +kernel
theorem dX11_row_108 : decode cX11_row 108 = .ok (.getfield 13, 3) := by decide +kernel
