theorem dX0_isIn_0 : decode cX0_isIn 0 = .ok (.iload_n 0, 1) := by decide +kernel
theorem dX0_isIn_1 : decode cX0_isIn 1 = .ok (.iload_n 1, 1) := by decide +kernel
theorem dX0_isIn_2 : decode cX0_isIn 2 = .ok (.ishr, 1) := by decide +kernel
theorem dX0_isIn_3 : decode cX0_isIn 3 = .ok (.iconst 1, 1) := by decide +kernel
theorem dX0_isIn_4 : decode cX0_isIn 4 = .ok (.iand, 1) := by decide +kernel
theorem dX0_isIn_5 : decode cX0_isIn 5 = .ok (.iconst 1, 1) := by decide +kernel
theorem dX0_isIn_6 : decode cX0_isIn 6 = .ok (.if_icmp .ne 7, 3) := by decide +kernel
theorem dX0_isIn_9 : decode cX0_isIn 9 = .ok (.iconst 1, 1) := by decide +kernel
theorem dX0_isIn_10 : decode cX0_isIn 10 = .ok (.goto 4, 3) := by decide +kernel
theorem dX0_isIn_13 : decode cX0_isIn 13 = .ok (.iconst 0, 1) := by decide +kernel
theorem dX0_isIn_14 : decode cX0_isIn 14 = .ok (.ireturn, 1) := by decide +kernel
theorem dX0_arc_0 : decode cX0_arc 0 = .ok (.iconst 1, 1) := by decide +kernel
theorem dX0_arc_1 : decode cX0_arc 1 = .ok (.iconst 5, 1) := by decide +kernel
theorem dX0_arc_2 : decode cX0_arc 2 = .ok (.iload_n 0, 1) := by decide +kernel
theorem dX0_arc_3 : decode cX0_arc 3 = .ok (.imul, 1) := by decide +kernel
theorem dX0_arc_4 : decode cX0_arc 4 = .ok (.iload_n 1, 1) := by decide +kernel
theorem dX0_arc_5 : decode cX0_arc 5 = .ok (.iadd, 1) := by decide +kernel
theorem dX0_arc_6 : decode cX0_arc 6 = .ok (.ishl, 1) := by decide +kernel
theorem dX0_arc_7 : decode cX0_arc 7 = .ok (.ireturn, 1) := by decide +kernel
theorem dX0_has_0 : decode cX0_has 0 = .ok (.iload_n 0, 1) := by decide +kernel
theorem dX0_has_1 : decode cX0_has 1 = .ok (.iload_n 1, 1) := by decide +kernel
theorem dX0_has_2 : decode cX0_has 2 = .ok (.iload_n 2, 1) := by decide +kernel
theorem dX0_has_3 : decode cX0_has 3 = .ok (.invokestatic 9, 3) := by decide +kernel
theorem dX0_has_6 : decode cX0_has 6 = .ok (.iand, 1) := by decide +kernel
theorem dX0_has_7 : decode cX0_has 7 = .ok (.ifCond .eq 7, 3) := by decide +kernel
theorem dX0_has_10 : decode cX0_has 10 = .ok (.iconst 1, 1) := by decide +kernel
theorem dX0_has_11 : decode cX0_has 11 = .ok (.goto 4, 3) := by decide +kernel
theorem dX0_has_14 : decode cX0_has 14 = .ok (.iconst 0, 1) := by decide +kernel
theorem dX0_has_15 : decode cX0_has 15 = .ok (.ireturn, 1) := by decide +kernel
theorem dX0_parentsIn_0 : decode cX0_parentsIn 0 = .ok (.iconst 0, 1) := by decide +kernel
theorem dX0_parentsIn_1 : decode cX0_parentsIn 1 = .ok (.istore_n 2, 1) := by decide +kernel
theorem dX0_parentsIn_2 : decode cX0_parentsIn 2 = .ok (.iconst 0, 1) := by decide +kernel
theorem dX0_parentsIn_3 : decode cX0_parentsIn 3 = .ok (.istore_n 3, 1) := by decide +kernel
theorem dX0_parentsIn_4 : decode cX0_parentsIn 4 = .ok (.iload_n 3, 1) := by decide +kernel
theorem dX0_parentsIn_5 : decode cX0_parentsIn 5 = .ok (.iconst 5, 1) := by decide +kernel
theorem dX0_parentsIn_6 : decode cX0_parentsIn 6 = .ok (.if_icmp .ge 23, 3) := by decide +kernel
theorem dX0_parentsIn_9 : decode cX0_parentsIn 9 = .ok (.iload_n 2, 1) := by decide +kernel
theorem dX0_parentsIn_10 : decode cX0_parentsIn 10 = .ok (.iload_n 0, 1) := by decide +kernel
theorem dX0_parentsIn_11 : decode cX0_parentsIn 11 = .ok (.iconst 5, 1) := by decide +kernel
theorem dX0_parentsIn_12 : decode cX0_parentsIn 12 = .ok (.iload_n 3, 1) := by decide +kernel
theorem dX0_parentsIn_13 : decode cX0_parentsIn 13 = .ok (.imul, 1) := by decide +kernel
theorem dX0_parentsIn_14 : decode cX0_parentsIn 14 = .ok (.iload_n 1, 1) := by decide +kernel
theorem dX0_parentsIn_15 : decode cX0_parentsIn 15 = .ok (.iadd, 1) := by decide +kernel
theorem dX0_parentsIn_16 : decode cX0_parentsIn 16 = .ok (.ishr, 1) := by decide +kernel
theorem dX0_parentsIn_17 : decode cX0_parentsIn 17 = .ok (.iconst 1, 1) := by decide +kernel
theorem dX0_parentsIn_18 : decode cX0_parentsIn 18 = .ok (.iand, 1) := by decide +kernel
theorem dX0_parentsIn_19 : decode cX0_parentsIn 19 = .ok (.iload_n 3, 1) := by decide +kernel
theorem dX0_parentsIn_20 : decode cX0_parentsIn 20 = .ok (.ishl, 1) := by decide +kernel
theorem dX0_parentsIn_21 : decode cX0_parentsIn 21 = .ok (.ior, 1) := by decide +kernel
theorem dX0_parentsIn_22 : decode cX0_parentsIn 22 = .ok (.istore_n 2, 1) := by decide +kernel
theorem dX0_parentsIn_23 : decode cX0_parentsIn 23 = .ok (.iinc 3 1, 3) := by decide +kernel
theorem dX0_parentsIn_26 : decode cX0_parentsIn 26 = .ok (.goto (-22), 3) := by decide +kernel
theorem dX0_parentsIn_29 : decode cX0_parentsIn 29 = .ok (.iload_n 2, 1) := by decide +kernel
theorem dX0_parentsIn_30 : decode cX0_parentsIn 30 = .ok (.ireturn, 1) := by decide +kernel
theorem dX0_fromAll_0 : decode cX0_fromAll 0 = .ok (.iconst 0, 1) := by decide +kernel
theorem dX0_fromAll_1 : decode cX0_fromAll 1 = .ok (.istore_n 2, 1) := by decide +kernel
theorem dX0_fromAll_2 : decode cX0_fromAll 2 = .ok (.iconst 0, 1) := by decide +kernel
theorem dX0_fromAll_3 : decode cX0_fromAll 3 = .ok (.istore_n 3, 1) := by decide +kernel
theorem dX0_fromAll_4 : decode cX0_fromAll 4 = .ok (.iload_n 3, 1) := by decide +kernel
theorem dX0_fromAll_5 : decode cX0_fromAll 5 = .ok (.iconst 5, 1) := by decide +kernel
theorem dX0_fromAll_6 : decode cX0_fromAll 6 = .ok (.if_icmp .ge 25, 3) := by decide +kernel
theorem dX0_fromAll_9 : decode cX0_fromAll 9 = .ok (.iload_n 0, 1) := by decide +kernel
theorem dX0_fromAll_10 : decode cX0_fromAll 10 = .ok (.iload_n 3, 1) := by decide +kernel
theorem dX0_fromAll_11 : decode cX0_fromAll 11 = .ok (.invokestatic 15, 3) := by decide +kernel
theorem dX0_fromAll_14 : decode cX0_fromAll 14 = .ok (.ifCond .eq 11, 3) := by decide +kernel
theorem dX0_fromAll_17 : decode cX0_fromAll 17 = .ok (.iload_n 2, 1) := by decide +kernel
theorem dX0_fromAll_18 : decode cX0_fromAll 18 = .ok (.iload_n 3, 1) := by decide +kernel
theorem dX0_fromAll_19 : decode cX0_fromAll 19 = .ok (.iload_n 1, 1) := by decide +kernel
theorem dX0_fromAll_20 : decode cX0_fromAll 20 = .ok (.invokestatic 9, 3) := by decide +kernel
theorem dX0_fromAll_23 : decode cX0_fromAll 23 = .ok (.ior, 1) := by decide +kernel
theorem dX0_fromAll_24 : decode cX0_fromAll 24 = .ok (.istore_n 2, 1) := by decide +kernel
theorem dX0_fromAll_25 : decode cX0_fromAll 25 = .ok (.iinc 3 1, 3) := by decide +kernel
theorem dX0_fromAll_28 : decode cX0_fromAll 28 = .ok (.goto (-24), 3) := by decide +kernel
theorem dX0_fromAll_31 : decode cX0_fromAll 31 = .ok (.iload_n 2, 1) := by decide +kernel
theorem dX0_fromAll_32 : decode cX0_fromAll 32 = .ok (.ireturn, 1) := by decide +kernel
theorem dX0_areGraph_0 : decode cX0_areGraph 0 = .ok (.iconst 1, 1) := by decide +kernel
theorem dX0_areGraph_1 : decode cX0_areGraph 1 = .ok (.iload_n 1, 1) := by decide +kernel
theorem dX0_areGraph_2 : decode cX0_areGraph 2 = .ok (.ishl, 1) := by decide +kernel
theorem dX0_areGraph_3 : decode cX0_areGraph 3 = .ok (.iconst 1, 1) := by decide +kernel
theorem dX0_areGraph_4 : decode cX0_areGraph 4 = .ok (.isub, 1) := by decide +kernel
theorem dX0_areGraph_5 : decode cX0_areGraph 5 = .ok (.istore_n 2, 1) := by decide +kernel
theorem dX0_areGraph_6 : decode cX0_areGraph 6 = .ok (.iconst 0, 1) := by decide +kernel
theorem dX0_areGraph_7 : decode cX0_areGraph 7 = .ok (.istore_n 3, 1) := by decide +kernel
theorem dX0_areGraph_8 : decode cX0_areGraph 8 = .ok (.iconst 0, 1) := by decide +kernel
theorem dX0_areGraph_9 : decode cX0_areGraph 9 = .ok (.istore 4, 2) := by decide +kernel
theorem dX0_areGraph_11 : decode cX0_areGraph 11 = .ok (.iload 4, 2) := by decide +kernel
theorem dX0_areGraph_13 : decode cX0_areGraph 13 = .ok (.iload_n 1, 1) := by decide +kernel
theorem dX0_areGraph_14 : decode cX0_areGraph 14 = .ok (.if_icmp .ge 25, 3) := by decide +kernel
theorem dX0_areGraph_17 : decode cX0_areGraph 17 = .ok (.iload_n 3, 1) := by decide +kernel
theorem dX0_areGraph_18 : decode cX0_areGraph 18 = .ok (.iload_n 2, 1) := by decide +kernel
theorem dX0_areGraph_19 : decode cX0_areGraph 19 = .ok (.iconst 1, 1) := by decide +kernel
theorem dX0_areGraph_20 : decode cX0_areGraph 20 = .ok (.iload 4, 2) := by decide +kernel
theorem dX0_areGraph_22 : decode cX0_areGraph 22 = .ok (.ishl, 1) := by decide +kernel
theorem dX0_areGraph_23 : decode cX0_areGraph 23 = .ok (.iconst (-1), 1) := by decide +kernel
theorem dX0_areGraph_24 : decode cX0_areGraph 24 = .ok (.ixor, 1) := by decide +kernel
theorem dX0_areGraph_25 : decode cX0_areGraph 25 = .ok (.iand, 1) := by decide +kernel
theorem dX0_areGraph_26 : decode cX0_areGraph 26 = .ok (.iload 4, 2) := by decide +kernel
theorem dX0_areGraph_28 : decode cX0_areGraph 28 = .ok (.invokestatic 19, 3) := by decide +kernel
theorem dX0_areGraph_31 : decode cX0_areGraph 31 = .ok (.ior, 1) := by decide +kernel
theorem dX0_areGraph_32 : decode cX0_areGraph 32 = .ok (.istore_n 3, 1) := by decide +kernel
theorem dX0_areGraph_33 : decode cX0_areGraph 33 = .ok (.iinc 4 1, 3) := by decide +kernel
theorem dX0_areGraph_36 : decode cX0_areGraph 36 = .ok (.goto (-25), 3) := by decide +kernel
theorem dX0_areGraph_39 : decode cX0_areGraph 39 = .ok (.iload_n 0, 1) := by decide +kernel
theorem dX0_areGraph_40 : decode cX0_areGraph 40 = .ok (.iload_n 3, 1) := by decide +kernel
theorem dX0_areGraph_41 : decode cX0_areGraph 41 = .ok (.iconst (-1), 1) := by decide +kernel
theorem dX0_areGraph_42 : decode cX0_areGraph 42 = .ok (.ixor, 1) := by decide +kernel
theorem dX0_areGraph_43 : decode cX0_areGraph 43 = .ok (.iand, 1) := by decide +kernel
theorem dX0_areGraph_44 : decode cX0_areGraph 44 = .ok (.ifCond .ne 15, 3) := by decide +kernel
theorem dX0_areGraph_47 : decode cX0_areGraph 47 = .ok (.iload_n 0, 1) := by decide +kernel
theorem dX0_areGraph_48 : decode cX0_areGraph 48 = .ok (.iload_n 1, 1) := by decide +kernel
theorem dX0_areGraph_49 : decode cX0_areGraph 49 = .ok (.invokestatic 22, 3) := by decide +kernel
theorem dX0_areGraph_52 : decode cX0_areGraph 52 = .ok (.ifCond .eq 7, 3) := by decide +kernel
theorem dX0_areGraph_55 : decode cX0_areGraph 55 = .ok (.iconst 1, 1) := by decide +kernel
theorem dX0_areGraph_56 : decode cX0_areGraph 56 = .ok (.goto 4, 3) := by decide +kernel
theorem dX0_areGraph_59 : decode cX0_areGraph 59 = .ok (.iconst 0, 1) := by decide +kernel
theorem dX0_areGraph_60 : decode cX0_areGraph 60 = .ok (.ireturn, 1) := by decide +kernel
theorem dX0_haveNoRound_0 : decode cX0_haveNoRound 0 = .ok (.iconst 0, 1) := by decide +kernel
theorem dX0_haveNoRound_1 : decode cX0_haveNoRound 1 = .ok (.istore_n 2, 1) := by decide +kernel
theorem dX0_haveNoRound_2 : decode cX0_haveNoRound 2 = .ok (.iconst 0, 1) := by decide +kernel
theorem dX0_haveNoRound_3 : decode cX0_haveNoRound 3 = .ok (.istore_n 3, 1) := by decide +kernel
theorem dX0_haveNoRound_4 : decode cX0_haveNoRound 4 = .ok (.iload_n 3, 1) := by decide +kernel
theorem dX0_haveNoRound_5 : decode cX0_haveNoRound 5 = .ok (.iload_n 1, 1) := by decide +kernel
theorem dX0_haveNoRound_6 : decode cX0_haveNoRound 6 = .ok (.if_icmp .ge 31, 3) := by decide +kernel
theorem dX0_haveNoRound_9 : decode cX0_haveNoRound 9 = .ok (.iload_n 0, 1) := by decide +kernel
theorem dX0_haveNoRound_10 : decode cX0_haveNoRound 10 = .ok (.iload_n 1, 1) := by decide +kernel
theorem dX0_haveNoRound_11 : decode cX0_haveNoRound 11 = .ok (.iload_n 2, 1) := by decide +kernel
theorem dX0_haveNoRound_12 : decode cX0_haveNoRound 12 = .ok (.invokestatic 25, 3) := by decide +kernel
theorem dX0_haveNoRound_15 : decode cX0_haveNoRound 15 = .ok (.istore 4, 2) := by decide +kernel
theorem dX0_haveNoRound_17 : decode cX0_haveNoRound 17 = .ok (.iload 4, 2) := by decide +kernel
theorem dX0_haveNoRound_19 : decode cX0_haveNoRound 19 = .ok (.ifCond .ge 5, 3) := by decide +kernel
theorem dX0_haveNoRound_22 : decode cX0_haveNoRound 22 = .ok (.iconst 0, 1) := by decide +kernel
theorem dX0_haveNoRound_23 : decode cX0_haveNoRound 23 = .ok (.ireturn, 1) := by decide +kernel
theorem dX0_haveNoRound_24 : decode cX0_haveNoRound 24 = .ok (.iload_n 2, 1) := by decide +kernel
theorem dX0_haveNoRound_25 : decode cX0_haveNoRound 25 = .ok (.iconst 1, 1) := by decide +kernel
theorem dX0_haveNoRound_26 : decode cX0_haveNoRound 26 = .ok (.iload 4, 2) := by decide +kernel
theorem dX0_haveNoRound_28 : decode cX0_haveNoRound 28 = .ok (.ishl, 1) := by decide +kernel
theorem dX0_haveNoRound_29 : decode cX0_haveNoRound 29 = .ok (.ior, 1) := by decide +kernel
theorem dX0_haveNoRound_30 : decode cX0_haveNoRound 30 = .ok (.istore_n 2, 1) := by decide +kernel
theorem dX0_haveNoRound_31 : decode cX0_haveNoRound 31 = .ok (.iinc 3 1, 3) := by decide +kernel
theorem dX0_haveNoRound_34 : decode cX0_haveNoRound 34 = .ok (.goto (-30), 3) := by decide +kernel
theorem dX0_haveNoRound_37 : decode cX0_haveNoRound 37 = .ok (.iconst 1, 1) := by decide +kernel
theorem dX0_haveNoRound_38 : decode cX0_haveNoRound 38 = .ok (.ireturn, 1) := by decide +kernel
theorem dX0_nextAfter_0 : decode cX0_nextAfter 0 = .ok (.iconst 0, 1) := by decide +kernel
theorem dX0_nextAfter_1 : decode cX0_nextAfter 1 = .ok (.istore_n 3, 1) := by decide +kernel
theorem dX0_nextAfter_2 : decode cX0_nextAfter 2 = .ok (.iload_n 3, 1) := by decide +kernel
theorem dX0_nextAfter_3 : decode cX0_nextAfter 3 = .ok (.iload_n 1, 1) := by decide +kernel
theorem dX0_nextAfter_4 : decode cX0_nextAfter 4 = .ok (.if_icmp .ge 31, 3) := by decide +kernel
theorem dX0_nextAfter_7 : decode cX0_nextAfter 7 = .ok (.iload_n 2, 1) := by decide +kernel
theorem dX0_nextAfter_8 : decode cX0_nextAfter 8 = .ok (.iload_n 3, 1) := by decide +kernel
theorem dX0_nextAfter_9 : decode cX0_nextAfter 9 = .ok (.invokestatic 15, 3) := by decide +kernel
theorem dX0_nextAfter_12 : decode cX0_nextAfter 12 = .ok (.ifCond .ne 17, 3) := by decide +kernel
theorem dX0_nextAfter_15 : decode cX0_nextAfter 15 = .ok (.iload_n 0, 1) := by decide +kernel
theorem dX0_nextAfter_16 : decode cX0_nextAfter 16 = .ok (.iload_n 3, 1) := by decide +kernel
theorem dX0_nextAfter_17 : decode cX0_nextAfter 17 = .ok (.invokestatic 29, 3) := by decide +kernel
theorem dX0_nextAfter_20 : decode cX0_nextAfter 20 = .ok (.iload_n 2, 1) := by decide +kernel
theorem dX0_nextAfter_21 : decode cX0_nextAfter 21 = .ok (.iconst (-1), 1) := by decide +kernel
theorem dX0_nextAfter_22 : decode cX0_nextAfter 22 = .ok (.ixor, 1) := by decide +kernel
theorem dX0_nextAfter_23 : decode cX0_nextAfter 23 = .ok (.iand, 1) := by decide +kernel
theorem dX0_nextAfter_24 : decode cX0_nextAfter 24 = .ok (.ifCond .ne 5, 3) := by decide +kernel
theorem dX0_nextAfter_27 : decode cX0_nextAfter 27 = .ok (.iload_n 3, 1) := by decide +kernel
theorem dX0_nextAfter_28 : decode cX0_nextAfter 28 = .ok (.ireturn, 1) := by decide +kernel
theorem dX0_nextAfter_29 : decode cX0_nextAfter 29 = .ok (.iinc 3 1, 3) := by decide +kernel
theorem dX0_nextAfter_32 : decode cX0_nextAfter 32 = .ok (.goto (-30), 3) := by decide +kernel
theorem dX0_nextAfter_35 : decode cX0_nextAfter 35 = .ok (.iconst (-1), 1) := by decide +kernel
theorem dX0_nextAfter_36 : decode cX0_nextAfter 36 = .ok (.ireturn, 1) := by decide +kernel
theorem dX0_areBounded_0 : decode cX0_areBounded 0 = .ok (.iconst 0, 1) := by decide +kernel
theorem dX0_areBounded_1 : decode cX0_areBounded 1 = .ok (.istore_n 2, 1) := by decide +kernel
theorem dX0_areBounded_2 : decode cX0_areBounded 2 = .ok (.iload_n 2, 1) := by decide +kernel
theorem dX0_areBounded_3 : decode cX0_areBounded 3 = .ok (.iconst 5, 1) := by decide +kernel
theorem dX0_areBounded_4 : decode cX0_areBounded 4 = .ok (.if_icmp .ge 23, 3) := by decide +kernel
theorem dX0_areBounded_7 : decode cX0_areBounded 7 = .ok (.iload_n 0, 1) := by decide +kernel
theorem dX0_areBounded_8 : decode cX0_areBounded 8 = .ok (.iload_n 2, 1) := by decide +kernel
theorem dX0_areBounded_9 : decode cX0_areBounded 9 = .ok (.invokestatic 29, 3) := by decide +kernel
theorem dX0_areBounded_12 : decode cX0_areBounded 12 = .ok (.invokestatic 32, 3) := by decide +kernel
theorem dX0_areBounded_15 : decode cX0_areBounded 15 = .ok (.iload_n 1, 1) := by decide +kernel
theorem dX0_areBounded_16 : decode cX0_areBounded 16 = .ok (.if_icmp .le 5, 3) := by decide +kernel
theorem dX0_areBounded_19 : decode cX0_areBounded 19 = .ok (.iconst 0, 1) := by decide +kernel
theorem dX0_areBounded_20 : decode cX0_areBounded 20 = .ok (.ireturn, 1) := by decide +kernel
theorem dX0_areBounded_21 : decode cX0_areBounded 21 = .ok (.iinc 2 1, 3) := by decide +kernel
theorem dX0_areBounded_24 : decode cX0_areBounded 24 = .ok (.goto (-22), 3) := by decide +kernel
theorem dX0_areBounded_27 : decode cX0_areBounded 27 = .ok (.iconst 1, 1) := by decide +kernel
theorem dX0_areBounded_28 : decode cX0_areBounded 28 = .ok (.ireturn, 1) := by decide +kernel
theorem dX1_init_0 : decode cX1_init 0 = .ok (.aload_n 0, 1) := by decide +kernel
theorem dX1_init_1 : decode cX1_init 1 = .ok (.invokespecial 3, 3) := by decide +kernel
theorem dX1_init_4 : decode cX1_init 4 = .ok (.aload_n 0, 1) := by decide +kernel
theorem dX1_init_5 : decode cX1_init 5 = .ok (.iload_n 1, 1) := by decide +kernel
theorem dX1_init_6 : decode cX1_init 6 = .ok (.ifCond .le 7, 3) := by decide +kernel
theorem dX1_init_9 : decode cX1_init 9 = .ok (.iload_n 1, 1) := by decide +kernel
theorem dX1_init_10 : decode cX1_init 10 = .ok (.goto 4, 3) := by decide +kernel
theorem dX1_init_13 : decode cX1_init 13 = .ok (.iconst 1, 1) := by decide +kernel
theorem dX1_init_14 : decode cX1_init 14 = .ok (.newarray .long, 2) := by decide +kernel
theorem dX1_init_16 : decode cX1_init 16 = .ok (.putfield 9, 3) := by decide +kernel
theorem dX1_init_19 : decode cX1_init 19 = .ok (.aload_n 0, 1) := by decide +kernel
theorem dX1_init_20 : decode cX1_init 20 = .ok (.iconst 0, 1) := by decide +kernel
theorem dX1_init_21 : decode cX1_init 21 = .ok (.putfield 15, 3) := by decide +kernel
theorem dX1_init_24 : decode cX1_init 24 = .ok (.return_, 1) := by decide +kernel
theorem dX1_length_0 : decode cX1_length 0 = .ok (.aload_n 0, 1) := by decide +kernel
theorem dX1_length_1 : decode cX1_length 1 = .ok (.getfield 15, 3) := by decide +kernel
theorem dX1_length_4 : decode cX1_length 4 = .ok (.ireturn, 1) := by decide +kernel
theorem dX1_at_0 : decode cX1_at 0 = .ok (.iload_n 1, 1) := by decide +kernel
theorem dX1_at_1 : decode cX1_at 1 = .ok (.ifCond .lt 29, 3) := by decide +kernel
theorem dX1_at_4 : decode cX1_at 4 = .ok (.iload_n 1, 1) := by decide +kernel
theorem dX1_at_5 : decode cX1_at 5 = .ok (.aload_n 0, 1) := by decide +kernel
theorem dX1_at_6 : decode cX1_at 6 = .ok (.getfield 15, 3) := by decide +kernel
theorem dX1_at_9 : decode cX1_at 9 = .ok (.if_icmp .ge 21, 3) := by decide +kernel
theorem dX1_at_12 : decode cX1_at 12 = .ok (.iload_n 1, 1) := by decide +kernel
theorem dX1_at_13 : decode cX1_at 13 = .ok (.aload_n 0, 1) := by decide +kernel
theorem dX1_at_14 : decode cX1_at 14 = .ok (.getfield 9, 3) := by decide +kernel
theorem dX1_at_17 : decode cX1_at 17 = .ok (.arraylength, 1) := by decide +kernel
theorem dX1_at_18 : decode cX1_at 18 = .ok (.if_icmp .ge 12, 3) := by decide +kernel
theorem dX1_at_21 : decode cX1_at 21 = .ok (.aload_n 0, 1) := by decide +kernel
theorem dX1_at_22 : decode cX1_at 22 = .ok (.getfield 9, 3) := by decide +kernel
theorem dX1_at_25 : decode cX1_at 25 = .ok (.iload_n 1, 1) := by decide +kernel
theorem dX1_at_26 : decode cX1_at 26 = .ok (.laload, 1) := by decide +kernel
theorem dX1_at_27 : decode cX1_at 27 = .ok (.goto 4, 3) := by decide +kernel
theorem dX1_at_30 : decode cX1_at 30 = .ok (.lconst 0, 1) := by decide +kernel
theorem dX1_at_31 : decode cX1_at 31 = .ok (.lreturn, 1) := by decide +kernel
theorem dX1_become_0 : decode cX1_become 0 = .ok (.aload_n 0, 1) := by decide +kernel
theorem dX1_become_1 : decode cX1_become 1 = .ok (.iconst 0, 1) := by decide +kernel
theorem dX1_become_2 : decode cX1_become 2 = .ok (.putfield 15, 3) := by decide +kernel
theorem dX1_become_5 : decode cX1_become 5 = .ok (.iload_n 1, 1) := by decide +kernel
theorem dX1_become_6 : decode cX1_become 6 = .ok (.ifCond .le 24, 3) := by decide +kernel
theorem dX1_become_9 : decode cX1_become 9 = .ok (.aload_n 0, 1) := by decide +kernel
theorem dX1_become_10 : decode cX1_become 10 = .ok (.getfield 9, 3) := by decide +kernel
theorem dX1_become_13 : decode cX1_become 13 = .ok (.arraylength, 1) := by decide +kernel
theorem dX1_become_14 : decode cX1_become 14 = .ok (.ifCond .le 16, 3) := by decide +kernel
theorem dX1_become_17 : decode cX1_become 17 = .ok (.aload_n 0, 1) := by decide +kernel
theorem dX1_become_18 : decode cX1_become 18 = .ok (.getfield 9, 3) := by decide +kernel
theorem dX1_become_21 : decode cX1_become 21 = .ok (.iconst 0, 1) := by decide +kernel
theorem dX1_become_22 : decode cX1_become 22 = .ok (.iload_n 1, 1) := by decide +kernel
theorem dX1_become_23 : decode cX1_become 23 = .ok (.i2l, 1) := by decide +kernel
theorem dX1_become_24 : decode cX1_become 24 = .ok (.lastore, 1) := by decide +kernel
theorem dX1_become_25 : decode cX1_become 25 = .ok (.aload_n 0, 1) := by decide +kernel
theorem dX1_become_26 : decode cX1_become 26 = .ok (.iconst 1, 1) := by decide +kernel
theorem dX1_become_27 : decode cX1_become 27 = .ok (.putfield 15, 3) := by decide +kernel
theorem dX1_become_30 : decode cX1_become 30 = .ok (.return_, 1) := by decide +kernel
theorem dX1_copy_0 : decode cX1_copy 0 = .ok (.aload_n 0, 1) := by decide +kernel
theorem dX1_copy_1 : decode cX1_copy 1 = .ok (.aload_n 1, 1) := by decide +kernel
theorem dX1_copy_2 : decode cX1_copy 2 = .ok (.getfield 15, 3) := by decide +kernel
theorem dX1_copy_5 : decode cX1_copy 5 = .ok (.aload_n 0, 1) := by decide +kernel
theorem dX1_copy_6 : decode cX1_copy 6 = .ok (.getfield 9, 3) := by decide +kernel
theorem dX1_copy_9 : decode cX1_copy 9 = .ok (.arraylength, 1) := by decide +kernel
theorem dX1_copy_10 : decode cX1_copy 10 = .ok (.aload_n 1, 1) := by decide +kernel
theorem dX1_copy_11 : decode cX1_copy 11 = .ok (.getfield 9, 3) := by decide +kernel
theorem dX1_copy_14 : decode cX1_copy 14 = .ok (.arraylength, 1) := by decide +kernel
theorem dX1_copy_15 : decode cX1_copy 15 = .ok (.invokestatic 19, 3) := by decide +kernel
theorem dX1_copy_18 : decode cX1_copy 18 = .ok (.invokestatic 19, 3) := by decide +kernel
theorem dX1_copy_21 : decode cX1_copy 21 = .ok (.putfield 15, 3) := by decide +kernel
theorem dX1_copy_24 : decode cX1_copy 24 = .ok (.aload_n 1, 1) := by decide +kernel
theorem dX1_copy_25 : decode cX1_copy 25 = .ok (.getfield 9, 3) := by decide +kernel
theorem dX1_copy_28 : decode cX1_copy 28 = .ok (.iconst 0, 1) := by decide +kernel
theorem dX1_copy_29 : decode cX1_copy 29 = .ok (.aload_n 0, 1) := by decide +kernel
theorem dX1_copy_30 : decode cX1_copy 30 = .ok (.getfield 9, 3) := by decide +kernel
theorem dX1_copy_33 : decode cX1_copy 33 = .ok (.iconst 0, 1) := by decide +kernel
theorem dX1_copy_34 : decode cX1_copy 34 = .ok (.aload_n 0, 1) := by decide +kernel
theorem dX1_copy_35 : decode cX1_copy 35 = .ok (.getfield 15, 3) := by decide +kernel
theorem dX1_copy_38 : decode cX1_copy 38 = .ok (.invokestatic 25, 3) := by decide +kernel
theorem dX1_copy_41 : decode cX1_copy 41 = .ok (.return_, 1) := by decide +kernel
theorem dX1_against_0 : decode cX1_against 0 = .ok (.aload_n 0, 1) := by decide +kernel
theorem dX1_against_1 : decode cX1_against 1 = .ok (.getfield 15, 3) := by decide +kernel
theorem dX1_against_4 : decode cX1_against 4 = .ok (.aload_n 1, 1) := by decide +kernel
theorem dX1_against_5 : decode cX1_against 5 = .ok (.getfield 15, 3) := by decide +kernel
theorem dX1_against_8 : decode cX1_against 8 = .ok (.if_icmp .eq 20, 3) := by decide +kernel
theorem dX1_against_11 : decode cX1_against 11 = .ok (.aload_n 0, 1) := by decide +kernel
theorem dX1_against_12 : decode cX1_against 12 = .ok (.getfield 15, 3) := by decide +kernel
theorem dX1_against_15 : decode cX1_against 15 = .ok (.aload_n 1, 1) := by decide +kernel
theorem dX1_against_16 : decode cX1_against 16 = .ok (.getfield 15, 3) := by decide +kernel
theorem dX1_against_19 : decode cX1_against 19 = .ok (.if_icmp .ge 7, 3) := by decide +kernel
theorem dX1_against_22 : decode cX1_against 22 = .ok (.iconst (-1), 1) := by decide +kernel
theorem dX1_against_23 : decode cX1_against 23 = .ok (.goto 4, 3) := by decide +kernel
theorem dX1_against_26 : decode cX1_against 26 = .ok (.iconst 1, 1) := by decide +kernel
theorem dX1_against_27 : decode cX1_against 27 = .ok (.ireturn, 1) := by decide +kernel
theorem dX1_against_28 : decode cX1_against 28 = .ok (.aload_n 0, 1) := by decide +kernel
theorem dX1_against_29 : decode cX1_against 29 = .ok (.getfield 15, 3) := by decide +kernel
theorem dX1_against_32 : decode cX1_against 32 = .ok (.iconst 1, 1) := by decide +kernel
theorem dX1_against_33 : decode cX1_against 33 = .ok (.isub, 1) := by decide +kernel
theorem dX1_against_34 : decode cX1_against 34 = .ok (.istore_n 2, 1) := by decide +kernel
theorem dX1_against_35 : decode cX1_against 35 = .ok (.iload_n 2, 1) := by decide +kernel
theorem dX1_against_36 : decode cX1_against 36 = .ok (.ifCond .lt 43, 3) := by decide +kernel
theorem dX1_against_39 : decode cX1_against 39 = .ok (.aload_n 0, 1) := by decide +kernel
theorem dX1_against_40 : decode cX1_against 40 = .ok (.iload_n 2, 1) := by decide +kernel
theorem dX1_against_41 : decode cX1_against 41 = .ok (.invokevirtual 31, 3) := by decide +kernel
theorem dX1_against_44 : decode cX1_against 44 = .ok (.aload_n 1, 1) := by decide +kernel
theorem dX1_against_45 : decode cX1_against 45 = .ok (.iload_n 2, 1) := by decide +kernel
theorem dX1_against_46 : decode cX1_against 46 = .ok (.invokevirtual 31, 3) := by decide +kernel
theorem dX1_against_49 : decode cX1_against 49 = .ok (.lcmp, 1) := by decide +kernel
theorem dX1_against_50 : decode cX1_against 50 = .ok (.ifCond .eq 23, 3) := by decide +kernel
theorem dX1_against_53 : decode cX1_against 53 = .ok (.aload_n 0, 1) := by decide +kernel
theorem dX1_against_54 : decode cX1_against 54 = .ok (.iload_n 2, 1) := by decide +kernel
theorem dX1_against_55 : decode cX1_against 55 = .ok (.invokevirtual 31, 3) := by decide +kernel
theorem dX1_against_58 : decode cX1_against 58 = .ok (.aload_n 1, 1) := by decide +kernel
theorem dX1_against_59 : decode cX1_against 59 = .ok (.iload_n 2, 1) := by decide +kernel
theorem dX1_against_60 : decode cX1_against 60 = .ok (.invokevirtual 31, 3) := by decide +kernel
theorem dX1_against_63 : decode cX1_against 63 = .ok (.lcmp, 1) := by decide +kernel
theorem dX1_against_64 : decode cX1_against 64 = .ok (.ifCond .ge 7, 3) := by decide +kernel
theorem dX1_against_67 : decode cX1_against 67 = .ok (.iconst (-1), 1) := by decide +kernel
theorem dX1_against_68 : decode cX1_against 68 = .ok (.goto 4, 3) := by decide +kernel
theorem dX1_against_71 : decode cX1_against 71 = .ok (.iconst 1, 1) := by decide +kernel
theorem dX1_against_72 : decode cX1_against 72 = .ok (.ireturn, 1) := by decide +kernel
theorem dX1_against_73 : decode cX1_against 73 = .ok (.iinc 2 (-1), 3) := by decide +kernel
theorem dX1_against_76 : decode cX1_against 76 = .ok (.goto (-41), 3) := by decide +kernel
theorem dX1_against_79 : decode cX1_against 79 = .ok (.iconst 0, 1) := by decide +kernel
theorem dX1_against_80 : decode cX1_against 80 = .ok (.ireturn, 1) := by decide +kernel
theorem dX1_timesSmall_0 : decode cX1_timesSmall 0 = .ok (.lconst 0, 1) := by decide +kernel
theorem dX1_timesSmall_1 : decode cX1_timesSmall 1 = .ok (.lstore_n 3, 1) := by decide +kernel
theorem dX1_timesSmall_2 : decode cX1_timesSmall 2 = .ok (.iconst 0, 1) := by decide +kernel
theorem dX1_timesSmall_3 : decode cX1_timesSmall 3 = .ok (.istore 5, 2) := by decide +kernel
theorem dX1_timesSmall_5 : decode cX1_timesSmall 5 = .ok (.iload 5, 2) := by decide +kernel
theorem dX1_timesSmall_7 : decode cX1_timesSmall 7 = .ok (.aload_n 0, 1) := by decide +kernel
theorem dX1_timesSmall_8 : decode cX1_timesSmall 8 = .ok (.getfield 15, 3) := by decide +kernel
theorem dX1_timesSmall_11 : decode cX1_timesSmall 11 = .ok (.if_icmp .ge 51, 3) := by decide +kernel
theorem dX1_timesSmall_14 : decode cX1_timesSmall 14 = .ok (.iload 5, 2) := by decide +kernel
theorem dX1_timesSmall_16 : decode cX1_timesSmall 16 = .ok (.aload_n 0, 1) := by decide +kernel
theorem dX1_timesSmall_17 : decode cX1_timesSmall 17 = .ok (.getfield 9, 3) := by decide +kernel
theorem dX1_timesSmall_20 : decode cX1_timesSmall 20 = .ok (.arraylength, 1) := by decide +kernel
theorem dX1_timesSmall_21 : decode cX1_timesSmall 21 = .ok (.if_icmp .ge 41, 3) := by decide +kernel
theorem dX1_timesSmall_24 : decode cX1_timesSmall 24 = .ok (.aload_n 0, 1) := by decide +kernel
theorem dX1_timesSmall_25 : decode cX1_timesSmall 25 = .ok (.getfield 9, 3) := by decide +kernel
theorem dX1_timesSmall_28 : decode cX1_timesSmall 28 = .ok (.iload 5, 2) := by decide +kernel
theorem dX1_timesSmall_30 : decode cX1_timesSmall 30 = .ok (.laload, 1) := by decide +kernel
theorem dX1_timesSmall_31 : decode cX1_timesSmall 31 = .ok (.lload_n 1, 1) := by decide +kernel
theorem dX1_timesSmall_32 : decode cX1_timesSmall 32 = .ok (.lmul, 1) := by decide +kernel
theorem dX1_timesSmall_33 : decode cX1_timesSmall 33 = .ok (.lload_n 3, 1) := by decide +kernel
theorem dX1_timesSmall_34 : decode cX1_timesSmall 34 = .ok (.ladd, 1) := by decide +kernel
theorem dX1_timesSmall_35 : decode cX1_timesSmall 35 = .ok (.lstore 6, 2) := by decide +kernel
theorem dX1_timesSmall_37 : decode cX1_timesSmall 37 = .ok (.aload_n 0, 1) := by decide +kernel
theorem dX1_timesSmall_38 : decode cX1_timesSmall 38 = .ok (.getfield 9, 3) := by decide +kernel
theorem dX1_timesSmall_41 : decode cX1_timesSmall 41 = .ok (.iload 5, 2) := by decide +kernel
theorem dX1_timesSmall_43 : decode cX1_timesSmall 43 = .ok (.lload 6, 2) := by decide +kernel
theorem dX1_timesSmall_45 : decode cX1_timesSmall 45 = .ok (.ldc2_w 35, 3) := by decide +kernel
theorem dX1_timesSmall_48 : decode cX1_timesSmall 48 = .ok (.land, 1) := by decide +kernel
theorem dX1_timesSmall_49 : decode cX1_timesSmall 49 = .ok (.lastore, 1) := by decide +kernel
theorem dX1_timesSmall_50 : decode cX1_timesSmall 50 = .ok (.lload 6, 2) := by decide +kernel
theorem dX1_timesSmall_52 : decode cX1_timesSmall 52 = .ok (.bipush 32, 2) := by decide +kernel
theorem dX1_timesSmall_54 : decode cX1_timesSmall 54 = .ok (.lushr, 1) := by decide +kernel
theorem dX1_timesSmall_55 : decode cX1_timesSmall 55 = .ok (.lstore_n 3, 1) := by decide +kernel
theorem dX1_timesSmall_56 : decode cX1_timesSmall 56 = .ok (.iinc 5 1, 3) := by decide +kernel
theorem dX1_timesSmall_59 : decode cX1_timesSmall 59 = .ok (.goto (-54), 3) := by decide +kernel
theorem dX1_timesSmall_62 : decode cX1_timesSmall 62 = .ok (.lload_n 3, 1) := by decide +kernel
theorem dX1_timesSmall_63 : decode cX1_timesSmall 63 = .ok (.lconst 0, 1) := by decide +kernel
theorem dX1_timesSmall_64 : decode cX1_timesSmall 64 = .ok (.lcmp, 1) := by decide +kernel
theorem dX1_timesSmall_65 : decode cX1_timesSmall 65 = .ok (.ifCond .eq 42, 3) := by decide +kernel
theorem dX1_timesSmall_68 : decode cX1_timesSmall 68 = .ok (.aload_n 0, 1) := by decide +kernel
theorem dX1_timesSmall_69 : decode cX1_timesSmall 69 = .ok (.getfield 15, 3) := by decide +kernel
theorem dX1_timesSmall_72 : decode cX1_timesSmall 72 = .ok (.ifCond .lt 35, 3) := by decide +kernel
theorem dX1_timesSmall_75 : decode cX1_timesSmall 75 = .ok (.aload_n 0, 1) := by decide +kernel
theorem dX1_timesSmall_76 : decode cX1_timesSmall 76 = .ok (.getfield 15, 3) := by decide +kernel
theorem dX1_timesSmall_79 : decode cX1_timesSmall 79 = .ok (.aload_n 0, 1) := by decide +kernel
theorem dX1_timesSmall_80 : decode cX1_timesSmall 80 = .ok (.getfield 9, 3) := by decide +kernel
theorem dX1_timesSmall_83 : decode cX1_timesSmall 83 = .ok (.arraylength, 1) := by decide +kernel
theorem dX1_timesSmall_84 : decode cX1_timesSmall 84 = .ok (.if_icmp .ge 23, 3) := by decide +kernel
theorem dX1_timesSmall_87 : decode cX1_timesSmall 87 = .ok (.aload_n 0, 1) := by decide +kernel
theorem dX1_timesSmall_88 : decode cX1_timesSmall 88 = .ok (.getfield 9, 3) := by decide +kernel
theorem dX1_timesSmall_91 : decode cX1_timesSmall 91 = .ok (.aload_n 0, 1) := by decide +kernel
theorem dX1_timesSmall_92 : decode cX1_timesSmall 92 = .ok (.getfield 15, 3) := by decide +kernel
theorem dX1_timesSmall_95 : decode cX1_timesSmall 95 = .ok (.lload_n 3, 1) := by decide +kernel
theorem dX1_timesSmall_96 : decode cX1_timesSmall 96 = .ok (.lastore, 1) := by decide +kernel
theorem dX1_timesSmall_97 : decode cX1_timesSmall 97 = .ok (.aload_n 0, 1) := by decide +kernel
theorem dX1_timesSmall_98 : decode cX1_timesSmall 98 = .ok (.dup, 1) := by decide +kernel
theorem dX1_timesSmall_99 : decode cX1_timesSmall 99 = .ok (.getfield 15, 3) := by decide +kernel
theorem dX1_timesSmall_102 : decode cX1_timesSmall 102 = .ok (.iconst 1, 1) := by decide +kernel
theorem dX1_timesSmall_103 : decode cX1_timesSmall 103 = .ok (.iadd, 1) := by decide +kernel
theorem dX1_timesSmall_104 : decode cX1_timesSmall 104 = .ok (.putfield 15, 3) := by decide +kernel
theorem dX1_timesSmall_107 : decode cX1_timesSmall 107 = .ok (.return_, 1) := by decide +kernel
theorem dX1_times_0 : decode cX1_times 0 = .ok (.aload_n 0, 1) := by decide +kernel
theorem dX1_times_1 : decode cX1_times 1 = .ok (.getfield 15, 3) := by decide +kernel
theorem dX1_times_4 : decode cX1_times 4 = .ok (.aload_n 0, 1) := by decide +kernel
theorem dX1_times_5 : decode cX1_times 5 = .ok (.getfield 9, 3) := by decide +kernel
theorem dX1_times_8 : decode cX1_times 8 = .ok (.arraylength, 1) := by decide +kernel
theorem dX1_times_9 : decode cX1_times 9 = .ok (.invokestatic 19, 3) := by decide +kernel
theorem dX1_times_12 : decode cX1_times 12 = .ok (.istore_n 2, 1) := by decide +kernel
theorem dX1_times_13 : decode cX1_times 13 = .ok (.aload_n 0, 1) := by decide +kernel
theorem dX1_times_14 : decode cX1_times 14 = .ok (.iload_n 2, 1) := by decide +kernel
theorem dX1_times_15 : decode cX1_times 15 = .ok (.aload_n 1, 1) := by decide +kernel
theorem dX1_times_16 : decode cX1_times 16 = .ok (.getfield 15, 3) := by decide +kernel
theorem dX1_times_19 : decode cX1_times 19 = .ok (.iadd, 1) := by decide +kernel
theorem dX1_times_20 : decode cX1_times 20 = .ok (.invokevirtual 37, 3) := by decide +kernel
theorem dX1_times_23 : decode cX1_times 23 = .ok (.iload_n 2, 1) := by decide +kernel
theorem dX1_times_24 : decode cX1_times 24 = .ok (.iconst 1, 1) := by decide +kernel
theorem dX1_times_25 : decode cX1_times 25 = .ok (.isub, 1) := by decide +kernel
theorem dX1_times_26 : decode cX1_times 26 = .ok (.istore_n 3, 1) := by decide +kernel
theorem dX1_times_27 : decode cX1_times 27 = .ok (.iload_n 3, 1) := by decide +kernel
theorem dX1_times_28 : decode cX1_times 28 = .ok (.ifCond .lt 32, 3) := by decide +kernel
theorem dX1_times_31 : decode cX1_times 31 = .ok (.aload_n 0, 1) := by decide +kernel
theorem dX1_times_32 : decode cX1_times 32 = .ok (.getfield 9, 3) := by decide +kernel
theorem dX1_times_35 : decode cX1_times 35 = .ok (.iload_n 3, 1) := by decide +kernel
theorem dX1_times_36 : decode cX1_times 36 = .ok (.laload, 1) := by decide +kernel
theorem dX1_times_37 : decode cX1_times 37 = .ok (.lstore 4, 2) := by decide +kernel
theorem dX1_times_39 : decode cX1_times 39 = .ok (.aload_n 0, 1) := by decide +kernel
theorem dX1_times_40 : decode cX1_times 40 = .ok (.getfield 9, 3) := by decide +kernel
theorem dX1_times_43 : decode cX1_times 43 = .ok (.iload_n 3, 1) := by decide +kernel
theorem dX1_times_44 : decode cX1_times 44 = .ok (.lconst 0, 1) := by decide +kernel
theorem dX1_times_45 : decode cX1_times 45 = .ok (.lastore, 1) := by decide +kernel
theorem dX1_times_46 : decode cX1_times 46 = .ok (.aload_n 0, 1) := by decide +kernel
theorem dX1_times_47 : decode cX1_times 47 = .ok (.lload 4, 2) := by decide +kernel
theorem dX1_times_49 : decode cX1_times 49 = .ok (.aload_n 1, 1) := by decide +kernel
theorem dX1_times_50 : decode cX1_times 50 = .ok (.iload_n 3, 1) := by decide +kernel
theorem dX1_times_51 : decode cX1_times 51 = .ok (.invokevirtual 41, 3) := by decide +kernel
theorem dX1_times_54 : decode cX1_times 54 = .ok (.iinc 3 (-1), 3) := by decide +kernel
theorem dX1_times_57 : decode cX1_times 57 = .ok (.goto (-30), 3) := by decide +kernel
theorem dX1_times_60 : decode cX1_times 60 = .ok (.aload_n 0, 1) := by decide +kernel
theorem dX1_times_61 : decode cX1_times 61 = .ok (.invokevirtual 45, 3) := by decide +kernel
theorem dX1_times_64 : decode cX1_times 64 = .ok (.return_, 1) := by decide +kernel
theorem dX1_plus_0 : decode cX1_plus 0 = .ok (.aload_n 0, 1) := by decide +kernel
theorem dX1_plus_1 : decode cX1_plus 1 = .ok (.aload_n 0, 1) := by decide +kernel
theorem dX1_plus_2 : decode cX1_plus 2 = .ok (.getfield 15, 3) := by decide +kernel
theorem dX1_plus_5 : decode cX1_plus 5 = .ok (.aload_n 1, 1) := by decide +kernel
theorem dX1_plus_6 : decode cX1_plus 6 = .ok (.getfield 15, 3) := by decide +kernel
theorem dX1_plus_9 : decode cX1_plus 9 = .ok (.invokestatic 48, 3) := by decide +kernel
theorem dX1_plus_12 : decode cX1_plus 12 = .ok (.iconst 1, 1) := by decide +kernel
theorem dX1_plus_13 : decode cX1_plus 13 = .ok (.iadd, 1) := by decide +kernel
theorem dX1_plus_14 : decode cX1_plus 14 = .ok (.invokevirtual 37, 3) := by decide +kernel
theorem dX1_plus_17 : decode cX1_plus 17 = .ok (.aload_n 0, 1) := by decide +kernel
theorem dX1_plus_18 : decode cX1_plus 18 = .ok (.lconst 1, 1) := by decide +kernel
theorem dX1_plus_19 : decode cX1_plus 19 = .ok (.aload_n 1, 1) := by decide +kernel
theorem dX1_plus_20 : decode cX1_plus 20 = .ok (.iconst 0, 1) := by decide +kernel
theorem dX1_plus_21 : decode cX1_plus 21 = .ok (.invokevirtual 41, 3) := by decide +kernel
theorem dX1_plus_24 : decode cX1_plus 24 = .ok (.aload_n 0, 1) := by decide +kernel
theorem dX1_plus_25 : decode cX1_plus 25 = .ok (.invokevirtual 45, 3) := by decide +kernel
theorem dX1_plus_28 : decode cX1_plus 28 = .ok (.return_, 1) := by decide +kernel
theorem dX1_minus_0 : decode cX1_minus 0 = .ok (.aload_n 0, 1) := by decide +kernel
theorem dX1_minus_1 : decode cX1_minus 1 = .ok (.lconst 1, 1) := by decide +kernel
theorem dX1_minus_2 : decode cX1_minus 2 = .ok (.aload_n 1, 1) := by decide +kernel
theorem dX1_minus_3 : decode cX1_minus 3 = .ok (.iconst 0, 1) := by decide +kernel
theorem dX1_minus_4 : decode cX1_minus 4 = .ok (.invokevirtual 51, 3) := by decide +kernel
theorem dX1_minus_7 : decode cX1_minus 7 = .ok (.return_, 1) := by decide +kernel
theorem dX1_reduceBy_0 : decode cX1_reduceBy 0 = .ok (.aload_n 1, 1) := by decide +kernel
theorem dX1_reduceBy_1 : decode cX1_reduceBy 1 = .ok (.getfield 15, 3) := by decide +kernel
theorem dX1_reduceBy_4 : decode cX1_reduceBy 4 = .ok (.ifCond .ne 4, 3) := by decide +kernel
theorem dX1_reduceBy_7 : decode cX1_reduceBy 7 = .ok (.return_, 1) := by decide +kernel
theorem dX1_reduceBy_8 : decode cX1_reduceBy 8 = .ok (.iconst 0, 1) := by decide +kernel
theorem dX1_reduceBy_9 : decode cX1_reduceBy 9 = .ok (.aload_n 1, 1) := by decide +kernel
theorem dX1_reduceBy_10 : decode cX1_reduceBy 10 = .ok (.invokevirtual 54, 3) := by decide +kernel
theorem dX1_reduceBy_13 : decode cX1_reduceBy 13 = .ok (.bipush 31, 2) := by decide +kernel
theorem dX1_reduceBy_15 : decode cX1_reduceBy 15 = .ok (.isub, 1) := by decide +kernel
theorem dX1_reduceBy_16 : decode cX1_reduceBy 16 = .ok (.invokestatic 48, 3) := by decide +kernel
theorem dX1_reduceBy_19 : decode cX1_reduceBy 19 = .ok (.istore_n 3, 1) := by decide +kernel
theorem dX1_reduceBy_20 : decode cX1_reduceBy 20 = .ok (.lconst 1, 1) := by decide +kernel
theorem dX1_reduceBy_21 : decode cX1_reduceBy 21 = .ok (.aload_n 1, 1) := by decide +kernel
theorem dX1_reduceBy_22 : decode cX1_reduceBy 22 = .ok (.iload_n 3, 1) := by decide +kernel
theorem dX1_reduceBy_23 : decode cX1_reduceBy 23 = .ok (.invokevirtual 58, 3) := by decide +kernel
theorem dX1_reduceBy_26 : decode cX1_reduceBy 26 = .ok (.iload_n 3, 1) := by decide +kernel
theorem dX1_reduceBy_27 : decode cX1_reduceBy 27 = .ok (.ifCond .le 7, 3) := by decide +kernel
theorem dX1_reduceBy_30 : decode cX1_reduceBy 30 = .ok (.iconst 1, 1) := by decide +kernel
theorem dX1_reduceBy_31 : decode cX1_reduceBy 31 = .ok (.goto 4, 3) := by decide +kernel
theorem dX1_reduceBy_34 : decode cX1_reduceBy 34 = .ok (.iconst 0, 1) := by decide +kernel
theorem dX1_reduceBy_35 : decode cX1_reduceBy 35 = .ok (.i2l, 1) := by decide +kernel
theorem dX1_reduceBy_36 : decode cX1_reduceBy 36 = .ok (.ladd, 1) := by decide +kernel
theorem dX1_reduceBy_37 : decode cX1_reduceBy 37 = .ok (.invokestatic 61, 3) := by decide +kernel
theorem dX1_reduceBy_40 : decode cX1_reduceBy 40 = .ok (.lstore 4, 2) := by decide +kernel
theorem dX1_reduceBy_42 : decode cX1_reduceBy 42 = .ok (.iconst 0, 1) := by decide +kernel
theorem dX1_reduceBy_43 : decode cX1_reduceBy 43 = .ok (.istore 6, 2) := by decide +kernel
theorem dX1_reduceBy_45 : decode cX1_reduceBy 45 = .ok (.iload 6, 2) := by decide +kernel
theorem dX1_reduceBy_47 : decode cX1_reduceBy 47 = .ok (.ldc 64, 2) := by decide +kernel
theorem dX1_reduceBy_49 : decode cX1_reduceBy 49 = .ok (.if_icmp .ge 93, 3) := by decide +kernel
theorem dX1_reduceBy_52 : decode cX1_reduceBy 52 = .ok (.aload_n 0, 1) := by decide +kernel
theorem dX1_reduceBy_53 : decode cX1_reduceBy 53 = .ok (.aload_n 1, 1) := by decide +kernel
theorem dX1_reduceBy_54 : decode cX1_reduceBy 54 = .ok (.invokevirtual 65, 3) := by decide +kernel
theorem dX1_reduceBy_57 : decode cX1_reduceBy 57 = .ok (.ifCond .lt 85, 3) := by decide +kernel
theorem dX1_reduceBy_60 : decode cX1_reduceBy 60 = .ok (.aload_n 0, 1) := by decide +kernel
theorem dX1_reduceBy_61 : decode cX1_reduceBy 61 = .ok (.invokevirtual 54, 3) := by decide +kernel
theorem dX1_reduceBy_64 : decode cX1_reduceBy 64 = .ok (.aload_n 1, 1) := by decide +kernel
theorem dX1_reduceBy_65 : decode cX1_reduceBy 65 = .ok (.invokevirtual 54, 3) := by decide +kernel
theorem dX1_reduceBy_68 : decode cX1_reduceBy 68 = .ok (.isub, 1) := by decide +kernel
theorem dX1_reduceBy_69 : decode cX1_reduceBy 69 = .ok (.istore 7, 2) := by decide +kernel
theorem dX1_reduceBy_71 : decode cX1_reduceBy 71 = .ok (.iload 7, 2) := by decide +kernel
theorem dX1_reduceBy_73 : decode cX1_reduceBy 73 = .ok (.ifCond .le 13, 3) := by decide +kernel
theorem dX1_reduceBy_76 : decode cX1_reduceBy 76 = .ok (.iload 7, 2) := by decide +kernel
theorem dX1_reduceBy_78 : decode cX1_reduceBy 78 = .ok (.iconst 1, 1) := by decide +kernel
theorem dX1_reduceBy_79 : decode cX1_reduceBy 79 = .ok (.isub, 1) := by decide +kernel
theorem dX1_reduceBy_80 : decode cX1_reduceBy 80 = .ok (.bipush 32, 2) := by decide +kernel
theorem dX1_reduceBy_82 : decode cX1_reduceBy 82 = .ok (.idiv, 1) := by decide +kernel
theorem dX1_reduceBy_83 : decode cX1_reduceBy 83 = .ok (.goto 4, 3) := by decide +kernel
theorem dX1_reduceBy_86 : decode cX1_reduceBy 86 = .ok (.iconst 0, 1) := by decide +kernel
theorem dX1_reduceBy_87 : decode cX1_reduceBy 87 = .ok (.istore 8, 2) := by decide +kernel
theorem dX1_reduceBy_89 : decode cX1_reduceBy 89 = .ok (.lconst 1, 1) := by decide +kernel
theorem dX1_reduceBy_90 : decode cX1_reduceBy 90 = .ok (.ldc2_w 35, 3) := by decide +kernel
theorem dX1_reduceBy_93 : decode cX1_reduceBy 93 = .ok (.aload_n 0, 1) := by decide +kernel
theorem dX1_reduceBy_94 : decode cX1_reduceBy 94 = .ok (.iload_n 3, 1) := by decide +kernel
theorem dX1_reduceBy_95 : decode cX1_reduceBy 95 = .ok (.bipush 32, 2) := by decide +kernel
theorem dX1_reduceBy_97 : decode cX1_reduceBy 97 = .ok (.iload 8, 2) := by decide +kernel
theorem dX1_reduceBy_99 : decode cX1_reduceBy 99 = .ok (.imul, 1) := by decide +kernel
theorem dX1_reduceBy_100 : decode cX1_reduceBy 100 = .ok (.iadd, 1) := by decide +kernel
theorem dX1_reduceBy_101 : decode cX1_reduceBy 101 = .ok (.invokevirtual 58, 3) := by decide +kernel
theorem dX1_reduceBy_104 : decode cX1_reduceBy 104 = .ok (.lload 4, 2) := by decide +kernel
theorem dX1_reduceBy_106 : decode cX1_reduceBy 106 = .ok (.ldiv, 1) := by decide +kernel
theorem dX1_reduceBy_107 : decode cX1_reduceBy 107 = .ok (.invokestatic 69, 3) := by decide +kernel
theorem dX1_reduceBy_110 : decode cX1_reduceBy 110 = .ok (.invokestatic 61, 3) := by decide +kernel
theorem dX1_reduceBy_113 : decode cX1_reduceBy 113 = .ok (.lstore 9, 2) := by decide +kernel
theorem dX1_reduceBy_115 : decode cX1_reduceBy 115 = .ok (.aload_n 0, 1) := by decide +kernel
theorem dX1_reduceBy_116 : decode cX1_reduceBy 116 = .ok (.lload 9, 2) := by decide +kernel
theorem dX1_reduceBy_118 : decode cX1_reduceBy 118 = .ok (.aload_n 1, 1) := by decide +kernel
theorem dX1_reduceBy_119 : decode cX1_reduceBy 119 = .ok (.iload 8, 2) := by decide +kernel
theorem dX1_reduceBy_121 : decode cX1_reduceBy 121 = .ok (.invokevirtual 51, 3) := by decide +kernel
theorem dX1_reduceBy_124 : decode cX1_reduceBy 124 = .ok (.aload_n 2, 1) := by decide +kernel
theorem dX1_reduceBy_125 : decode cX1_reduceBy 125 = .ok (.ifnull 11, 3) := by decide +kernel
theorem dX1_reduceBy_128 : decode cX1_reduceBy 128 = .ok (.aload_n 2, 1) := by decide +kernel
theorem dX1_reduceBy_129 : decode cX1_reduceBy 129 = .ok (.lload 9, 2) := by decide +kernel
theorem dX1_reduceBy_131 : decode cX1_reduceBy 131 = .ok (.iload 8, 2) := by decide +kernel
theorem dX1_reduceBy_133 : decode cX1_reduceBy 133 = .ok (.invokevirtual 71, 3) := by decide +kernel
theorem dX1_reduceBy_136 : decode cX1_reduceBy 136 = .ok (.iinc 6 1, 3) := by decide +kernel
theorem dX1_reduceBy_139 : decode cX1_reduceBy 139 = .ok (.goto (-94), 3) := by decide +kernel
theorem dX1_reduceBy_142 : decode cX1_reduceBy 142 = .ok (.return_, 1) := by decide +kernel
theorem dX1_commonDivisor_0 : decode cX1_commonDivisor 0 = .ok (.aload_n 0, 1) := by decide +kernel
theorem dX1_commonDivisor_1 : decode cX1_commonDivisor 1 = .ok (.astore_n 2, 1) := by decide +kernel
theorem dX1_commonDivisor_2 : decode cX1_commonDivisor 2 = .ok (.aload_n 1, 1) := by decide +kernel
theorem dX1_commonDivisor_3 : decode cX1_commonDivisor 3 = .ok (.astore_n 3, 1) := by decide +kernel
theorem dX1_commonDivisor_4 : decode cX1_commonDivisor 4 = .ok (.iconst 0, 1) := by decide +kernel
theorem dX1_commonDivisor_5 : decode cX1_commonDivisor 5 = .ok (.istore 4, 2) := by decide +kernel
theorem dX1_commonDivisor_7 : decode cX1_commonDivisor 7 = .ok (.iload 4, 2) := by decide +kernel
theorem dX1_commonDivisor_9 : decode cX1_commonDivisor 9 = .ok (.ldc 64, 2) := by decide +kernel
theorem dX1_commonDivisor_11 : decode cX1_commonDivisor 11 = .ok (.if_icmp .ge 30, 3) := by decide +kernel
theorem dX1_commonDivisor_14 : decode cX1_commonDivisor 14 = .ok (.aload_n 3, 1) := by decide +kernel
theorem dX1_commonDivisor_15 : decode cX1_commonDivisor 15 = .ok (.getfield 15, 3) := by decide +kernel
theorem dX1_commonDivisor_18 : decode cX1_commonDivisor 18 = .ok (.ifCond .le 23, 3) := by decide +kernel
theorem dX1_commonDivisor_21 : decode cX1_commonDivisor 21 = .ok (.aload_n 2, 1) := by decide +kernel
theorem dX1_commonDivisor_22 : decode cX1_commonDivisor 22 = .ok (.aload_n 3, 1) := by decide +kernel
theorem dX1_commonDivisor_23 : decode cX1_commonDivisor 23 = .ok (.aconst_null, 1) := by decide +kernel
theorem dX1_commonDivisor_24 : decode cX1_commonDivisor 24 = .ok (.invokevirtual 75, 3) := by decide +kernel
theorem dX1_commonDivisor_27 : decode cX1_commonDivisor 27 = .ok (.aload_n 2, 1) := by decide +kernel
theorem dX1_commonDivisor_28 : decode cX1_commonDivisor 28 = .ok (.astore 5, 2) := by decide +kernel
theorem dX1_commonDivisor_30 : decode cX1_commonDivisor 30 = .ok (.aload_n 3, 1) := by decide +kernel
theorem dX1_commonDivisor_31 : decode cX1_commonDivisor 31 = .ok (.astore_n 2, 1) := by decide +kernel
theorem dX1_commonDivisor_32 : decode cX1_commonDivisor 32 = .ok (.aload 5, 2) := by decide +kernel
theorem dX1_commonDivisor_34 : decode cX1_commonDivisor 34 = .ok (.astore_n 3, 1) := by decide +kernel
theorem dX1_commonDivisor_35 : decode cX1_commonDivisor 35 = .ok (.iinc 4 1, 3) := by decide +kernel
theorem dX1_commonDivisor_38 : decode cX1_commonDivisor 38 = .ok (.goto (-31), 3) := by decide +kernel
theorem dX1_commonDivisor_41 : decode cX1_commonDivisor 41 = .ok (.aload_n 2, 1) := by decide +kernel
theorem dX1_commonDivisor_42 : decode cX1_commonDivisor 42 = .ok (.areturn, 1) := by decide +kernel
theorem dX1_bits_0 : decode cX1_bits 0 = .ok (.aload_n 0, 1) := by decide +kernel
theorem dX1_bits_1 : decode cX1_bits 1 = .ok (.aload_n 0, 1) := by decide +kernel
theorem dX1_bits_2 : decode cX1_bits 2 = .ok (.getfield 15, 3) := by decide +kernel
theorem dX1_bits_5 : decode cX1_bits 5 = .ok (.iconst 1, 1) := by decide +kernel
theorem dX1_bits_6 : decode cX1_bits 6 = .ok (.isub, 1) := by decide +kernel
theorem dX1_bits_7 : decode cX1_bits 7 = .ok (.invokevirtual 31, 3) := by decide +kernel
theorem dX1_bits_10 : decode cX1_bits 10 = .ok (.lstore_n 1, 1) := by decide +kernel
theorem dX1_bits_11 : decode cX1_bits 11 = .ok (.iconst 1, 1) := by decide +kernel
theorem dX1_bits_12 : decode cX1_bits 12 = .ok (.istore_n 3, 1) := by decide +kernel
theorem dX1_bits_13 : decode cX1_bits 13 = .ok (.iload_n 3, 1) := by decide +kernel
theorem dX1_bits_14 : decode cX1_bits 14 = .ok (.bipush 32, 2) := by decide +kernel
theorem dX1_bits_16 : decode cX1_bits 16 = .ok (.if_icmp .ge 16, 3) := by decide +kernel
theorem dX1_bits_19 : decode cX1_bits 19 = .ok (.lload_n 1, 1) := by decide +kernel
theorem dX1_bits_20 : decode cX1_bits 20 = .ok (.lload_n 1, 1) := by decide +kernel
theorem dX1_bits_21 : decode cX1_bits 21 = .ok (.iload_n 3, 1) := by decide +kernel
theorem dX1_bits_22 : decode cX1_bits 22 = .ok (.lushr, 1) := by decide +kernel
theorem dX1_bits_23 : decode cX1_bits 23 = .ok (.lor, 1) := by decide +kernel
theorem dX1_bits_24 : decode cX1_bits 24 = .ok (.lstore_n 1, 1) := by decide +kernel
theorem dX1_bits_25 : decode cX1_bits 25 = .ok (.iload_n 3, 1) := by decide +kernel
theorem dX1_bits_26 : decode cX1_bits 26 = .ok (.iconst 2, 1) := by decide +kernel
theorem dX1_bits_27 : decode cX1_bits 27 = .ok (.imul, 1) := by decide +kernel
theorem dX1_bits_28 : decode cX1_bits 28 = .ok (.istore_n 3, 1) := by decide +kernel
theorem dX1_bits_29 : decode cX1_bits 29 = .ok (.goto (-16), 3) := by decide +kernel
theorem dX1_bits_32 : decode cX1_bits 32 = .ok (.aload_n 0, 1) := by decide +kernel
theorem dX1_bits_33 : decode cX1_bits 33 = .ok (.getfield 15, 3) := by decide +kernel
theorem dX1_bits_36 : decode cX1_bits 36 = .ok (.ifCond .ne 7, 3) := by decide +kernel
theorem dX1_bits_39 : decode cX1_bits 39 = .ok (.iconst 0, 1) := by decide +kernel
theorem dX1_bits_40 : decode cX1_bits 40 = .ok (.goto 17, 3) := by decide +kernel
theorem dX1_bits_43 : decode cX1_bits 43 = .ok (.bipush 32, 2) := by decide +kernel
theorem dX1_bits_45 : decode cX1_bits 45 = .ok (.aload_n 0, 1) := by decide +kernel
theorem dX1_bits_46 : decode cX1_bits 46 = .ok (.getfield 15, 3) := by decide +kernel
theorem dX1_bits_49 : decode cX1_bits 49 = .ok (.iconst 1, 1) := by decide +kernel
theorem dX1_bits_50 : decode cX1_bits 50 = .ok (.isub, 1) := by decide +kernel
theorem dX1_bits_51 : decode cX1_bits 51 = .ok (.imul, 1) := by decide +kernel
theorem dX1_bits_52 : decode cX1_bits 52 = .ok (.lload_n 1, 1) := by decide +kernel
theorem dX1_bits_53 : decode cX1_bits 53 = .ok (.invokestatic 79, 3) := by decide +kernel
theorem dX1_bits_56 : decode cX1_bits 56 = .ok (.iadd, 1) := by decide +kernel
theorem dX1_bits_57 : decode cX1_bits 57 = .ok (.ireturn, 1) := by decide +kernel
theorem dX1_from_0 : decode cX1_from 0 = .ok (.iload_n 1, 1) := by decide +kernel
theorem dX1_from_1 : decode cX1_from 1 = .ok (.iconst 5, 1) := by decide +kernel
theorem dX1_from_2 : decode cX1_from 2 = .ok (.ishr, 1) := by decide +kernel
theorem dX1_from_3 : decode cX1_from 3 = .ok (.istore_n 2, 1) := by decide +kernel
theorem dX1_from_4 : decode cX1_from 4 = .ok (.iload_n 1, 1) := by decide +kernel
theorem dX1_from_5 : decode cX1_from 5 = .ok (.bipush 31, 2) := by decide +kernel
theorem dX1_from_7 : decode cX1_from 7 = .ok (.iand, 1) := by decide +kernel
theorem dX1_from_8 : decode cX1_from 8 = .ok (.istore_n 3, 1) := by decide +kernel
theorem dX1_from_9 : decode cX1_from 9 = .ok (.aload_n 0, 1) := by decide +kernel
theorem dX1_from_10 : decode cX1_from 10 = .ok (.iload_n 2, 1) := by decide +kernel
theorem dX1_from_11 : decode cX1_from 11 = .ok (.invokevirtual 31, 3) := by decide +kernel
theorem dX1_from_14 : decode cX1_from 14 = .ok (.aload_n 0, 1) := by decide +kernel
theorem dX1_from_15 : decode cX1_from 15 = .ok (.iload_n 2, 1) := by decide +kernel
theorem dX1_from_16 : decode cX1_from 16 = .ok (.iconst 1, 1) := by decide +kernel
theorem dX1_from_17 : decode cX1_from 17 = .ok (.iadd, 1) := by decide +kernel
theorem dX1_from_18 : decode cX1_from 18 = .ok (.invokevirtual 31, 3) := by decide +kernel
theorem dX1_from_21 : decode cX1_from 21 = .ok (.bipush 32, 2) := by decide +kernel
theorem dX1_from_23 : decode cX1_from 23 = .ok (.lshl, 1) := by decide +kernel
theorem dX1_from_24 : decode cX1_from 24 = .ok (.lor, 1) := by decide +kernel
theorem dX1_from_25 : decode cX1_from 25 = .ok (.lstore 4, 2) := by decide +kernel
theorem dX1_from_27 : decode cX1_from 27 = .ok (.iload_n 3, 1) := by decide +kernel
theorem dX1_from_28 : decode cX1_from 28 = .ok (.ifCond .ne 8, 3) := by decide +kernel
theorem dX1_from_31 : decode cX1_from 31 = .ok (.lload 4, 2) := by decide +kernel
theorem dX1_from_33 : decode cX1_from 33 = .ok (.goto 20, 3) := by decide +kernel
theorem dX1_from_36 : decode cX1_from 36 = .ok (.lload 4, 2) := by decide +kernel
theorem dX1_from_38 : decode cX1_from 38 = .ok (.iload_n 3, 1) := by decide +kernel
theorem dX1_from_39 : decode cX1_from 39 = .ok (.lushr, 1) := by decide +kernel
theorem dX1_from_40 : decode cX1_from 40 = .ok (.aload_n 0, 1) := by decide +kernel
theorem dX1_from_41 : decode cX1_from 41 = .ok (.iload_n 2, 1) := by decide +kernel
theorem dX1_from_42 : decode cX1_from 42 = .ok (.iconst 2, 1) := by decide +kernel
theorem dX1_from_43 : decode cX1_from 43 = .ok (.iadd, 1) := by decide +kernel
theorem dX1_from_44 : decode cX1_from 44 = .ok (.invokevirtual 31, 3) := by decide +kernel
theorem dX1_from_47 : decode cX1_from 47 = .ok (.bipush 64, 2) := by decide +kernel
theorem dX1_from_49 : decode cX1_from 49 = .ok (.iload_n 3, 1) := by decide +kernel
theorem dX1_from_50 : decode cX1_from 50 = .ok (.isub, 1) := by decide +kernel
theorem dX1_from_51 : decode cX1_from 51 = .ok (.lshl, 1) := by decide +kernel
theorem dX1_from_52 : decode cX1_from 52 = .ok (.lor, 1) := by decide +kernel
theorem dX1_from_53 : decode cX1_from 53 = .ok (.lreturn, 1) := by decide +kernel
theorem dX1_addDigit_0 : decode cX1_addDigit 0 = .ok (.aload_n 0, 1) := by decide +kernel
theorem dX1_addDigit_1 : decode cX1_addDigit 1 = .ok (.aload_n 0, 1) := by decide +kernel
theorem dX1_addDigit_2 : decode cX1_addDigit 2 = .ok (.getfield 15, 3) := by decide +kernel
theorem dX1_addDigit_5 : decode cX1_addDigit 5 = .ok (.iload_n 3, 1) := by decide +kernel
theorem dX1_addDigit_6 : decode cX1_addDigit 6 = .ok (.iconst 1, 1) := by decide +kernel
theorem dX1_addDigit_7 : decode cX1_addDigit 7 = .ok (.iadd, 1) := by decide +kernel
theorem dX1_addDigit_8 : decode cX1_addDigit 8 = .ok (.invokestatic 48, 3) := by decide +kernel
theorem dX1_addDigit_11 : decode cX1_addDigit 11 = .ok (.iconst 1, 1) := by decide +kernel
theorem dX1_addDigit_12 : decode cX1_addDigit 12 = .ok (.iadd, 1) := by decide +kernel
theorem dX1_addDigit_13 : decode cX1_addDigit 13 = .ok (.invokevirtual 37, 3) := by decide +kernel
theorem dX1_addDigit_16 : decode cX1_addDigit 16 = .ok (.lload_n 1, 1) := by decide +kernel
theorem dX1_addDigit_17 : decode cX1_addDigit 17 = .ok (.lstore 4, 2) := by decide +kernel
theorem dX1_addDigit_19 : decode cX1_addDigit 19 = .ok (.aload_n 0, 1) := by decide +kernel
theorem dX1_addDigit_20 : decode cX1_addDigit 20 = .ok (.getfield 15, 3) := by decide +kernel
theorem dX1_addDigit_23 : decode cX1_addDigit 23 = .ok (.aload_n 0, 1) := by decide +kernel
theorem dX1_addDigit_24 : decode cX1_addDigit 24 = .ok (.getfield 9, 3) := by decide +kernel
theorem dX1_addDigit_27 : decode cX1_addDigit 27 = .ok (.arraylength, 1) := by decide +kernel
theorem dX1_addDigit_28 : decode cX1_addDigit 28 = .ok (.invokestatic 19, 3) := by decide +kernel
theorem dX1_addDigit_31 : decode cX1_addDigit 31 = .ok (.istore 6, 2) := by decide +kernel
theorem dX1_addDigit_33 : decode cX1_addDigit 33 = .ok (.iload_n 3, 1) := by decide +kernel
theorem dX1_addDigit_34 : decode cX1_addDigit 34 = .ok (.istore 7, 2) := by decide +kernel
theorem dX1_addDigit_36 : decode cX1_addDigit 36 = .ok (.iload 7, 2) := by decide +kernel
theorem dX1_addDigit_38 : decode cX1_addDigit 38 = .ok (.ifCond .lt 55, 3) := by decide +kernel
theorem dX1_addDigit_41 : decode cX1_addDigit 41 = .ok (.iload 7, 2) := by decide +kernel
theorem dX1_addDigit_43 : decode cX1_addDigit 43 = .ok (.iload 6, 2) := by decide +kernel
theorem dX1_addDigit_45 : decode cX1_addDigit 45 = .ok (.if_icmp .ge 48, 3) := by decide +kernel
theorem dX1_addDigit_48 : decode cX1_addDigit 48 = .ok (.lload 4, 2) := by decide +kernel
theorem dX1_addDigit_50 : decode cX1_addDigit 50 = .ok (.lconst 0, 1) := by decide +kernel
theorem dX1_addDigit_51 : decode cX1_addDigit 51 = .ok (.lcmp, 1) := by decide +kernel
theorem dX1_addDigit_52 : decode cX1_addDigit 52 = .ok (.ifCond .eq 41, 3) := by decide +kernel
theorem dX1_addDigit_55 : decode cX1_addDigit 55 = .ok (.aload_n 0, 1) := by decide +kernel
theorem dX1_addDigit_56 : decode cX1_addDigit 56 = .ok (.getfield 9, 3) := by decide +kernel
theorem dX1_addDigit_59 : decode cX1_addDigit 59 = .ok (.iload 7, 2) := by decide +kernel
theorem dX1_addDigit_61 : decode cX1_addDigit 61 = .ok (.laload, 1) := by decide +kernel
theorem dX1_addDigit_62 : decode cX1_addDigit 62 = .ok (.lload 4, 2) := by decide +kernel
theorem dX1_addDigit_64 : decode cX1_addDigit 64 = .ok (.ladd, 1) := by decide +kernel
theorem dX1_addDigit_65 : decode cX1_addDigit 65 = .ok (.lstore 8, 2) := by decide +kernel
theorem dX1_addDigit_67 : decode cX1_addDigit 67 = .ok (.aload_n 0, 1) := by decide +kernel
theorem dX1_addDigit_68 : decode cX1_addDigit 68 = .ok (.getfield 9, 3) := by decide +kernel
theorem dX1_addDigit_71 : decode cX1_addDigit 71 = .ok (.iload 7, 2) := by decide +kernel
theorem dX1_addDigit_73 : decode cX1_addDigit 73 = .ok (.lload 8, 2) := by decide +kernel
theorem dX1_addDigit_75 : decode cX1_addDigit 75 = .ok (.ldc2_w 35, 3) := by decide +kernel
theorem dX1_addDigit_78 : decode cX1_addDigit 78 = .ok (.land, 1) := by decide +kernel
theorem dX1_addDigit_79 : decode cX1_addDigit 79 = .ok (.lastore, 1) := by decide +kernel
theorem dX1_addDigit_80 : decode cX1_addDigit 80 = .ok (.lload 8, 2) := by decide +kernel
theorem dX1_addDigit_82 : decode cX1_addDigit 82 = .ok (.bipush 32, 2) := by decide +kernel
theorem dX1_addDigit_84 : decode cX1_addDigit 84 = .ok (.lushr, 1) := by decide +kernel
theorem dX1_addDigit_85 : decode cX1_addDigit 85 = .ok (.lstore 4, 2) := by decide +kernel
theorem dX1_addDigit_87 : decode cX1_addDigit 87 = .ok (.iinc 7 1, 3) := by decide +kernel
theorem dX1_addDigit_90 : decode cX1_addDigit 90 = .ok (.goto (-54), 3) := by decide +kernel
theorem dX1_addDigit_93 : decode cX1_addDigit 93 = .ok (.aload_n 0, 1) := by decide +kernel
theorem dX1_addDigit_94 : decode cX1_addDigit 94 = .ok (.invokevirtual 45, 3) := by decide +kernel
theorem dX1_addDigit_97 : decode cX1_addDigit 97 = .ok (.return_, 1) := by decide +kernel
theorem dX1_addMultiple_0 : decode cX1_addMultiple 0 = .ok (.lconst 0, 1) := by decide +kernel
theorem dX1_addMultiple_1 : decode cX1_addMultiple 1 = .ok (.lstore 5, 2) := by decide +kernel
theorem dX1_addMultiple_3 : decode cX1_addMultiple 3 = .ok (.aload_n 0, 1) := by decide +kernel
theorem dX1_addMultiple_4 : decode cX1_addMultiple 4 = .ok (.getfield 15, 3) := by decide +kernel
theorem dX1_addMultiple_7 : decode cX1_addMultiple 7 = .ok (.aload_n 0, 1) := by decide +kernel
theorem dX1_addMultiple_8 : decode cX1_addMultiple 8 = .ok (.getfield 9, 3) := by decide +kernel
theorem dX1_addMultiple_11 : decode cX1_addMultiple 11 = .ok (.arraylength, 1) := by decide +kernel
theorem dX1_addMultiple_12 : decode cX1_addMultiple 12 = .ok (.invokestatic 19, 3) := by decide +kernel
theorem dX1_addMultiple_15 : decode cX1_addMultiple 15 = .ok (.istore 7, 2) := by decide +kernel
theorem dX1_addMultiple_17 : decode cX1_addMultiple 17 = .ok (.iload 4, 2) := by decide +kernel
theorem dX1_addMultiple_19 : decode cX1_addMultiple 19 = .ok (.aload_n 3, 1) := by decide +kernel
theorem dX1_addMultiple_20 : decode cX1_addMultiple 20 = .ok (.getfield 15, 3) := by decide +kernel
theorem dX1_addMultiple_23 : decode cX1_addMultiple 23 = .ok (.aload_n 3, 1) := by decide +kernel
theorem dX1_addMultiple_24 : decode cX1_addMultiple 24 = .ok (.getfield 9, 3) := by decide +kernel
theorem dX1_addMultiple_27 : decode cX1_addMultiple 27 = .ok (.arraylength, 1) := by decide +kernel
theorem dX1_addMultiple_28 : decode cX1_addMultiple 28 = .ok (.invokestatic 19, 3) := by decide +kernel
theorem dX1_addMultiple_31 : decode cX1_addMultiple 31 = .ok (.iadd, 1) := by decide +kernel
theorem dX1_addMultiple_32 : decode cX1_addMultiple 32 = .ok (.istore 8, 2) := by decide +kernel
theorem dX1_addMultiple_34 : decode cX1_addMultiple 34 = .ok (.iload 4, 2) := by decide +kernel
theorem dX1_addMultiple_36 : decode cX1_addMultiple 36 = .ok (.istore 9, 2) := by decide +kernel
theorem dX1_addMultiple_38 : decode cX1_addMultiple 38 = .ok (.iload 9, 2) := by decide +kernel
theorem dX1_addMultiple_40 : decode cX1_addMultiple 40 = .ok (.ifCond .lt 86, 3) := by decide +kernel
theorem dX1_addMultiple_43 : decode cX1_addMultiple 43 = .ok (.iload 9, 2) := by decide +kernel
theorem dX1_addMultiple_45 : decode cX1_addMultiple 45 = .ok (.iload 7, 2) := by decide +kernel
theorem dX1_addMultiple_47 : decode cX1_addMultiple 47 = .ok (.if_icmp .ge 79, 3) := by decide +kernel
theorem dX1_addMultiple_50 : decode cX1_addMultiple 50 = .ok (.iload 9, 2) := by decide +kernel
theorem dX1_addMultiple_52 : decode cX1_addMultiple 52 = .ok (.iload 8, 2) := by decide +kernel
theorem dX1_addMultiple_54 : decode cX1_addMultiple 54 = .ok (.if_icmp .lt 10, 3) := by decide +kernel
theorem dX1_addMultiple_57 : decode cX1_addMultiple 57 = .ok (.lload 5, 2) := by decide +kernel
theorem dX1_addMultiple_59 : decode cX1_addMultiple 59 = .ok (.lconst 0, 1) := by decide +kernel
theorem dX1_addMultiple_60 : decode cX1_addMultiple 60 = .ok (.lcmp, 1) := by decide +kernel
theorem dX1_addMultiple_61 : decode cX1_addMultiple 61 = .ok (.ifCond .eq 65, 3) := by decide +kernel
theorem dX1_addMultiple_64 : decode cX1_addMultiple 64 = .ok (.aload_n 0, 1) := by decide +kernel
theorem dX1_addMultiple_65 : decode cX1_addMultiple 65 = .ok (.getfield 9, 3) := by decide +kernel
theorem dX1_addMultiple_68 : decode cX1_addMultiple 68 = .ok (.iload 9, 2) := by decide +kernel
theorem dX1_addMultiple_70 : decode cX1_addMultiple 70 = .ok (.laload, 1) := by decide +kernel
theorem dX1_addMultiple_71 : decode cX1_addMultiple 71 = .ok (.lload 5, 2) := by decide +kernel
theorem dX1_addMultiple_73 : decode cX1_addMultiple 73 = .ok (.ladd, 1) := by decide +kernel
theorem dX1_addMultiple_74 : decode cX1_addMultiple 74 = .ok (.lstore 10, 2) := by decide +kernel
theorem dX1_addMultiple_76 : decode cX1_addMultiple 76 = .ok (.iload 9, 2) := by decide +kernel
theorem dX1_addMultiple_78 : decode cX1_addMultiple 78 = .ok (.iload 8, 2) := by decide +kernel
theorem dX1_addMultiple_80 : decode cX1_addMultiple 80 = .ok (.if_icmp .ge 20, 3) := by decide +kernel
theorem dX1_addMultiple_83 : decode cX1_addMultiple 83 = .ok (.lload 10, 2) := by decide +kernel
theorem dX1_addMultiple_85 : decode cX1_addMultiple 85 = .ok (.lload_n 1, 1) := by decide +kernel
theorem dX1_addMultiple_86 : decode cX1_addMultiple 86 = .ok (.aload_n 3, 1) := by decide +kernel
theorem dX1_addMultiple_87 : decode cX1_addMultiple 87 = .ok (.getfield 9, 3) := by decide +kernel
theorem dX1_addMultiple_90 : decode cX1_addMultiple 90 = .ok (.iload 9, 2) := by decide +kernel
theorem dX1_addMultiple_92 : decode cX1_addMultiple 92 = .ok (.iload 4, 2) := by decide +kernel
theorem dX1_addMultiple_94 : decode cX1_addMultiple 94 = .ok (.isub, 1) := by decide +kernel
theorem dX1_addMultiple_95 : decode cX1_addMultiple 95 = .ok (.laload, 1) := by decide +kernel
theorem dX1_addMultiple_96 : decode cX1_addMultiple 96 = .ok (.lmul, 1) := by decide +kernel
theorem dX1_addMultiple_97 : decode cX1_addMultiple 97 = .ok (.ladd, 1) := by decide +kernel
theorem dX1_addMultiple_98 : decode cX1_addMultiple 98 = .ok (.lstore 10, 2) := by decide +kernel
theorem dX1_addMultiple_100 : decode cX1_addMultiple 100 = .ok (.aload_n 0, 1) := by decide +kernel
theorem dX1_addMultiple_101 : decode cX1_addMultiple 101 = .ok (.getfield 9, 3) := by decide +kernel
theorem dX1_addMultiple_104 : decode cX1_addMultiple 104 = .ok (.iload 9, 2) := by decide +kernel
theorem dX1_addMultiple_106 : decode cX1_addMultiple 106 = .ok (.lload 10, 2) := by decide +kernel
theorem dX1_addMultiple_108 : decode cX1_addMultiple 108 = .ok (.ldc2_w 35, 3) := by decide +kernel
theorem dX1_addMultiple_111 : decode cX1_addMultiple 111 = .ok (.land, 1) := by decide +kernel
theorem dX1_addMultiple_112 : decode cX1_addMultiple 112 = .ok (.lastore, 1) := by decide +kernel
theorem dX1_addMultiple_113 : decode cX1_addMultiple 113 = .ok (.lload 10, 2) := by decide +kernel
theorem dX1_addMultiple_115 : decode cX1_addMultiple 115 = .ok (.bipush 32, 2) := by decide +kernel
theorem dX1_addMultiple_117 : decode cX1_addMultiple 117 = .ok (.lushr, 1) := by decide +kernel
theorem dX1_addMultiple_118 : decode cX1_addMultiple 118 = .ok (.lstore 5, 2) := by decide +kernel
theorem dX1_addMultiple_120 : decode cX1_addMultiple 120 = .ok (.iinc 9 1, 3) := by decide +kernel
theorem dX1_addMultiple_123 : decode cX1_addMultiple 123 = .ok (.goto (-85), 3) := by decide +kernel
theorem dX1_addMultiple_126 : decode cX1_addMultiple 126 = .ok (.return_, 1) := by decide +kernel
theorem dX1_subtractMultiple_0 : decode cX1_subtractMultiple 0 = .ok (.lconst 0, 1) := by decide +kernel
theorem dX1_subtractMultiple_1 : decode cX1_subtractMultiple 1 = .ok (.lstore 5, 2) := by decide +kernel
theorem dX1_subtractMultiple_3 : decode cX1_subtractMultiple 3 = .ok (.aload_n 0, 1) := by decide +kernel
theorem dX1_subtractMultiple_4 : decode cX1_subtractMultiple 4 = .ok (.getfield 15, 3) := by decide +kernel
theorem dX1_subtractMultiple_7 : decode cX1_subtractMultiple 7 = .ok (.aload_n 0, 1) := by decide +kernel
theorem dX1_subtractMultiple_8 : decode cX1_subtractMultiple 8 = .ok (.getfield 9, 3) := by decide +kernel
theorem dX1_subtractMultiple_11 : decode cX1_subtractMultiple 11 = .ok (.arraylength, 1) := by decide +kernel
theorem dX1_subtractMultiple_12 : decode cX1_subtractMultiple 12 = .ok (.invokestatic 19, 3) := by decide +kernel
theorem dX1_subtractMultiple_15 : decode cX1_subtractMultiple 15 = .ok (.istore 7, 2) := by decide +kernel
theorem dX1_subtractMultiple_17 : decode cX1_subtractMultiple 17 = .ok (.iload 4, 2) := by decide +kernel
theorem dX1_subtractMultiple_19 : decode cX1_subtractMultiple 19 = .ok (.aload_n 3, 1) := by decide +kernel
theorem dX1_subtractMultiple_20 : decode cX1_subtractMultiple 20 = .ok (.getfield 15, 3) := by decide +kernel
theorem dX1_subtractMultiple_23 : decode cX1_subtractMultiple 23 = .ok (.aload_n 3, 1) := by decide +kernel
theorem dX1_subtractMultiple_24 : decode cX1_subtractMultiple 24 = .ok (.getfield 9, 3) := by decide +kernel
theorem dX1_subtractMultiple_27 : decode cX1_subtractMultiple 27 = .ok (.arraylength, 1) := by decide +kernel
theorem dX1_subtractMultiple_28 : decode cX1_subtractMultiple 28 = .ok (.invokestatic 19, 3) := by decide +kernel
theorem dX1_subtractMultiple_31 : decode cX1_subtractMultiple 31 = .ok (.iadd, 1) := by decide +kernel
theorem dX1_subtractMultiple_32 : decode cX1_subtractMultiple 32 = .ok (.istore 8, 2) := by decide +kernel
theorem dX1_subtractMultiple_34 : decode cX1_subtractMultiple 34 = .ok (.iload 4, 2) := by decide +kernel
theorem dX1_subtractMultiple_36 : decode cX1_subtractMultiple 36 = .ok (.istore 9, 2) := by decide +kernel
theorem dX1_subtractMultiple_38 : decode cX1_subtractMultiple 38 = .ok (.iload 9, 2) := by decide +kernel
theorem dX1_subtractMultiple_40 : decode cX1_subtractMultiple 40 = .ok (.ifCond .lt 108, 3) := by decide +kernel
theorem dX1_subtractMultiple_43 : decode cX1_subtractMultiple 43 = .ok (.iload 9, 2) := by decide +kernel
theorem dX1_subtractMultiple_45 : decode cX1_subtractMultiple 45 = .ok (.iload 7, 2) := by decide +kernel
theorem dX1_subtractMultiple_47 : decode cX1_subtractMultiple 47 = .ok (.if_icmp .ge 101, 3) := by decide +kernel
theorem dX1_subtractMultiple_50 : decode cX1_subtractMultiple 50 = .ok (.iload 9, 2) := by decide +kernel
theorem dX1_subtractMultiple_52 : decode cX1_subtractMultiple 52 = .ok (.iload 8, 2) := by decide +kernel
theorem dX1_subtractMultiple_54 : decode cX1_subtractMultiple 54 = .ok (.if_icmp .lt 10, 3) := by decide +kernel
theorem dX1_subtractMultiple_57 : decode cX1_subtractMultiple 57 = .ok (.lload 5, 2) := by decide +kernel
theorem dX1_subtractMultiple_59 : decode cX1_subtractMultiple 59 = .ok (.lconst 0, 1) := by decide +kernel
theorem dX1_subtractMultiple_60 : decode cX1_subtractMultiple 60 = .ok (.lcmp, 1) := by decide +kernel
theorem dX1_subtractMultiple_61 : decode cX1_subtractMultiple 61 = .ok (.ifCond .eq 87, 3) := by decide +kernel
theorem dX1_subtractMultiple_64 : decode cX1_subtractMultiple 64 = .ok (.lload 5, 2) := by decide +kernel
theorem dX1_subtractMultiple_66 : decode cX1_subtractMultiple 66 = .ok (.lstore 10, 2) := by decide +kernel
theorem dX1_subtractMultiple_68 : decode cX1_subtractMultiple 68 = .ok (.iload 9, 2) := by decide +kernel
theorem dX1_subtractMultiple_70 : decode cX1_subtractMultiple 70 = .ok (.iload 8, 2) := by decide +kernel
theorem dX1_subtractMultiple_72 : decode cX1_subtractMultiple 72 = .ok (.if_icmp .ge 20, 3) := by decide +kernel
theorem dX1_subtractMultiple_75 : decode cX1_subtractMultiple 75 = .ok (.lload 10, 2) := by decide +kernel
theorem dX1_subtractMultiple_77 : decode cX1_subtractMultiple 77 = .ok (.lload_n 1, 1) := by decide +kernel
theorem dX1_subtractMultiple_78 : decode cX1_subtractMultiple 78 = .ok (.aload_n 3, 1) := by decide +kernel
theorem dX1_subtractMultiple_79 : decode cX1_subtractMultiple 79 = .ok (.getfield 9, 3) := by decide +kernel
theorem dX1_subtractMultiple_82 : decode cX1_subtractMultiple 82 = .ok (.iload 9, 2) := by decide +kernel
theorem dX1_subtractMultiple_84 : decode cX1_subtractMultiple 84 = .ok (.iload 4, 2) := by decide +kernel
theorem dX1_subtractMultiple_86 : decode cX1_subtractMultiple 86 = .ok (.isub, 1) := by decide +kernel
theorem dX1_subtractMultiple_87 : decode cX1_subtractMultiple 87 = .ok (.laload, 1) := by decide +kernel
theorem dX1_subtractMultiple_88 : decode cX1_subtractMultiple 88 = .ok (.lmul, 1) := by decide +kernel
theorem dX1_subtractMultiple_89 : decode cX1_subtractMultiple 89 = .ok (.ladd, 1) := by decide +kernel
theorem dX1_subtractMultiple_90 : decode cX1_subtractMultiple 90 = .ok (.lstore 10, 2) := by decide +kernel
theorem dX1_subtractMultiple_92 : decode cX1_subtractMultiple 92 = .ok (.aload_n 0, 1) := by decide +kernel
theorem dX1_subtractMultiple_93 : decode cX1_subtractMultiple 93 = .ok (.getfield 9, 3) := by decide +kernel
theorem dX1_subtractMultiple_96 : decode cX1_subtractMultiple 96 = .ok (.iload 9, 2) := by decide +kernel
theorem dX1_subtractMultiple_98 : decode cX1_subtractMultiple 98 = .ok (.laload, 1) := by decide +kernel
theorem dX1_subtractMultiple_99 : decode cX1_subtractMultiple 99 = .ok (.lload 10, 2) := by decide +kernel
theorem dX1_subtractMultiple_101 : decode cX1_subtractMultiple 101 = .ok (.ldc2_w 35, 3) := by decide +kernel
theorem dX1_subtractMultiple_104 : decode cX1_subtractMultiple 104 = .ok (.land, 1) := by decide +kernel
theorem dX1_subtractMultiple_105 : decode cX1_subtractMultiple 105 = .ok (.lsub, 1) := by decide +kernel
theorem dX1_subtractMultiple_106 : decode cX1_subtractMultiple 106 = .ok (.lstore 12, 2) := by decide +kernel
theorem dX1_subtractMultiple_108 : decode cX1_subtractMultiple 108 = .ok (.aload_n 0, 1) := by decide +kernel
theorem dX1_subtractMultiple_109 : decode cX1_subtractMultiple 109 = .ok (.getfield 9, 3) := by decide +kernel
theorem dX1_subtractMultiple_112 : decode cX1_subtractMultiple 112 = .ok (.iload 9, 2) := by decide +kernel
theorem dX1_subtractMultiple_114 : decode cX1_subtractMultiple 114 = .ok (.lload 12, 2) := by decide +kernel
theorem dX1_subtractMultiple_116 : decode cX1_subtractMultiple 116 = .ok (.ldc2_w 35, 3) := by decide +kernel
theorem dX1_subtractMultiple_119 : decode cX1_subtractMultiple 119 = .ok (.land, 1) := by decide +kernel
theorem dX1_subtractMultiple_120 : decode cX1_subtractMultiple 120 = .ok (.lastore, 1) := by decide +kernel
theorem dX1_subtractMultiple_121 : decode cX1_subtractMultiple 121 = .ok (.lload 10, 2) := by decide +kernel
theorem dX1_subtractMultiple_123 : decode cX1_subtractMultiple 123 = .ok (.bipush 32, 2) := by decide +kernel
theorem dX1_subtractMultiple_125 : decode cX1_subtractMultiple 125 = .ok (.lushr, 1) := by decide +kernel
theorem dX1_subtractMultiple_126 : decode cX1_subtractMultiple 126 = .ok (.lload 12, 2) := by decide +kernel
theorem dX1_subtractMultiple_128 : decode cX1_subtractMultiple 128 = .ok (.lconst 0, 1) := by decide +kernel
theorem dX1_subtractMultiple_129 : decode cX1_subtractMultiple 129 = .ok (.lcmp, 1) := by decide +kernel
theorem dX1_subtractMultiple_130 : decode cX1_subtractMultiple 130 = .ok (.ifCond .ge 7, 3) := by decide +kernel
theorem dX1_subtractMultiple_133 : decode cX1_subtractMultiple 133 = .ok (.iconst 1, 1) := by decide +kernel
theorem dX1_subtractMultiple_134 : decode cX1_subtractMultiple 134 = .ok (.goto 4, 3) := by decide +kernel
theorem dX1_subtractMultiple_137 : decode cX1_subtractMultiple 137 = .ok (.iconst 0, 1) := by decide +kernel
theorem dX1_subtractMultiple_138 : decode cX1_subtractMultiple 138 = .ok (.i2l, 1) := by decide +kernel
theorem dX1_subtractMultiple_139 : decode cX1_subtractMultiple 139 = .ok (.ladd, 1) := by decide +kernel
theorem dX1_subtractMultiple_140 : decode cX1_subtractMultiple 140 = .ok (.lstore 5, 2) := by decide +kernel
theorem dX1_subtractMultiple_142 : decode cX1_subtractMultiple 142 = .ok (.iinc 9 1, 3) := by decide +kernel
theorem dX1_subtractMultiple_145 : decode cX1_subtractMultiple 145 = .ok (.goto (-107), 3) := by decide +kernel
theorem dX1_subtractMultiple_148 : decode cX1_subtractMultiple 148 = .ok (.aload_n 0, 1) := by decide +kernel
theorem dX1_subtractMultiple_149 : decode cX1_subtractMultiple 149 = .ok (.invokevirtual 45, 3) := by decide +kernel
theorem dX1_subtractMultiple_152 : decode cX1_subtractMultiple 152 = .ok (.return_, 1) := by decide +kernel
theorem dX1_widen_0 : decode cX1_widen 0 = .ok (.iload_n 1, 1) := by decide +kernel
theorem dX1_widen_1 : decode cX1_widen 1 = .ok (.aload_n 0, 1) := by decide +kernel
theorem dX1_widen_2 : decode cX1_widen 2 = .ok (.getfield 9, 3) := by decide +kernel
theorem dX1_widen_5 : decode cX1_widen 5 = .ok (.arraylength, 1) := by decide +kernel
theorem dX1_widen_6 : decode cX1_widen 6 = .ok (.invokestatic 19, 3) := by decide +kernel
theorem dX1_widen_9 : decode cX1_widen 9 = .ok (.istore_n 2, 1) := by decide +kernel
theorem dX1_widen_10 : decode cX1_widen 10 = .ok (.aload_n 0, 1) := by decide +kernel
theorem dX1_widen_11 : decode cX1_widen 11 = .ok (.getfield 15, 3) := by decide +kernel
theorem dX1_widen_14 : decode cX1_widen 14 = .ok (.istore_n 3, 1) := by decide +kernel
theorem dX1_widen_15 : decode cX1_widen 15 = .ok (.iload_n 3, 1) := by decide +kernel
theorem dX1_widen_16 : decode cX1_widen 16 = .ok (.iload_n 2, 1) := by decide +kernel
theorem dX1_widen_17 : decode cX1_widen 17 = .ok (.if_icmp .ge 16, 3) := by decide +kernel
theorem dX1_widen_20 : decode cX1_widen 20 = .ok (.aload_n 0, 1) := by decide +kernel
theorem dX1_widen_21 : decode cX1_widen 21 = .ok (.getfield 9, 3) := by decide +kernel
theorem dX1_widen_24 : decode cX1_widen 24 = .ok (.iload_n 3, 1) := by decide +kernel
theorem dX1_widen_25 : decode cX1_widen 25 = .ok (.lconst 0, 1) := by decide +kernel
theorem dX1_widen_26 : decode cX1_widen 26 = .ok (.lastore, 1) := by decide +kernel
theorem dX1_widen_27 : decode cX1_widen 27 = .ok (.iinc 3 1, 3) := by decide +kernel
theorem dX1_widen_30 : decode cX1_widen 30 = .ok (.goto (-15), 3) := by decide +kernel
theorem dX1_widen_33 : decode cX1_widen 33 = .ok (.aload_n 0, 1) := by decide +kernel
theorem dX1_widen_34 : decode cX1_widen 34 = .ok (.aload_n 0, 1) := by decide +kernel
theorem dX1_widen_35 : decode cX1_widen 35 = .ok (.getfield 15, 3) := by decide +kernel
theorem dX1_widen_38 : decode cX1_widen 38 = .ok (.iload_n 2, 1) := by decide +kernel
theorem dX1_widen_39 : decode cX1_widen 39 = .ok (.invokestatic 48, 3) := by decide +kernel
theorem dX1_widen_42 : decode cX1_widen 42 = .ok (.putfield 15, 3) := by decide +kernel
theorem dX1_widen_45 : decode cX1_widen 45 = .ok (.return_, 1) := by decide +kernel
theorem dX1_trim_0 : decode cX1_trim 0 = .ok (.aload_n 0, 1) := by decide +kernel
theorem dX1_trim_1 : decode cX1_trim 1 = .ok (.getfield 15, 3) := by decide +kernel
theorem dX1_trim_4 : decode cX1_trim 4 = .ok (.aload_n 0, 1) := by decide +kernel
theorem dX1_trim_5 : decode cX1_trim 5 = .ok (.getfield 9, 3) := by decide +kernel
theorem dX1_trim_8 : decode cX1_trim 8 = .ok (.arraylength, 1) := by decide +kernel
theorem dX1_trim_9 : decode cX1_trim 9 = .ok (.invokestatic 19, 3) := by decide +kernel
theorem dX1_trim_12 : decode cX1_trim 12 = .ok (.iconst 1, 1) := by decide +kernel
theorem dX1_trim_13 : decode cX1_trim 13 = .ok (.isub, 1) := by decide +kernel
theorem dX1_trim_14 : decode cX1_trim 14 = .ok (.istore_n 1, 1) := by decide +kernel
theorem dX1_trim_15 : decode cX1_trim 15 = .ok (.iload_n 1, 1) := by decide +kernel
theorem dX1_trim_16 : decode cX1_trim 16 = .ok (.ifCond .lt 25, 3) := by decide +kernel
theorem dX1_trim_19 : decode cX1_trim 19 = .ok (.aload_n 0, 1) := by decide +kernel
theorem dX1_trim_20 : decode cX1_trim 20 = .ok (.getfield 9, 3) := by decide +kernel
theorem dX1_trim_23 : decode cX1_trim 23 = .ok (.iload_n 1, 1) := by decide +kernel
theorem dX1_trim_24 : decode cX1_trim 24 = .ok (.laload, 1) := by decide +kernel
theorem dX1_trim_25 : decode cX1_trim 25 = .ok (.lconst 0, 1) := by decide +kernel
theorem dX1_trim_26 : decode cX1_trim 26 = .ok (.lcmp, 1) := by decide +kernel
theorem dX1_trim_27 : decode cX1_trim 27 = .ok (.ifCond .ne 14, 3) := by decide +kernel
theorem dX1_trim_30 : decode cX1_trim 30 = .ok (.aload_n 0, 1) := by decide +kernel
theorem dX1_trim_31 : decode cX1_trim 31 = .ok (.iload_n 1, 1) := by decide +kernel
theorem dX1_trim_32 : decode cX1_trim 32 = .ok (.putfield 15, 3) := by decide +kernel
theorem dX1_trim_35 : decode cX1_trim 35 = .ok (.iinc 1 (-1), 3) := by decide +kernel
theorem dX1_trim_38 : decode cX1_trim 38 = .ok (.goto (-23), 3) := by decide +kernel
theorem dX1_trim_41 : decode cX1_trim 41 = .ok (.return_, 1) := by decide +kernel
theorem dX2_init_0 : decode cX2_init 0 = .ok (.aload_n 0, 1) := by decide +kernel
theorem dX2_init_1 : decode cX2_init 1 = .ok (.invokespecial 5, 3) := by decide +kernel
theorem dX2_init_4 : decode cX2_init 4 = .ok (.aload_n 0, 1) := by decide +kernel
theorem dX2_init_5 : decode cX2_init 5 = .ok (.aload_n 1, 1) := by decide +kernel
theorem dX2_init_6 : decode cX2_init 6 = .ok (.putfield 11, 3) := by decide +kernel
theorem dX2_init_9 : decode cX2_init 9 = .ok (.aload_n 0, 1) := by decide +kernel
theorem dX2_init_10 : decode cX2_init 10 = .ok (.aload_n 2, 1) := by decide +kernel
theorem dX2_init_11 : decode cX2_init 11 = .ok (.putfield 15, 3) := by decide +kernel
theorem dX2_init_14 : decode cX2_init 14 = .ok (.aload_n 0, 1) := by decide +kernel
theorem dX2_init_15 : decode cX2_init 15 = .ok (.sipush 160, 3) := by decide +kernel
theorem dX2_init_18 : decode cX2_init 18 = .ok (.anewarray 19, 3) := by decide +kernel
theorem dX2_init_21 : decode cX2_init 21 = .ok (.putfield 21, 3) := by decide +kernel
theorem dX2_init_24 : decode cX2_init 24 = .ok (.aload_n 0, 1) := by decide +kernel
theorem dX2_init_25 : decode cX2_init 25 = .ok (.new 19, 3) := by decide +kernel
theorem dX2_init_28 : decode cX2_init 28 = .ok (.dup, 1) := by decide +kernel
theorem dX2_init_29 : decode cX2_init 29 = .ok (.new 25, 3) := by decide +kernel
theorem dX2_init_32 : decode cX2_init 32 = .ok (.dup, 1) := by decide +kernel
theorem dX2_init_33 : decode cX2_init 33 = .ok (.iconst 1, 1) := by decide +kernel
theorem dX2_init_34 : decode cX2_init 34 = .ok (.invokespecial 27, 3) := by decide +kernel
theorem dX2_init_37 : decode cX2_init 37 = .ok (.new 25, 3) := by decide +kernel
theorem dX2_init_40 : decode cX2_init 40 = .ok (.dup, 1) := by decide +kernel
theorem dX2_init_41 : decode cX2_init 41 = .ok (.iconst 1, 1) := by decide +kernel
theorem dX2_init_42 : decode cX2_init 42 = .ok (.invokespecial 27, 3) := by decide +kernel
theorem dX2_init_45 : decode cX2_init 45 = .ok (.invokespecial 30, 3) := by decide +kernel
theorem dX2_init_48 : decode cX2_init 48 = .ok (.putfield 33, 3) := by decide +kernel
theorem dX2_init_51 : decode cX2_init 51 = .ok (.aload_n 0, 1) := by decide +kernel
theorem dX2_init_52 : decode cX2_init 52 = .ok (.new 19, 3) := by decide +kernel
theorem dX2_init_55 : decode cX2_init 55 = .ok (.dup, 1) := by decide +kernel
theorem dX2_init_56 : decode cX2_init 56 = .ok (.new 25, 3) := by decide +kernel
theorem dX2_init_59 : decode cX2_init 59 = .ok (.dup, 1) := by decide +kernel
theorem dX2_init_60 : decode cX2_init 60 = .ok (.bipush 30, 2) := by decide +kernel
theorem dX2_init_62 : decode cX2_init 62 = .ok (.invokespecial 27, 3) := by decide +kernel
theorem dX2_init_65 : decode cX2_init 65 = .ok (.new 25, 3) := by decide +kernel
theorem dX2_init_68 : decode cX2_init 68 = .ok (.dup, 1) := by decide +kernel
theorem dX2_init_69 : decode cX2_init 69 = .ok (.bipush 30, 2) := by decide +kernel
theorem dX2_init_71 : decode cX2_init 71 = .ok (.invokespecial 27, 3) := by decide +kernel
theorem dX2_init_74 : decode cX2_init 74 = .ok (.invokespecial 30, 3) := by decide +kernel
theorem dX2_init_77 : decode cX2_init 77 = .ok (.putfield 37, 3) := by decide +kernel
theorem dX2_init_80 : decode cX2_init 80 = .ok (.aload_n 0, 1) := by decide +kernel
theorem dX2_init_81 : decode cX2_init 81 = .ok (.iconst 0, 1) := by decide +kernel
theorem dX2_init_82 : decode cX2_init 82 = .ok (.putfield 40, 3) := by decide +kernel
theorem dX2_init_85 : decode cX2_init 85 = .ok (.aload_n 0, 1) := by decide +kernel
theorem dX2_init_86 : decode cX2_init 86 = .ok (.new 25, 3) := by decide +kernel
theorem dX2_init_89 : decode cX2_init 89 = .ok (.dup, 1) := by decide +kernel
theorem dX2_init_90 : decode cX2_init 90 = .ok (.bipush 60, 2) := by decide +kernel
theorem dX2_init_92 : decode cX2_init 92 = .ok (.invokespecial 27, 3) := by decide +kernel
theorem dX2_init_95 : decode cX2_init 95 = .ok (.putfield 44, 3) := by decide +kernel
theorem dX2_init_98 : decode cX2_init 98 = .ok (.aload_n 0, 1) := by decide +kernel
theorem dX2_init_99 : decode cX2_init 99 = .ok (.new 25, 3) := by decide +kernel
theorem dX2_init_102 : decode cX2_init 102 = .ok (.dup, 1) := by decide +kernel
theorem dX2_init_103 : decode cX2_init 103 = .ok (.bipush 60, 2) := by decide +kernel
theorem dX2_init_105 : decode cX2_init 105 = .ok (.invokespecial 27, 3) := by decide +kernel
theorem dX2_init_108 : decode cX2_init 108 = .ok (.putfield 48, 3) := by decide +kernel
theorem dX2_init_111 : decode cX2_init 111 = .ok (.return_, 1) := by decide +kernel
theorem dX2_forget_0 : decode cX2_forget 0 = .ok (.aload_n 0, 1) := by decide +kernel
theorem dX2_forget_1 : decode cX2_forget 1 = .ok (.getfield 37, 3) := by decide +kernel
theorem dX2_forget_4 : decode cX2_forget 4 = .ok (.iconst 0, 1) := by decide +kernel
theorem dX2_forget_5 : decode cX2_forget 5 = .ok (.putfield 51, 3) := by decide +kernel
theorem dX2_forget_8 : decode cX2_forget 8 = .ok (.iconst 0, 1) := by decide +kernel
theorem dX2_forget_9 : decode cX2_forget 9 = .ok (.istore_n 1, 1) := by decide +kernel
theorem dX2_forget_10 : decode cX2_forget 10 = .ok (.iload_n 1, 1) := by decide +kernel
theorem dX2_forget_11 : decode cX2_forget 11 = .ok (.aload_n 0, 1) := by decide +kernel
theorem dX2_forget_12 : decode cX2_forget 12 = .ok (.getfield 21, 3) := by decide +kernel
theorem dX2_forget_15 : decode cX2_forget 15 = .ok (.arraylength, 1) := by decide +kernel
theorem dX2_forget_16 : decode cX2_forget 16 = .ok (.if_icmp .ge 28, 3) := by decide +kernel
theorem dX2_forget_19 : decode cX2_forget 19 = .ok (.aload_n 0, 1) := by decide +kernel
theorem dX2_forget_20 : decode cX2_forget 20 = .ok (.getfield 21, 3) := by decide +kernel
theorem dX2_forget_23 : decode cX2_forget 23 = .ok (.iload_n 1, 1) := by decide +kernel
theorem dX2_forget_24 : decode cX2_forget 24 = .ok (.aaload, 1) := by decide +kernel
theorem dX2_forget_25 : decode cX2_forget 25 = .ok (.ifnull 13, 3) := by decide +kernel
theorem dX2_forget_28 : decode cX2_forget 28 = .ok (.aload_n 0, 1) := by decide +kernel
theorem dX2_forget_29 : decode cX2_forget 29 = .ok (.getfield 21, 3) := by decide +kernel
theorem dX2_forget_32 : decode cX2_forget 32 = .ok (.iload_n 1, 1) := by decide +kernel
theorem dX2_forget_33 : decode cX2_forget 33 = .ok (.aaload, 1) := by decide +kernel
theorem dX2_forget_34 : decode cX2_forget 34 = .ok (.iconst 0, 1) := by decide +kernel
theorem dX2_forget_35 : decode cX2_forget 35 = .ok (.putfield 51, 3) := by decide +kernel
theorem dX2_forget_38 : decode cX2_forget 38 = .ok (.iinc 1 1, 3) := by decide +kernel
theorem dX2_forget_41 : decode cX2_forget 41 = .ok (.goto (-31), 3) := by decide +kernel
theorem dX2_forget_44 : decode cX2_forget 44 = .ok (.return_, 1) := by decide +kernel
theorem dX2_ofGraph_0 : decode cX2_ofGraph 0 = .ok (.aload_n 0, 1) := by decide +kernel
theorem dX2_ofGraph_1 : decode cX2_ofGraph 1 = .ok (.getfield 37, 3) := by decide +kernel
theorem dX2_ofGraph_4 : decode cX2_ofGraph 4 = .ok (.getfield 51, 3) := by decide +kernel
theorem dX2_ofGraph_7 : decode cX2_ofGraph 7 = .ok (.ifCond .eq 16, 3) := by decide +kernel
theorem dX2_ofGraph_10 : decode cX2_ofGraph 10 = .ok (.aload_n 0, 1) := by decide +kernel
theorem dX2_ofGraph_11 : decode cX2_ofGraph 11 = .ok (.getfield 40, 3) := by decide +kernel
theorem dX2_ofGraph_14 : decode cX2_ofGraph 14 = .ok (.iload_n 1, 1) := by decide +kernel
theorem dX2_ofGraph_15 : decode cX2_ofGraph 15 = .ok (.if_icmp .ne 8, 3) := by decide +kernel
theorem dX2_ofGraph_18 : decode cX2_ofGraph 18 = .ok (.aload_n 0, 1) := by decide +kernel
theorem dX2_ofGraph_19 : decode cX2_ofGraph 19 = .ok (.getfield 37, 3) := by decide +kernel
theorem dX2_ofGraph_22 : decode cX2_ofGraph 22 = .ok (.areturn, 1) := by decide +kernel
theorem dX2_ofGraph_23 : decode cX2_ofGraph 23 = .ok (.aload_n 0, 1) := by decide +kernel
theorem dX2_ofGraph_24 : decode cX2_ofGraph 24 = .ok (.getfield 15, 3) := by decide +kernel
theorem dX2_ofGraph_27 : decode cX2_ofGraph 27 = .ok (.invokevirtual 55, 3) := by decide +kernel
theorem dX2_ofGraph_30 : decode cX2_ofGraph 30 = .ok (.iconst 0, 1) := by decide +kernel
theorem dX2_ofGraph_31 : decode cX2_ofGraph 31 = .ok (.istore_n 2, 1) := by decide +kernel
theorem dX2_ofGraph_32 : decode cX2_ofGraph 32 = .ok (.iload_n 2, 1) := by decide +kernel
theorem dX2_ofGraph_33 : decode cX2_ofGraph 33 = .ok (.aload_n 0, 1) := by decide +kernel
theorem dX2_ofGraph_34 : decode cX2_ofGraph 34 = .ok (.getfield 11, 3) := by decide +kernel
theorem dX2_ofGraph_37 : decode cX2_ofGraph 37 = .ok (.getfield 60, 3) := by decide +kernel
theorem dX2_ofGraph_40 : decode cX2_ofGraph 40 = .ok (.if_icmp .ge 26, 3) := by decide +kernel
theorem dX2_ofGraph_43 : decode cX2_ofGraph 43 = .ok (.aload_n 0, 1) := by decide +kernel
theorem dX2_ofGraph_44 : decode cX2_ofGraph 44 = .ok (.getfield 11, 3) := by decide +kernel
theorem dX2_ofGraph_47 : decode cX2_ofGraph 47 = .ok (.iload_n 2, 1) := by decide +kernel
theorem dX2_ofGraph_48 : decode cX2_ofGraph 48 = .ok (.iload_n 1, 1) := by decide +kernel
theorem dX2_ofGraph_49 : decode cX2_ofGraph 49 = .ok (.iload_n 2, 1) := by decide +kernel
theorem dX2_ofGraph_50 : decode cX2_ofGraph 50 = .ok (.invokestatic 65, 3) := by decide +kernel
theorem dX2_ofGraph_53 : decode cX2_ofGraph 53 = .ok (.aload_n 0, 1) := by decide +kernel
theorem dX2_ofGraph_54 : decode cX2_ofGraph 54 = .ok (.getfield 15, 3) := by decide +kernel
theorem dX2_ofGraph_57 : decode cX2_ofGraph 57 = .ok (.invokevirtual 71, 3) := by decide +kernel
theorem dX2_ofGraph_60 : decode cX2_ofGraph 60 = .ok (.iinc 2 1, 3) := by decide +kernel
theorem dX2_ofGraph_63 : decode cX2_ofGraph 63 = .ok (.goto (-31), 3) := by decide +kernel
theorem dX2_ofGraph_66 : decode cX2_ofGraph 66 = .ok (.aload_n 0, 1) := by decide +kernel
theorem dX2_ofGraph_67 : decode cX2_ofGraph 67 = .ok (.getfield 15, 3) := by decide +kernel
theorem dX2_ofGraph_70 : decode cX2_ofGraph 70 = .ok (.iconst 1, 1) := by decide +kernel
theorem dX2_ofGraph_71 : decode cX2_ofGraph 71 = .ok (.aload_n 0, 1) := by decide +kernel
theorem dX2_ofGraph_72 : decode cX2_ofGraph 72 = .ok (.getfield 37, 3) := by decide +kernel
theorem dX2_ofGraph_75 : decode cX2_ofGraph 75 = .ok (.getfield 75, 3) := by decide +kernel
theorem dX2_ofGraph_78 : decode cX2_ofGraph 78 = .ok (.invokevirtual 78, 3) := by decide +kernel
theorem dX2_ofGraph_81 : decode cX2_ofGraph 81 = .ok (.aload_n 0, 1) := by decide +kernel
theorem dX2_ofGraph_82 : decode cX2_ofGraph 82 = .ok (.getfield 15, 3) := by decide +kernel
theorem dX2_ofGraph_85 : decode cX2_ofGraph 85 = .ok (.iconst (-1), 1) := by decide +kernel
theorem dX2_ofGraph_86 : decode cX2_ofGraph 86 = .ok (.aload_n 0, 1) := by decide +kernel
theorem dX2_ofGraph_87 : decode cX2_ofGraph 87 = .ok (.getfield 37, 3) := by decide +kernel
theorem dX2_ofGraph_90 : decode cX2_ofGraph 90 = .ok (.getfield 82, 3) := by decide +kernel
theorem dX2_ofGraph_93 : decode cX2_ofGraph 93 = .ok (.invokevirtual 78, 3) := by decide +kernel
theorem dX2_ofGraph_96 : decode cX2_ofGraph 96 = .ok (.aload_n 0, 1) := by decide +kernel
theorem dX2_ofGraph_97 : decode cX2_ofGraph 97 = .ok (.getfield 37, 3) := by decide +kernel
theorem dX2_ofGraph_100 : decode cX2_ofGraph 100 = .ok (.iconst 1, 1) := by decide +kernel
theorem dX2_ofGraph_101 : decode cX2_ofGraph 101 = .ok (.putfield 51, 3) := by decide +kernel
theorem dX2_ofGraph_104 : decode cX2_ofGraph 104 = .ok (.aload_n 0, 1) := by decide +kernel
theorem dX2_ofGraph_105 : decode cX2_ofGraph 105 = .ok (.iload_n 1, 1) := by decide +kernel
theorem dX2_ofGraph_106 : decode cX2_ofGraph 106 = .ok (.putfield 40, 3) := by decide +kernel
theorem dX2_ofGraph_109 : decode cX2_ofGraph 109 = .ok (.aload_n 0, 1) := by decide +kernel
theorem dX2_ofGraph_110 : decode cX2_ofGraph 110 = .ok (.getfield 37, 3) := by decide +kernel
theorem dX2_ofGraph_113 : decode cX2_ofGraph 113 = .ok (.areturn, 1) := by decide +kernel
theorem dX2_weigh_0 : decode cX2_weigh 0 = .ok (.aload_n 0, 1) := by decide +kernel
theorem dX2_weigh_1 : decode cX2_weigh 1 = .ok (.getfield 44, 3) := by decide +kernel
theorem dX2_weigh_4 : decode cX2_weigh 4 = .ok (.iconst 1, 1) := by decide +kernel
theorem dX2_weigh_5 : decode cX2_weigh 5 = .ok (.invokevirtual 85, 3) := by decide +kernel
theorem dX2_weigh_8 : decode cX2_weigh 8 = .ok (.aload_n 0, 1) := by decide +kernel
theorem dX2_weigh_9 : decode cX2_weigh 9 = .ok (.getfield 48, 3) := by decide +kernel
theorem dX2_weigh_12 : decode cX2_weigh 12 = .ok (.iconst 1, 1) := by decide +kernel
theorem dX2_weigh_13 : decode cX2_weigh 13 = .ok (.invokevirtual 85, 3) := by decide +kernel
theorem dX2_weigh_16 : decode cX2_weigh 16 = .ok (.iconst 0, 1) := by decide +kernel
theorem dX2_weigh_17 : decode cX2_weigh 17 = .ok (.istore_n 3, 1) := by decide +kernel
theorem dX2_weigh_18 : decode cX2_weigh 18 = .ok (.iload_n 3, 1) := by decide +kernel
theorem dX2_weigh_19 : decode cX2_weigh 19 = .ok (.aload_n 0, 1) := by decide +kernel
theorem dX2_weigh_20 : decode cX2_weigh 20 = .ok (.getfield 11, 3) := by decide +kernel
theorem dX2_weigh_23 : decode cX2_weigh 23 = .ok (.getfield 60, 3) := by decide +kernel
theorem dX2_weigh_26 : decode cX2_weigh 26 = .ok (.if_icmp .ge 99, 3) := by decide +kernel
theorem dX2_weigh_29 : decode cX2_weigh 29 = .ok (.iload_n 1, 1) := by decide +kernel
theorem dX2_weigh_30 : decode cX2_weigh 30 = .ok (.iload_n 3, 1) := by decide +kernel
theorem dX2_weigh_31 : decode cX2_weigh 31 = .ok (.invokestatic 65, 3) := by decide +kernel
theorem dX2_weigh_34 : decode cX2_weigh 34 = .ok (.istore 4, 2) := by decide +kernel
theorem dX2_weigh_36 : decode cX2_weigh 36 = .ok (.iload_n 2, 1) := by decide +kernel
theorem dX2_weigh_37 : decode cX2_weigh 37 = .ok (.iload_n 3, 1) := by decide +kernel
theorem dX2_weigh_38 : decode cX2_weigh 38 = .ok (.invokestatic 65, 3) := by decide +kernel
theorem dX2_weigh_41 : decode cX2_weigh 41 = .ok (.istore 5, 2) := by decide +kernel
theorem dX2_weigh_43 : decode cX2_weigh 43 = .ok (.iload 4, 2) := by decide +kernel
theorem dX2_weigh_45 : decode cX2_weigh 45 = .ok (.iload 5, 2) := by decide +kernel
theorem dX2_weigh_47 : decode cX2_weigh 47 = .ok (.if_icmp .ne 6, 3) := by decide +kernel
theorem dX2_weigh_50 : decode cX2_weigh 50 = .ok (.goto 69, 3) := by decide +kernel
theorem dX2_weigh_53 : decode cX2_weigh 53 = .ok (.aload_n 0, 1) := by decide +kernel
theorem dX2_weigh_54 : decode cX2_weigh 54 = .ok (.iload_n 3, 1) := by decide +kernel
theorem dX2_weigh_55 : decode cX2_weigh 55 = .ok (.iload 4, 2) := by decide +kernel
theorem dX2_weigh_57 : decode cX2_weigh 57 = .ok (.invokevirtual 88, 3) := by decide +kernel
theorem dX2_weigh_60 : decode cX2_weigh 60 = .ok (.astore 6, 2) := by decide +kernel
theorem dX2_weigh_62 : decode cX2_weigh 62 = .ok (.aload_n 0, 1) := by decide +kernel
theorem dX2_weigh_63 : decode cX2_weigh 63 = .ok (.iload_n 3, 1) := by decide +kernel
theorem dX2_weigh_64 : decode cX2_weigh 64 = .ok (.iload 5, 2) := by decide +kernel
theorem dX2_weigh_66 : decode cX2_weigh 66 = .ok (.invokevirtual 88, 3) := by decide +kernel
theorem dX2_weigh_69 : decode cX2_weigh 69 = .ok (.astore 7, 2) := by decide +kernel
theorem dX2_weigh_71 : decode cX2_weigh 71 = .ok (.aload_n 0, 1) := by decide +kernel
theorem dX2_weigh_72 : decode cX2_weigh 72 = .ok (.getfield 44, 3) := by decide +kernel
theorem dX2_weigh_75 : decode cX2_weigh 75 = .ok (.aload 6, 2) := by decide +kernel
theorem dX2_weigh_77 : decode cX2_weigh 77 = .ok (.getfield 75, 3) := by decide +kernel
theorem dX2_weigh_80 : decode cX2_weigh 80 = .ok (.invokevirtual 92, 3) := by decide +kernel
theorem dX2_weigh_83 : decode cX2_weigh 83 = .ok (.aload_n 0, 1) := by decide +kernel
theorem dX2_weigh_84 : decode cX2_weigh 84 = .ok (.getfield 44, 3) := by decide +kernel
theorem dX2_weigh_87 : decode cX2_weigh 87 = .ok (.aload 7, 2) := by decide +kernel
theorem dX2_weigh_89 : decode cX2_weigh 89 = .ok (.getfield 82, 3) := by decide +kernel
theorem dX2_weigh_92 : decode cX2_weigh 92 = .ok (.invokevirtual 92, 3) := by decide +kernel
theorem dX2_weigh_95 : decode cX2_weigh 95 = .ok (.aload_n 0, 1) := by decide +kernel
theorem dX2_weigh_96 : decode cX2_weigh 96 = .ok (.getfield 48, 3) := by decide +kernel
theorem dX2_weigh_99 : decode cX2_weigh 99 = .ok (.aload 7, 2) := by decide +kernel
theorem dX2_weigh_101 : decode cX2_weigh 101 = .ok (.getfield 75, 3) := by decide +kernel
theorem dX2_weigh_104 : decode cX2_weigh 104 = .ok (.invokevirtual 92, 3) := by decide +kernel
theorem dX2_weigh_107 : decode cX2_weigh 107 = .ok (.aload_n 0, 1) := by decide +kernel
theorem dX2_weigh_108 : decode cX2_weigh 108 = .ok (.getfield 48, 3) := by decide +kernel
theorem dX2_weigh_111 : decode cX2_weigh 111 = .ok (.aload 6, 2) := by decide +kernel
theorem dX2_weigh_113 : decode cX2_weigh 113 = .ok (.getfield 82, 3) := by decide +kernel
theorem dX2_weigh_116 : decode cX2_weigh 116 = .ok (.invokevirtual 92, 3) := by decide +kernel
theorem dX2_weigh_119 : decode cX2_weigh 119 = .ok (.iinc 3 1, 3) := by decide +kernel
theorem dX2_weigh_122 : decode cX2_weigh 122 = .ok (.goto (-104), 3) := by decide +kernel
theorem dX2_weigh_125 : decode cX2_weigh 125 = .ok (.aload_n 0, 1) := by decide +kernel
theorem dX2_weigh_126 : decode cX2_weigh 126 = .ok (.getfield 44, 3) := by decide +kernel
theorem dX2_weigh_129 : decode cX2_weigh 129 = .ok (.aload_n 0, 1) := by decide +kernel
theorem dX2_weigh_130 : decode cX2_weigh 130 = .ok (.getfield 48, 3) := by decide +kernel
theorem dX2_weigh_133 : decode cX2_weigh 133 = .ok (.invokevirtual 96, 3) := by decide +kernel
theorem dX2_weigh_136 : decode cX2_weigh 136 = .ok (.ireturn, 1) := by decide +kernel
theorem dX2_ofName_0 : decode cX2_ofName 0 = .ok (.iload_n 1, 1) := by decide +kernel
theorem dX2_ofName_1 : decode cX2_ofName 1 = .ok (.bipush 32, 2) := by decide +kernel
theorem dX2_ofName_3 : decode cX2_ofName 3 = .ok (.imul, 1) := by decide +kernel
theorem dX2_ofName_4 : decode cX2_ofName 4 = .ok (.iload_n 2, 1) := by decide +kernel
theorem dX2_ofName_5 : decode cX2_ofName 5 = .ok (.iadd, 1) := by decide +kernel
theorem dX2_ofName_6 : decode cX2_ofName 6 = .ok (.istore_n 3, 1) := by decide +kernel
theorem dX2_ofName_7 : decode cX2_ofName 7 = .ok (.iload_n 3, 1) := by decide +kernel
theorem dX2_ofName_8 : decode cX2_ofName 8 = .ok (.ifCond .lt 12, 3) := by decide +kernel
theorem dX2_ofName_11 : decode cX2_ofName 11 = .ok (.iload_n 3, 1) := by decide +kernel
theorem dX2_ofName_12 : decode cX2_ofName 12 = .ok (.aload_n 0, 1) := by decide +kernel
theorem dX2_ofName_13 : decode cX2_ofName 13 = .ok (.getfield 21, 3) := by decide +kernel
theorem dX2_ofName_16 : decode cX2_ofName 16 = .ok (.arraylength, 1) := by decide +kernel
theorem dX2_ofName_17 : decode cX2_ofName 17 = .ok (.if_icmp .lt 8, 3) := by decide +kernel
theorem dX2_ofName_20 : decode cX2_ofName 20 = .ok (.aload_n 0, 1) := by decide +kernel
theorem dX2_ofName_21 : decode cX2_ofName 21 = .ok (.getfield 33, 3) := by decide +kernel
theorem dX2_ofName_24 : decode cX2_ofName 24 = .ok (.areturn, 1) := by decide +kernel
theorem dX2_ofName_25 : decode cX2_ofName 25 = .ok (.aload_n 0, 1) := by decide +kernel
theorem dX2_ofName_26 : decode cX2_ofName 26 = .ok (.getfield 21, 3) := by decide +kernel
theorem dX2_ofName_29 : decode cX2_ofName 29 = .ok (.iload_n 3, 1) := by decide +kernel
theorem dX2_ofName_30 : decode cX2_ofName 30 = .ok (.aaload, 1) := by decide +kernel
theorem dX2_ofName_31 : decode cX2_ofName 31 = .ok (.ifnonnull 34, 3) := by decide +kernel
theorem dX2_ofName_34 : decode cX2_ofName 34 = .ok (.aload_n 0, 1) := by decide +kernel
theorem dX2_ofName_35 : decode cX2_ofName 35 = .ok (.getfield 21, 3) := by decide +kernel
theorem dX2_ofName_38 : decode cX2_ofName 38 = .ok (.iload_n 3, 1) := by decide +kernel
theorem dX2_ofName_39 : decode cX2_ofName 39 = .ok (.new 19, 3) := by decide +kernel
theorem dX2_ofName_42 : decode cX2_ofName 42 = .ok (.dup, 1) := by decide +kernel
theorem dX2_ofName_43 : decode cX2_ofName 43 = .ok (.new 25, 3) := by decide +kernel
theorem dX2_ofName_46 : decode cX2_ofName 46 = .ok (.dup, 1) := by decide +kernel
theorem dX2_ofName_47 : decode cX2_ofName 47 = .ok (.bipush 6, 2) := by decide +kernel
theorem dX2_ofName_49 : decode cX2_ofName 49 = .ok (.invokespecial 27, 3) := by decide +kernel
theorem dX2_ofName_52 : decode cX2_ofName 52 = .ok (.new 25, 3) := by decide +kernel
theorem dX2_ofName_55 : decode cX2_ofName 55 = .ok (.dup, 1) := by decide +kernel
theorem dX2_ofName_56 : decode cX2_ofName 56 = .ok (.bipush 6, 2) := by decide +kernel
theorem dX2_ofName_58 : decode cX2_ofName 58 = .ok (.invokespecial 27, 3) := by decide +kernel
theorem dX2_ofName_61 : decode cX2_ofName 61 = .ok (.invokespecial 30, 3) := by decide +kernel
theorem dX2_ofName_64 : decode cX2_ofName 64 = .ok (.aastore, 1) := by decide +kernel
theorem dX2_ofName_65 : decode cX2_ofName 65 = .ok (.aload_n 0, 1) := by decide +kernel
theorem dX2_ofName_66 : decode cX2_ofName 66 = .ok (.getfield 21, 3) := by decide +kernel
theorem dX2_ofName_69 : decode cX2_ofName 69 = .ok (.iload_n 3, 1) := by decide +kernel
theorem dX2_ofName_70 : decode cX2_ofName 70 = .ok (.aaload, 1) := by decide +kernel
theorem dX2_ofName_71 : decode cX2_ofName 71 = .ok (.astore 4, 2) := by decide +kernel
theorem dX2_ofName_73 : decode cX2_ofName 73 = .ok (.aload 4, 2) := by decide +kernel
theorem dX2_ofName_75 : decode cX2_ofName 75 = .ok (.getfield 51, 3) := by decide +kernel
theorem dX2_ofName_78 : decode cX2_ofName 78 = .ok (.ifCond .ne 55, 3) := by decide +kernel
theorem dX2_ofName_81 : decode cX2_ofName 81 = .ok (.aload_n 0, 1) := by decide +kernel
theorem dX2_ofName_82 : decode cX2_ofName 82 = .ok (.getfield 15, 3) := by decide +kernel
theorem dX2_ofName_85 : decode cX2_ofName 85 = .ok (.invokevirtual 55, 3) := by decide +kernel
theorem dX2_ofName_88 : decode cX2_ofName 88 = .ok (.aload_n 0, 1) := by decide +kernel
theorem dX2_ofName_89 : decode cX2_ofName 89 = .ok (.getfield 11, 3) := by decide +kernel
theorem dX2_ofName_92 : decode cX2_ofName 92 = .ok (.iload_n 1, 1) := by decide +kernel
theorem dX2_ofName_93 : decode cX2_ofName 93 = .ok (.iload_n 2, 1) := by decide +kernel
theorem dX2_ofName_94 : decode cX2_ofName 94 = .ok (.aload_n 0, 1) := by decide +kernel
theorem dX2_ofName_95 : decode cX2_ofName 95 = .ok (.getfield 15, 3) := by decide +kernel
theorem dX2_ofName_98 : decode cX2_ofName 98 = .ok (.invokevirtual 71, 3) := by decide +kernel
theorem dX2_ofName_101 : decode cX2_ofName 101 = .ok (.aload_n 0, 1) := by decide +kernel
theorem dX2_ofName_102 : decode cX2_ofName 102 = .ok (.getfield 15, 3) := by decide +kernel
theorem dX2_ofName_105 : decode cX2_ofName 105 = .ok (.iconst 1, 1) := by decide +kernel
theorem dX2_ofName_106 : decode cX2_ofName 106 = .ok (.aload 4, 2) := by decide +kernel
theorem dX2_ofName_108 : decode cX2_ofName 108 = .ok (.getfield 75, 3) := by decide +kernel
theorem dX2_ofName_111 : decode cX2_ofName 111 = .ok (.invokevirtual 78, 3) := by decide +kernel
theorem dX2_ofName_114 : decode cX2_ofName 114 = .ok (.aload_n 0, 1) := by decide +kernel
theorem dX2_ofName_115 : decode cX2_ofName 115 = .ok (.getfield 15, 3) := by decide +kernel
theorem dX2_ofName_118 : decode cX2_ofName 118 = .ok (.iconst (-1), 1) := by decide +kernel
theorem dX2_ofName_119 : decode cX2_ofName 119 = .ok (.aload 4, 2) := by decide +kernel
theorem dX2_ofName_121 : decode cX2_ofName 121 = .ok (.getfield 82, 3) := by decide +kernel
theorem dX2_ofName_124 : decode cX2_ofName 124 = .ok (.invokevirtual 78, 3) := by decide +kernel
theorem dX2_ofName_127 : decode cX2_ofName 127 = .ok (.aload 4, 2) := by decide +kernel
theorem dX2_ofName_129 : decode cX2_ofName 129 = .ok (.iconst 1, 1) := by decide +kernel
theorem dX2_ofName_130 : decode cX2_ofName 130 = .ok (.putfield 51, 3) := by decide +kernel
theorem dX2_ofName_133 : decode cX2_ofName 133 = .ok (.aload 4, 2) := by decide +kernel
theorem dX2_ofName_135 : decode cX2_ofName 135 = .ok (.areturn, 1) := by decide +kernel
theorem dX3_init_0 : decode cX3_init 0 = .ok (.aload_n 0, 1) := by decide +kernel
theorem dX3_init_1 : decode cX3_init 1 = .ok (.invokespecial 1, 3) := by decide +kernel
theorem dX3_init_4 : decode cX3_init 4 = .ok (.aload_n 0, 1) := by decide +kernel
theorem dX3_init_5 : decode cX3_init 5 = .ok (.aload_n 1, 1) := by decide +kernel
theorem dX3_init_6 : decode cX3_init 6 = .ok (.putfield 7, 3) := by decide +kernel
theorem dX3_init_9 : decode cX3_init 9 = .ok (.aload_n 0, 1) := by decide +kernel
theorem dX3_init_10 : decode cX3_init 10 = .ok (.aload_n 2, 1) := by decide +kernel
theorem dX3_init_11 : decode cX3_init 11 = .ok (.putfield 13, 3) := by decide +kernel
theorem dX3_init_14 : decode cX3_init 14 = .ok (.aload_n 0, 1) := by decide +kernel
theorem dX3_init_15 : decode cX3_init 15 = .ok (.iconst 0, 1) := by decide +kernel
theorem dX3_init_16 : decode cX3_init 16 = .ok (.putfield 16, 3) := by decide +kernel
theorem dX3_init_19 : decode cX3_init 19 = .ok (.return_, 1) := by decide +kernel
theorem dX3_side_0 : decode cX3_side 0 = .ok (.iload_n 1, 1) := by decide +kernel
theorem dX3_side_1 : decode cX3_side 1 = .ok (.ifCond .ne 10, 3) := by decide +kernel
theorem dX3_side_4 : decode cX3_side 4 = .ok (.aload_n 0, 1) := by decide +kernel
theorem dX3_side_5 : decode cX3_side 5 = .ok (.getfield 7, 3) := by decide +kernel
theorem dX3_side_8 : decode cX3_side 8 = .ok (.goto 7, 3) := by decide +kernel
theorem dX3_side_11 : decode cX3_side 11 = .ok (.aload_n 0, 1) := by decide +kernel
theorem dX3_side_12 : decode cX3_side 12 = .ok (.getfield 13, 3) := by decide +kernel
theorem dX3_side_15 : decode cX3_side 15 = .ok (.areturn, 1) := by decide +kernel
theorem dX4_init_0 : decode cX4_init 0 = .ok (.aload_n 0, 1) := by decide +kernel
theorem dX4_init_1 : decode cX4_init 1 = .ok (.invokespecial 3, 3) := by decide +kernel
theorem dX4_init_4 : decode cX4_init 4 = .ok (.aload_n 0, 1) := by decide +kernel
theorem dX4_init_5 : decode cX4_init 5 = .ok (.iconst 0, 1) := by decide +kernel
theorem dX4_init_6 : decode cX4_init 6 = .ok (.putfield 9, 3) := by decide +kernel
theorem dX4_init_9 : decode cX4_init 9 = .ok (.aload_n 0, 1) := by decide +kernel
theorem dX4_init_10 : decode cX4_init 10 = .ok (.iconst 0, 1) := by decide +kernel
theorem dX4_init_11 : decode cX4_init 11 = .ok (.putfield 15, 3) := by decide +kernel
theorem dX4_init_14 : decode cX4_init 14 = .ok (.aload_n 0, 1) := by decide +kernel
theorem dX4_init_15 : decode cX4_init 15 = .ok (.iconst 0, 1) := by decide +kernel
theorem dX4_init_16 : decode cX4_init 16 = .ok (.putfield 18, 3) := by decide +kernel
theorem dX4_init_19 : decode cX4_init 19 = .ok (.aload_n 0, 1) := by decide +kernel
theorem dX4_init_20 : decode cX4_init 20 = .ok (.iconst 0, 1) := by decide +kernel
theorem dX4_init_21 : decode cX4_init 21 = .ok (.putfield 21, 3) := by decide +kernel
theorem dX4_init_24 : decode cX4_init 24 = .ok (.return_, 1) := by decide +kernel
theorem dX4_ties_0 : decode cX4_ties 0 = .ok (.iconst 0, 1) := by decide +kernel
theorem dX4_ties_1 : decode cX4_ties 1 = .ok (.istore_n 1, 1) := by decide +kernel
theorem dX4_ties_2 : decode cX4_ties 2 = .ok (.iconst 0, 1) := by decide +kernel
theorem dX4_ties_3 : decode cX4_ties 3 = .ok (.istore_n 2, 1) := by decide +kernel
theorem dX4_ties_4 : decode cX4_ties 4 = .ok (.iload_n 2, 1) := by decide +kernel
theorem dX4_ties_5 : decode cX4_ties 5 = .ok (.iconst 5, 1) := by decide +kernel
theorem dX4_ties_6 : decode cX4_ties 6 = .ok (.if_icmp .ge 50, 3) := by decide +kernel
theorem dX4_ties_9 : decode cX4_ties 9 = .ok (.iload_n 2, 1) := by decide +kernel
theorem dX4_ties_10 : decode cX4_ties 10 = .ok (.iconst 1, 1) := by decide +kernel
theorem dX4_ties_11 : decode cX4_ties 11 = .ok (.iadd, 1) := by decide +kernel
theorem dX4_ties_12 : decode cX4_ties 12 = .ok (.istore_n 3, 1) := by decide +kernel
theorem dX4_ties_13 : decode cX4_ties 13 = .ok (.iload_n 3, 1) := by decide +kernel
theorem dX4_ties_14 : decode cX4_ties 14 = .ok (.iconst 5, 1) := by decide +kernel
theorem dX4_ties_15 : decode cX4_ties 15 = .ok (.if_icmp .ge 35, 3) := by decide +kernel
theorem dX4_ties_18 : decode cX4_ties 18 = .ok (.iload_n 0, 1) := by decide +kernel
theorem dX4_ties_19 : decode cX4_ties 19 = .ok (.iload_n 2, 1) := by decide +kernel
theorem dX4_ties_20 : decode cX4_ties 20 = .ok (.iload_n 3, 1) := by decide +kernel
theorem dX4_ties_21 : decode cX4_ties 21 = .ok (.invokestatic 24, 3) := by decide +kernel
theorem dX4_ties_24 : decode cX4_ties 24 = .ok (.ifCond .ne 12, 3) := by decide +kernel
theorem dX4_ties_27 : decode cX4_ties 27 = .ok (.iload_n 0, 1) := by decide +kernel
theorem dX4_ties_28 : decode cX4_ties 28 = .ok (.iload_n 3, 1) := by decide +kernel
theorem dX4_ties_29 : decode cX4_ties 29 = .ok (.iload_n 2, 1) := by decide +kernel
theorem dX4_ties_30 : decode cX4_ties 30 = .ok (.invokestatic 24, 3) := by decide +kernel
theorem dX4_ties_33 : decode cX4_ties 33 = .ok (.ifCond .eq 11, 3) := by decide +kernel
theorem dX4_ties_36 : decode cX4_ties 36 = .ok (.iload_n 1, 1) := by decide +kernel
theorem dX4_ties_37 : decode cX4_ties 37 = .ok (.iload_n 2, 1) := by decide +kernel
theorem dX4_ties_38 : decode cX4_ties 38 = .ok (.iload_n 3, 1) := by decide +kernel
theorem dX4_ties_39 : decode cX4_ties 39 = .ok (.invokestatic 30, 3) := by decide +kernel
theorem dX4_ties_42 : decode cX4_ties 42 = .ok (.ior, 1) := by decide +kernel
theorem dX4_ties_43 : decode cX4_ties 43 = .ok (.istore_n 1, 1) := by decide +kernel
theorem dX4_ties_44 : decode cX4_ties 44 = .ok (.iinc 3 1, 3) := by decide +kernel
theorem dX4_ties_47 : decode cX4_ties 47 = .ok (.goto (-34), 3) := by decide +kernel
theorem dX4_ties_50 : decode cX4_ties 50 = .ok (.iinc 2 1, 3) := by decide +kernel
theorem dX4_ties_53 : decode cX4_ties 53 = .ok (.goto (-49), 3) := by decide +kernel
theorem dX4_ties_56 : decode cX4_ties 56 = .ok (.iload_n 1, 1) := by decide +kernel
theorem dX4_ties_57 : decode cX4_ties 57 = .ok (.ireturn, 1) := by decide +kernel
theorem dX4_meetings_0 : decode cX4_meetings 0 = .ok (.iload_n 0, 1) := by decide +kernel
theorem dX4_meetings_1 : decode cX4_meetings 1 = .ok (.invokestatic 34, 3) := by decide +kernel
theorem dX4_meetings_4 : decode cX4_meetings 4 = .ok (.istore_n 1, 1) := by decide +kernel
theorem dX4_meetings_5 : decode cX4_meetings 5 = .ok (.lconst 0, 1) := by decide +kernel
theorem dX4_meetings_6 : decode cX4_meetings 6 = .ok (.lstore_n 2, 1) := by decide +kernel
theorem dX4_meetings_7 : decode cX4_meetings 7 = .ok (.iconst 0, 1) := by decide +kernel
theorem dX4_meetings_8 : decode cX4_meetings 8 = .ok (.istore 4, 2) := by decide +kernel
theorem dX4_meetings_10 : decode cX4_meetings 10 = .ok (.iconst 0, 1) := by decide +kernel
theorem dX4_meetings_11 : decode cX4_meetings 11 = .ok (.istore 5, 2) := by decide +kernel
theorem dX4_meetings_13 : decode cX4_meetings 13 = .ok (.iload 5, 2) := by decide +kernel
theorem dX4_meetings_15 : decode cX4_meetings 15 = .ok (.iconst 5, 1) := by decide +kernel
theorem dX4_meetings_16 : decode cX4_meetings 16 = .ok (.if_icmp .ge 103, 3) := by decide +kernel
theorem dX4_meetings_19 : decode cX4_meetings 19 = .ok (.iload_n 0, 1) := by decide +kernel
theorem dX4_meetings_20 : decode cX4_meetings 20 = .ok (.iload 5, 2) := by decide +kernel
theorem dX4_meetings_22 : decode cX4_meetings 22 = .ok (.invokestatic 38, 3) := by decide +kernel
theorem dX4_meetings_25 : decode cX4_meetings 25 = .ok (.istore 6, 2) := by decide +kernel
theorem dX4_meetings_27 : decode cX4_meetings 27 = .ok (.iconst 0, 1) := by decide +kernel
theorem dX4_meetings_28 : decode cX4_meetings 28 = .ok (.istore 7, 2) := by decide +kernel
theorem dX4_meetings_30 : decode cX4_meetings 30 = .ok (.iload 7, 2) := by decide +kernel
theorem dX4_meetings_32 : decode cX4_meetings 32 = .ok (.iconst 5, 1) := by decide +kernel
theorem dX4_meetings_33 : decode cX4_meetings 33 = .ok (.if_icmp .ge 80, 3) := by decide +kernel
theorem dX4_meetings_36 : decode cX4_meetings 36 = .ok (.iload 7, 2) := by decide +kernel
theorem dX4_meetings_38 : decode cX4_meetings 38 = .ok (.iconst 1, 1) := by decide +kernel
theorem dX4_meetings_39 : decode cX4_meetings 39 = .ok (.iadd, 1) := by decide +kernel
theorem dX4_meetings_40 : decode cX4_meetings 40 = .ok (.istore 8, 2) := by decide +kernel
theorem dX4_meetings_42 : decode cX4_meetings 42 = .ok (.iload 8, 2) := by decide +kernel
theorem dX4_meetings_44 : decode cX4_meetings 44 = .ok (.iconst 5, 1) := by decide +kernel
theorem dX4_meetings_45 : decode cX4_meetings 45 = .ok (.if_icmp .ge 62, 3) := by decide +kernel
theorem dX4_meetings_48 : decode cX4_meetings 48 = .ok (.iload 6, 2) := by decide +kernel
theorem dX4_meetings_50 : decode cX4_meetings 50 = .ok (.iload 7, 2) := by decide +kernel
theorem dX4_meetings_52 : decode cX4_meetings 52 = .ok (.invokestatic 41, 3) := by decide +kernel
theorem dX4_meetings_55 : decode cX4_meetings 55 = .ok (.ifCond .eq 28, 3) := by decide +kernel
theorem dX4_meetings_58 : decode cX4_meetings 58 = .ok (.iload 6, 2) := by decide +kernel
theorem dX4_meetings_60 : decode cX4_meetings 60 = .ok (.iload 8, 2) := by decide +kernel
theorem dX4_meetings_62 : decode cX4_meetings 62 = .ok (.invokestatic 41, 3) := by decide +kernel
theorem dX4_meetings_65 : decode cX4_meetings 65 = .ok (.ifCond .eq 18, 3) := by decide +kernel
theorem dX4_meetings_68 : decode cX4_meetings 68 = .ok (.iload_n 1, 1) := by decide +kernel
theorem dX4_meetings_69 : decode cX4_meetings 69 = .ok (.iload 7, 2) := by decide +kernel
theorem dX4_meetings_71 : decode cX4_meetings 71 = .ok (.iload 8, 2) := by decide +kernel
theorem dX4_meetings_73 : decode cX4_meetings 73 = .ok (.invokestatic 24, 3) := by decide +kernel
theorem dX4_meetings_76 : decode cX4_meetings 76 = .ok (.ifCond .ne 7, 3) := by decide +kernel
theorem dX4_meetings_79 : decode cX4_meetings 79 = .ok (.iconst 1, 1) := by decide +kernel
theorem dX4_meetings_80 : decode cX4_meetings 80 = .ok (.goto 4, 3) := by decide +kernel
theorem dX4_meetings_83 : decode cX4_meetings 83 = .ok (.iconst 0, 1) := by decide +kernel
theorem dX4_meetings_84 : decode cX4_meetings 84 = .ok (.istore 9, 2) := by decide +kernel
theorem dX4_meetings_86 : decode cX4_meetings 86 = .ok (.iload 9, 2) := by decide +kernel
theorem dX4_meetings_88 : decode cX4_meetings 88 = .ok (.ifCond .eq 10, 3) := by decide +kernel
theorem dX4_meetings_91 : decode cX4_meetings 91 = .ok (.lload_n 2, 1) := by decide +kernel
theorem dX4_meetings_92 : decode cX4_meetings 92 = .ok (.lconst 1, 1) := by decide +kernel
theorem dX4_meetings_93 : decode cX4_meetings 93 = .ok (.iload 4, 2) := by decide +kernel
theorem dX4_meetings_95 : decode cX4_meetings 95 = .ok (.lshl, 1) := by decide +kernel
theorem dX4_meetings_96 : decode cX4_meetings 96 = .ok (.lor, 1) := by decide +kernel
theorem dX4_meetings_97 : decode cX4_meetings 97 = .ok (.lstore_n 2, 1) := by decide +kernel
theorem dX4_meetings_98 : decode cX4_meetings 98 = .ok (.iinc 4 1, 3) := by decide +kernel
theorem dX4_meetings_101 : decode cX4_meetings 101 = .ok (.iinc 8 1, 3) := by decide +kernel
theorem dX4_meetings_104 : decode cX4_meetings 104 = .ok (.goto (-62), 3) := by decide +kernel
theorem dX4_meetings_107 : decode cX4_meetings 107 = .ok (.iinc 7 1, 3) := by decide +kernel
theorem dX4_meetings_110 : decode cX4_meetings 110 = .ok (.goto (-80), 3) := by decide +kernel
theorem dX4_meetings_113 : decode cX4_meetings 113 = .ok (.iinc 5 1, 3) := by decide +kernel
theorem dX4_meetings_116 : decode cX4_meetings 116 = .ok (.goto (-103), 3) := by decide +kernel
theorem dX4_meetings_119 : decode cX4_meetings 119 = .ok (.lload_n 2, 1) := by decide +kernel
theorem dX4_meetings_120 : decode cX4_meetings 120 = .ok (.lreturn, 1) := by decide +kernel
theorem dX4_gather_0 : decode cX4_gather 0 = .ok (.iload_n 1, 1) := by decide +kernel
theorem dX4_gather_1 : decode cX4_gather 1 = .ok (.invokestatic 34, 3) := by decide +kernel
theorem dX4_gather_4 : decode cX4_gather 4 = .ok (.istore_n 3, 1) := by decide +kernel
theorem dX4_gather_5 : decode cX4_gather 5 = .ok (.iload_n 1, 1) := by decide +kernel
theorem dX4_gather_6 : decode cX4_gather 6 = .ok (.invokestatic 45, 3) := by decide +kernel
theorem dX4_gather_9 : decode cX4_gather 9 = .ok (.lstore 4, 2) := by decide +kernel
theorem dX4_gather_11 : decode cX4_gather 11 = .ok (.iconst 1, 1) := by decide +kernel
theorem dX4_gather_12 : decode cX4_gather 12 = .ok (.iload_n 3, 1) := by decide +kernel
theorem dX4_gather_13 : decode cX4_gather 13 = .ok (.invokestatic 49, 3) := by decide +kernel
theorem dX4_gather_16 : decode cX4_gather 16 = .ok (.ishl, 1) := by decide +kernel
theorem dX4_gather_17 : decode cX4_gather 17 = .ok (.istore 6, 2) := by decide +kernel
theorem dX4_gather_19 : decode cX4_gather 19 = .ok (.iconst 0, 1) := by decide +kernel
theorem dX4_gather_20 : decode cX4_gather 20 = .ok (.istore 7, 2) := by decide +kernel
theorem dX4_gather_22 : decode cX4_gather 22 = .ok (.iload 7, 2) := by decide +kernel
theorem dX4_gather_24 : decode cX4_gather 24 = .ok (.iload 6, 2) := by decide +kernel
theorem dX4_gather_26 : decode cX4_gather 26 = .ok (.if_icmp .ge 43, 3) := by decide +kernel
theorem dX4_gather_29 : decode cX4_gather 29 = .ok (.iload_n 3, 1) := by decide +kernel
theorem dX4_gather_30 : decode cX4_gather 30 = .ok (.iload 7, 2) := by decide +kernel
theorem dX4_gather_32 : decode cX4_gather 32 = .ok (.invokestatic 54, 3) := by decide +kernel
theorem dX4_gather_35 : decode cX4_gather 35 = .ok (.istore 8, 2) := by decide +kernel
theorem dX4_gather_37 : decode cX4_gather 37 = .ok (.iload 8, 2) := by decide +kernel
theorem dX4_gather_39 : decode cX4_gather 39 = .ok (.iload_n 2, 1) := by decide +kernel
theorem dX4_gather_40 : decode cX4_gather 40 = .ok (.invokestatic 57, 3) := by decide +kernel
theorem dX4_gather_43 : decode cX4_gather 43 = .ok (.ifCond .eq 20, 3) := by decide +kernel
theorem dX4_gather_46 : decode cX4_gather 46 = .ok (.iload 8, 2) := by decide +kernel
theorem dX4_gather_48 : decode cX4_gather 48 = .ok (.invokestatic 45, 3) := by decide +kernel
theorem dX4_gather_51 : decode cX4_gather 51 = .ok (.lload 4, 2) := by decide +kernel
theorem dX4_gather_53 : decode cX4_gather 53 = .ok (.lcmp, 1) := by decide +kernel
theorem dX4_gather_54 : decode cX4_gather 54 = .ok (.ifCond .ne 9, 3) := by decide +kernel
theorem dX4_gather_57 : decode cX4_gather 57 = .ok (.aload_n 0, 1) := by decide +kernel
theorem dX4_gather_58 : decode cX4_gather 58 = .ok (.iload 8, 2) := by decide +kernel
theorem dX4_gather_60 : decode cX4_gather 60 = .ok (.invokevirtual 60, 3) := by decide +kernel
theorem dX4_gather_63 : decode cX4_gather 63 = .ok (.iinc 7 1, 3) := by decide +kernel
theorem dX4_gather_66 : decode cX4_gather 66 = .ok (.goto (-44), 3) := by decide +kernel
theorem dX4_gather_69 : decode cX4_gather 69 = .ok (.return_, 1) := by decide +kernel
theorem dX4_add_0 : decode cX4_add 0 = .ok (.aload_n 0, 1) := by decide +kernel
theorem dX4_add_1 : decode cX4_add 1 = .ok (.aload_n 0, 1) := by decide +kernel
theorem dX4_add_2 : decode cX4_add 2 = .ok (.getfield 9, 3) := by decide +kernel
theorem dX4_add_5 : decode cX4_add 5 = .ok (.ifCond .ne 7, 3) := by decide +kernel
theorem dX4_add_8 : decode cX4_add 8 = .ok (.iload_n 1, 1) := by decide +kernel
theorem dX4_add_9 : decode cX4_add 9 = .ok (.goto 11, 3) := by decide +kernel
theorem dX4_add_12 : decode cX4_add 12 = .ok (.aload_n 0, 1) := by decide +kernel
theorem dX4_add_13 : decode cX4_add 13 = .ok (.getfield 15, 3) := by decide +kernel
theorem dX4_add_16 : decode cX4_add 16 = .ok (.iload_n 1, 1) := by decide +kernel
theorem dX4_add_17 : decode cX4_add 17 = .ok (.invokestatic 64, 3) := by decide +kernel
theorem dX4_add_20 : decode cX4_add 20 = .ok (.putfield 15, 3) := by decide +kernel
theorem dX4_add_23 : decode cX4_add 23 = .ok (.aload_n 0, 1) := by decide +kernel
theorem dX4_add_24 : decode cX4_add 24 = .ok (.aload_n 0, 1) := by decide +kernel
theorem dX4_add_25 : decode cX4_add 25 = .ok (.getfield 18, 3) := by decide +kernel
theorem dX4_add_28 : decode cX4_add 28 = .ok (.iload_n 1, 1) := by decide +kernel
theorem dX4_add_29 : decode cX4_add 29 = .ok (.invokestatic 69, 3) := by decide +kernel
theorem dX4_add_32 : decode cX4_add 32 = .ok (.putfield 18, 3) := by decide +kernel
theorem dX4_add_35 : decode cX4_add 35 = .ok (.aload_n 0, 1) := by decide +kernel
theorem dX4_add_36 : decode cX4_add 36 = .ok (.aload_n 0, 1) := by decide +kernel
theorem dX4_add_37 : decode cX4_add 37 = .ok (.getfield 9, 3) := by decide +kernel
theorem dX4_add_40 : decode cX4_add 40 = .ok (.ifCond .ne 7, 3) := by decide +kernel
theorem dX4_add_43 : decode cX4_add 43 = .ok (.iload_n 1, 1) := by decide +kernel
theorem dX4_add_44 : decode cX4_add 44 = .ok (.goto 9, 3) := by decide +kernel
theorem dX4_add_47 : decode cX4_add 47 = .ok (.aload_n 0, 1) := by decide +kernel
theorem dX4_add_48 : decode cX4_add 48 = .ok (.getfield 21, 3) := by decide +kernel
theorem dX4_add_51 : decode cX4_add 51 = .ok (.iload_n 1, 1) := by decide +kernel
theorem dX4_add_52 : decode cX4_add 52 = .ok (.iand, 1) := by decide +kernel
theorem dX4_add_53 : decode cX4_add 53 = .ok (.putfield 21, 3) := by decide +kernel
theorem dX4_add_56 : decode cX4_add 56 = .ok (.aload_n 0, 1) := by decide +kernel
theorem dX4_add_57 : decode cX4_add 57 = .ok (.dup, 1) := by decide +kernel
theorem dX4_add_58 : decode cX4_add 58 = .ok (.getfield 9, 3) := by decide +kernel
theorem dX4_add_61 : decode cX4_add 61 = .ok (.iconst 1, 1) := by decide +kernel
theorem dX4_add_62 : decode cX4_add 62 = .ok (.iadd, 1) := by decide +kernel
theorem dX4_add_63 : decode cX4_add 63 = .ok (.putfield 9, 3) := by decide +kernel
theorem dX4_add_66 : decode cX4_add 66 = .ok (.return_, 1) := by decide +kernel
theorem dX4_directed_0 : decode cX4_directed 0 = .ok (.iconst 0, 1) := by decide +kernel
theorem dX4_directed_1 : decode cX4_directed 1 = .ok (.istore_n 2, 1) := by decide +kernel
theorem dX4_directed_2 : decode cX4_directed 2 = .ok (.iload_n 1, 1) := by decide +kernel
theorem dX4_directed_3 : decode cX4_directed 3 = .ok (.istore_n 3, 1) := by decide +kernel
theorem dX4_directed_4 : decode cX4_directed 4 = .ok (.iconst 0, 1) := by decide +kernel
theorem dX4_directed_5 : decode cX4_directed 5 = .ok (.istore 4, 2) := by decide +kernel
theorem dX4_directed_7 : decode cX4_directed 7 = .ok (.iload 4, 2) := by decide +kernel
theorem dX4_directed_9 : decode cX4_directed 9 = .ok (.iconst 5, 1) := by decide +kernel
theorem dX4_directed_10 : decode cX4_directed 10 = .ok (.if_icmp .ge 71, 3) := by decide +kernel
theorem dX4_directed_13 : decode cX4_directed 13 = .ok (.iload 4, 2) := by decide +kernel
theorem dX4_directed_15 : decode cX4_directed 15 = .ok (.iconst 1, 1) := by decide +kernel
theorem dX4_directed_16 : decode cX4_directed 16 = .ok (.iadd, 1) := by decide +kernel
theorem dX4_directed_17 : decode cX4_directed 17 = .ok (.istore 5, 2) := by decide +kernel
theorem dX4_directed_19 : decode cX4_directed 19 = .ok (.iload 5, 2) := by decide +kernel
theorem dX4_directed_21 : decode cX4_directed 21 = .ok (.iconst 5, 1) := by decide +kernel
theorem dX4_directed_22 : decode cX4_directed 22 = .ok (.if_icmp .ge 53, 3) := by decide +kernel
theorem dX4_directed_25 : decode cX4_directed 25 = .ok (.iload_n 0, 1) := by decide +kernel
theorem dX4_directed_26 : decode cX4_directed 26 = .ok (.iload 4, 2) := by decide +kernel
theorem dX4_directed_28 : decode cX4_directed 28 = .ok (.iload 5, 2) := by decide +kernel
theorem dX4_directed_30 : decode cX4_directed 30 = .ok (.invokestatic 24, 3) := by decide +kernel
theorem dX4_directed_33 : decode cX4_directed 33 = .ok (.ifCond .ne 6, 3) := by decide +kernel
theorem dX4_directed_36 : decode cX4_directed 36 = .ok (.goto 33, 3) := by decide +kernel
theorem dX4_directed_39 : decode cX4_directed 39 = .ok (.iload_n 2, 1) := by decide +kernel
theorem dX4_directed_40 : decode cX4_directed 40 = .ok (.iload_n 3, 1) := by decide +kernel
theorem dX4_directed_41 : decode cX4_directed 41 = .ok (.iconst 1, 1) := by decide +kernel
theorem dX4_directed_42 : decode cX4_directed 42 = .ok (.iand, 1) := by decide +kernel
theorem dX4_directed_43 : decode cX4_directed 43 = .ok (.ifCond .ne 13, 3) := by decide +kernel
theorem dX4_directed_46 : decode cX4_directed 46 = .ok (.iload 4, 2) := by decide +kernel
theorem dX4_directed_48 : decode cX4_directed 48 = .ok (.iload 5, 2) := by decide +kernel
theorem dX4_directed_50 : decode cX4_directed 50 = .ok (.invokestatic 30, 3) := by decide +kernel
theorem dX4_directed_53 : decode cX4_directed 53 = .ok (.goto 10, 3) := by decide +kernel
theorem dX4_directed_56 : decode cX4_directed 56 = .ok (.iload 5, 2) := by decide +kernel
theorem dX4_directed_58 : decode cX4_directed 58 = .ok (.iload 4, 2) := by decide +kernel
theorem dX4_directed_60 : decode cX4_directed 60 = .ok (.invokestatic 30, 3) := by decide +kernel
theorem dX4_directed_63 : decode cX4_directed 63 = .ok (.ior, 1) := by decide +kernel
theorem dX4_directed_64 : decode cX4_directed 64 = .ok (.istore_n 2, 1) := by decide +kernel
theorem dX4_directed_65 : decode cX4_directed 65 = .ok (.iload_n 3, 1) := by decide +kernel
theorem dX4_directed_66 : decode cX4_directed 66 = .ok (.iconst 1, 1) := by decide +kernel
theorem dX4_directed_67 : decode cX4_directed 67 = .ok (.ishr, 1) := by decide +kernel
theorem dX4_directed_68 : decode cX4_directed 68 = .ok (.istore_n 3, 1) := by decide +kernel
theorem dX4_directed_69 : decode cX4_directed 69 = .ok (.iinc 5 1, 3) := by decide +kernel
theorem dX4_directed_72 : decode cX4_directed 72 = .ok (.goto (-53), 3) := by decide +kernel
theorem dX4_directed_75 : decode cX4_directed 75 = .ok (.iinc 4 1, 3) := by decide +kernel
theorem dX4_directed_78 : decode cX4_directed 78 = .ok (.goto (-71), 3) := by decide +kernel
theorem dX4_directed_81 : decode cX4_directed 81 = .ok (.iload_n 2, 1) := by decide +kernel
theorem dX4_directed_82 : decode cX4_directed 82 = .ok (.ireturn, 1) := by decide +kernel
theorem dX5_init_0 : decode cX5_init 0 = .ok (.aload_n 0, 1) := by decide +kernel
theorem dX5_init_1 : decode cX5_init 1 = .ok (.invokespecial 3, 3) := by decide +kernel
theorem dX5_init_4 : decode cX5_init 4 = .ok (.aload_n 0, 1) := by decide +kernel
theorem dX5_init_5 : decode cX5_init 5 = .ok (.sipush 3673, 3) := by decide +kernel
theorem dX5_init_8 : decode cX5_init 8 = .ok (.newarray .int, 2) := by decide +kernel
theorem dX5_init_10 : decode cX5_init 10 = .ok (.putfield 11, 3) := by decide +kernel
theorem dX5_init_13 : decode cX5_init 13 = .ok (.aload_n 0, 1) := by decide +kernel
theorem dX5_init_14 : decode cX5_init 14 = .ok (.iconst 0, 1) := by decide +kernel
theorem dX5_init_15 : decode cX5_init 15 = .ok (.putfield 15, 3) := by decide +kernel
theorem dX5_init_18 : decode cX5_init 18 = .ok (.return_, 1) := by decide +kernel
theorem dX5_forget_0 : decode cX5_forget 0 = .ok (.iconst 0, 1) := by decide +kernel
theorem dX5_forget_1 : decode cX5_forget 1 = .ok (.istore_n 1, 1) := by decide +kernel
theorem dX5_forget_2 : decode cX5_forget 2 = .ok (.iload_n 1, 1) := by decide +kernel
theorem dX5_forget_3 : decode cX5_forget 3 = .ok (.aload_n 0, 1) := by decide +kernel
theorem dX5_forget_4 : decode cX5_forget 4 = .ok (.getfield 15, 3) := by decide +kernel
theorem dX5_forget_7 : decode cX5_forget 7 = .ok (.if_icmp .gt 25, 3) := by decide +kernel
theorem dX5_forget_10 : decode cX5_forget 10 = .ok (.iload_n 1, 1) := by decide +kernel
theorem dX5_forget_11 : decode cX5_forget 11 = .ok (.aload_n 0, 1) := by decide +kernel
theorem dX5_forget_12 : decode cX5_forget 12 = .ok (.getfield 11, 3) := by decide +kernel
theorem dX5_forget_15 : decode cX5_forget 15 = .ok (.arraylength, 1) := by decide +kernel
theorem dX5_forget_16 : decode cX5_forget 16 = .ok (.if_icmp .ge 16, 3) := by decide +kernel
theorem dX5_forget_19 : decode cX5_forget 19 = .ok (.aload_n 0, 1) := by decide +kernel
theorem dX5_forget_20 : decode cX5_forget 20 = .ok (.getfield 11, 3) := by decide +kernel
theorem dX5_forget_23 : decode cX5_forget 23 = .ok (.iload_n 1, 1) := by decide +kernel
theorem dX5_forget_24 : decode cX5_forget 24 = .ok (.iconst 0, 1) := by decide +kernel
theorem dX5_forget_25 : decode cX5_forget 25 = .ok (.iastore, 1) := by decide +kernel
theorem dX5_forget_26 : decode cX5_forget 26 = .ok (.iinc 1 1, 3) := by decide +kernel
theorem dX5_forget_29 : decode cX5_forget 29 = .ok (.goto (-27), 3) := by decide +kernel
theorem dX5_forget_32 : decode cX5_forget 32 = .ok (.aload_n 0, 1) := by decide +kernel
theorem dX5_forget_33 : decode cX5_forget 33 = .ok (.iconst 0, 1) := by decide +kernel
theorem dX5_forget_34 : decode cX5_forget 34 = .ok (.putfield 15, 3) := by decide +kernel
theorem dX5_forget_37 : decode cX5_forget 37 = .ok (.return_, 1) := by decide +kernel
theorem dX5_multiply_0 : decode cX5_multiply 0 = .ok (.iload_n 1, 1) := by decide +kernel
theorem dX5_multiply_1 : decode cX5_multiply 1 = .ok (.iconst 1, 1) := by decide +kernel
theorem dX5_multiply_2 : decode cX5_multiply 2 = .ok (.if_icmp .lt 12, 3) := by decide +kernel
theorem dX5_multiply_5 : decode cX5_multiply 5 = .ok (.iload_n 1, 1) := by decide +kernel
theorem dX5_multiply_6 : decode cX5_multiply 6 = .ok (.aload_n 0, 1) := by decide +kernel
theorem dX5_multiply_7 : decode cX5_multiply 7 = .ok (.getfield 11, 3) := by decide +kernel
theorem dX5_multiply_10 : decode cX5_multiply 10 = .ok (.arraylength, 1) := by decide +kernel
theorem dX5_multiply_11 : decode cX5_multiply 11 = .ok (.if_icmp .lt 4, 3) := by decide +kernel
theorem dX5_multiply_14 : decode cX5_multiply 14 = .ok (.return_, 1) := by decide +kernel
theorem dX5_multiply_15 : decode cX5_multiply 15 = .ok (.iload_n 1, 1) := by decide +kernel
theorem dX5_multiply_16 : decode cX5_multiply 16 = .ok (.istore_n 3, 1) := by decide +kernel
theorem dX5_multiply_17 : decode cX5_multiply 17 = .ok (.iconst 0, 1) := by decide +kernel
theorem dX5_multiply_18 : decode cX5_multiply 18 = .ok (.istore 4, 2) := by decide +kernel
theorem dX5_multiply_20 : decode cX5_multiply 20 = .ok (.iload 4, 2) := by decide +kernel
theorem dX5_multiply_22 : decode cX5_multiply 22 = .ok (.getstatic 19, 3) := by decide +kernel
theorem dX5_multiply_25 : decode cX5_multiply 25 = .ok (.arraylength, 1) := by decide +kernel
theorem dX5_multiply_26 : decode cX5_multiply 26 = .ok (.if_icmp .ge 99, 3) := by decide +kernel
theorem dX5_multiply_29 : decode cX5_multiply 29 = .ok (.getstatic 19, 3) := by decide +kernel
theorem dX5_multiply_32 : decode cX5_multiply 32 = .ok (.iload 4, 2) := by decide +kernel
theorem dX5_multiply_34 : decode cX5_multiply 34 = .ok (.iaload, 1) := by decide +kernel
theorem dX5_multiply_35 : decode cX5_multiply 35 = .ok (.istore 5, 2) := by decide +kernel
theorem dX5_multiply_37 : decode cX5_multiply 37 = .ok (.iload 5, 2) := by decide +kernel
theorem dX5_multiply_39 : decode cX5_multiply 39 = .ok (.iconst 2, 1) := by decide +kernel
theorem dX5_multiply_40 : decode cX5_multiply 40 = .ok (.if_icmp .lt 85, 3) := by decide +kernel
theorem dX5_multiply_43 : decode cX5_multiply 43 = .ok (.iload 5, 2) := by decide +kernel
theorem dX5_multiply_45 : decode cX5_multiply 45 = .ok (.aload_n 0, 1) := by decide +kernel
theorem dX5_multiply_46 : decode cX5_multiply 46 = .ok (.getfield 11, 3) := by decide +kernel
theorem dX5_multiply_49 : decode cX5_multiply 49 = .ok (.arraylength, 1) := by decide +kernel
theorem dX5_multiply_50 : decode cX5_multiply 50 = .ok (.if_icmp .ge 75, 3) := by decide +kernel
theorem dX5_multiply_53 : decode cX5_multiply 53 = .ok (.iload 5, 2) := by decide +kernel
theorem dX5_multiply_55 : decode cX5_multiply 55 = .ok (.iload 5, 2) := by decide +kernel
theorem dX5_multiply_57 : decode cX5_multiply 57 = .ok (.imul, 1) := by decide +kernel
theorem dX5_multiply_58 : decode cX5_multiply 58 = .ok (.iload_n 3, 1) := by decide +kernel
theorem dX5_multiply_59 : decode cX5_multiply 59 = .ok (.if_icmp .le 6, 3) := by decide +kernel
theorem dX5_multiply_62 : decode cX5_multiply 62 = .ok (.goto 63, 3) := by decide +kernel
theorem dX5_multiply_65 : decode cX5_multiply 65 = .ok (.iconst 0, 1) := by decide +kernel
theorem dX5_multiply_66 : decode cX5_multiply 66 = .ok (.istore 6, 2) := by decide +kernel
theorem dX5_multiply_68 : decode cX5_multiply 68 = .ok (.iload 6, 2) := by decide +kernel
theorem dX5_multiply_70 : decode cX5_multiply 70 = .ok (.bipush 32, 2) := by decide +kernel
theorem dX5_multiply_72 : decode cX5_multiply 72 = .ok (.if_icmp .ge 47, 3) := by decide +kernel
theorem dX5_multiply_75 : decode cX5_multiply 75 = .ok (.iload_n 3, 1) := by decide +kernel
theorem dX5_multiply_76 : decode cX5_multiply 76 = .ok (.iload 5, 2) := by decide +kernel
theorem dX5_multiply_78 : decode cX5_multiply 78 = .ok (.irem, 1) := by decide +kernel
theorem dX5_multiply_79 : decode cX5_multiply 79 = .ok (.ifCond .ne 40, 3) := by decide +kernel
theorem dX5_multiply_82 : decode cX5_multiply 82 = .ok (.iload_n 3, 1) := by decide +kernel
theorem dX5_multiply_83 : decode cX5_multiply 83 = .ok (.iload 5, 2) := by decide +kernel
theorem dX5_multiply_85 : decode cX5_multiply 85 = .ok (.idiv, 1) := by decide +kernel
theorem dX5_multiply_86 : decode cX5_multiply 86 = .ok (.istore_n 3, 1) := by decide +kernel
theorem dX5_multiply_87 : decode cX5_multiply 87 = .ok (.aload_n 0, 1) := by decide +kernel
theorem dX5_multiply_88 : decode cX5_multiply 88 = .ok (.getfield 11, 3) := by decide +kernel
theorem dX5_multiply_91 : decode cX5_multiply 91 = .ok (.iload 5, 2) := by decide +kernel
theorem dX5_multiply_93 : decode cX5_multiply 93 = .ok (.dup2, 1) := by decide +kernel
theorem dX5_multiply_94 : decode cX5_multiply 94 = .ok (.iaload, 1) := by decide +kernel
theorem dX5_multiply_95 : decode cX5_multiply 95 = .ok (.iload_n 2, 1) := by decide +kernel
theorem dX5_multiply_96 : decode cX5_multiply 96 = .ok (.iadd, 1) := by decide +kernel
theorem dX5_multiply_97 : decode cX5_multiply 97 = .ok (.iastore, 1) := by decide +kernel
theorem dX5_multiply_98 : decode cX5_multiply 98 = .ok (.iload 5, 2) := by decide +kernel
theorem dX5_multiply_100 : decode cX5_multiply 100 = .ok (.aload_n 0, 1) := by decide +kernel
theorem dX5_multiply_101 : decode cX5_multiply 101 = .ok (.getfield 15, 3) := by decide +kernel
theorem dX5_multiply_104 : decode cX5_multiply 104 = .ok (.if_icmp .le 9, 3) := by decide +kernel
theorem dX5_multiply_107 : decode cX5_multiply 107 = .ok (.aload_n 0, 1) := by decide +kernel
theorem dX5_multiply_108 : decode cX5_multiply 108 = .ok (.iload 5, 2) := by decide +kernel
theorem dX5_multiply_110 : decode cX5_multiply 110 = .ok (.putfield 15, 3) := by decide +kernel
theorem dX5_multiply_113 : decode cX5_multiply 113 = .ok (.iinc 6 1, 3) := by decide +kernel
theorem dX5_multiply_116 : decode cX5_multiply 116 = .ok (.goto (-48), 3) := by decide +kernel
theorem dX5_multiply_119 : decode cX5_multiply 119 = .ok (.iinc 4 1, 3) := by decide +kernel
theorem dX5_multiply_122 : decode cX5_multiply 122 = .ok (.goto (-102), 3) := by decide +kernel
theorem dX5_multiply_125 : decode cX5_multiply 125 = .ok (.iload_n 3, 1) := by decide +kernel
theorem dX5_multiply_126 : decode cX5_multiply 126 = .ok (.iconst 1, 1) := by decide +kernel
theorem dX5_multiply_127 : decode cX5_multiply 127 = .ok (.if_icmp .le 35, 3) := by decide +kernel
theorem dX5_multiply_130 : decode cX5_multiply 130 = .ok (.iload_n 3, 1) := by decide +kernel
theorem dX5_multiply_131 : decode cX5_multiply 131 = .ok (.aload_n 0, 1) := by decide +kernel
theorem dX5_multiply_132 : decode cX5_multiply 132 = .ok (.getfield 11, 3) := by decide +kernel
theorem dX5_multiply_135 : decode cX5_multiply 135 = .ok (.arraylength, 1) := by decide +kernel
theorem dX5_multiply_136 : decode cX5_multiply 136 = .ok (.if_icmp .ge 26, 3) := by decide +kernel
theorem dX5_multiply_139 : decode cX5_multiply 139 = .ok (.aload_n 0, 1) := by decide +kernel
theorem dX5_multiply_140 : decode cX5_multiply 140 = .ok (.getfield 11, 3) := by decide +kernel
theorem dX5_multiply_143 : decode cX5_multiply 143 = .ok (.iload_n 3, 1) := by decide +kernel
theorem dX5_multiply_144 : decode cX5_multiply 144 = .ok (.dup2, 1) := by decide +kernel
theorem dX5_multiply_145 : decode cX5_multiply 145 = .ok (.iaload, 1) := by decide +kernel
theorem dX5_multiply_146 : decode cX5_multiply 146 = .ok (.iload_n 2, 1) := by decide +kernel
theorem dX5_multiply_147 : decode cX5_multiply 147 = .ok (.iadd, 1) := by decide +kernel
theorem dX5_multiply_148 : decode cX5_multiply 148 = .ok (.iastore, 1) := by decide +kernel
theorem dX5_multiply_149 : decode cX5_multiply 149 = .ok (.iload_n 3, 1) := by decide +kernel
theorem dX5_multiply_150 : decode cX5_multiply 150 = .ok (.aload_n 0, 1) := by decide +kernel
theorem dX5_multiply_151 : decode cX5_multiply 151 = .ok (.getfield 15, 3) := by decide +kernel
theorem dX5_multiply_154 : decode cX5_multiply 154 = .ok (.if_icmp .le 8, 3) := by decide +kernel
theorem dX5_multiply_157 : decode cX5_multiply 157 = .ok (.aload_n 0, 1) := by decide +kernel
theorem dX5_multiply_158 : decode cX5_multiply 158 = .ok (.iload_n 3, 1) := by decide +kernel
theorem dX5_multiply_159 : decode cX5_multiply 159 = .ok (.putfield 15, 3) := by decide +kernel
theorem dX5_multiply_162 : decode cX5_multiply 162 = .ok (.return_, 1) := by decide +kernel
theorem dX5_write_0 : decode cX5_write 0 = .ok (.aload_n 2, 1) := by decide +kernel
theorem dX5_write_1 : decode cX5_write 1 = .ok (.iconst 1, 1) := by decide +kernel
theorem dX5_write_2 : decode cX5_write 2 = .ok (.invokevirtual 22, 3) := by decide +kernel
theorem dX5_write_5 : decode cX5_write 5 = .ok (.lconst 1, 1) := by decide +kernel
theorem dX5_write_6 : decode cX5_write 6 = .ok (.lstore_n 3, 1) := by decide +kernel
theorem dX5_write_7 : decode cX5_write 7 = .ok (.iconst 2, 1) := by decide +kernel
theorem dX5_write_8 : decode cX5_write 8 = .ok (.istore 5, 2) := by decide +kernel
theorem dX5_write_10 : decode cX5_write 10 = .ok (.iload 5, 2) := by decide +kernel
theorem dX5_write_12 : decode cX5_write 12 = .ok (.aload_n 0, 1) := by decide +kernel
theorem dX5_write_13 : decode cX5_write 13 = .ok (.getfield 15, 3) := by decide +kernel
theorem dX5_write_16 : decode cX5_write 16 = .ok (.if_icmp .gt 71, 3) := by decide +kernel
theorem dX5_write_19 : decode cX5_write 19 = .ok (.iload 5, 2) := by decide +kernel
theorem dX5_write_21 : decode cX5_write 21 = .ok (.aload_n 0, 1) := by decide +kernel
theorem dX5_write_22 : decode cX5_write 22 = .ok (.getfield 11, 3) := by decide +kernel
theorem dX5_write_25 : decode cX5_write 25 = .ok (.arraylength, 1) := by decide +kernel
theorem dX5_write_26 : decode cX5_write 26 = .ok (.if_icmp .ge 61, 3) := by decide +kernel
theorem dX5_write_29 : decode cX5_write 29 = .ok (.iload_n 1, 1) := by decide +kernel
theorem dX5_write_30 : decode cX5_write 30 = .ok (.aload_n 0, 1) := by decide +kernel
theorem dX5_write_31 : decode cX5_write 31 = .ok (.getfield 11, 3) := by decide +kernel
theorem dX5_write_34 : decode cX5_write 34 = .ok (.iload 5, 2) := by decide +kernel
theorem dX5_write_36 : decode cX5_write 36 = .ok (.iaload, 1) := by decide +kernel
theorem dX5_write_37 : decode cX5_write 37 = .ok (.imul, 1) := by decide +kernel
theorem dX5_write_38 : decode cX5_write 38 = .ok (.istore 6, 2) := by decide +kernel
theorem dX5_write_40 : decode cX5_write 40 = .ok (.iconst 0, 1) := by decide +kernel
theorem dX5_write_41 : decode cX5_write 41 = .ok (.istore 7, 2) := by decide +kernel
theorem dX5_write_43 : decode cX5_write 43 = .ok (.iload 7, 2) := by decide +kernel
theorem dX5_write_45 : decode cX5_write 45 = .ok (.iload 6, 2) := by decide +kernel
theorem dX5_write_47 : decode cX5_write 47 = .ok (.if_icmp .ge 34, 3) := by decide +kernel
theorem dX5_write_50 : decode cX5_write 50 = .ok (.lload_n 3, 1) := by decide +kernel
theorem dX5_write_51 : decode cX5_write 51 = .ok (.iload 5, 2) := by decide +kernel
theorem dX5_write_53 : decode cX5_write 53 = .ok (.i2l, 1) := by decide +kernel
theorem dX5_write_54 : decode cX5_write 54 = .ok (.lmul, 1) := by decide +kernel
theorem dX5_write_55 : decode cX5_write 55 = .ok (.ldc2_w 28, 3) := by decide +kernel
theorem dX5_write_58 : decode cX5_write 58 = .ok (.lcmp, 1) := by decide +kernel
theorem dX5_write_59 : decode cX5_write 59 = .ok (.ifCond .le 10, 3) := by decide +kernel
theorem dX5_write_62 : decode cX5_write 62 = .ok (.aload_n 2, 1) := by decide +kernel
theorem dX5_write_63 : decode cX5_write 63 = .ok (.lload_n 3, 1) := by decide +kernel
theorem dX5_write_64 : decode cX5_write 64 = .ok (.invokevirtual 30, 3) := by decide +kernel
theorem dX5_write_67 : decode cX5_write 67 = .ok (.lconst 1, 1) := by decide +kernel
theorem dX5_write_68 : decode cX5_write 68 = .ok (.lstore_n 3, 1) := by decide +kernel
theorem dX5_write_69 : decode cX5_write 69 = .ok (.lload_n 3, 1) := by decide +kernel
theorem dX5_write_70 : decode cX5_write 70 = .ok (.iload 5, 2) := by decide +kernel
theorem dX5_write_72 : decode cX5_write 72 = .ok (.i2l, 1) := by decide +kernel
theorem dX5_write_73 : decode cX5_write 73 = .ok (.lmul, 1) := by decide +kernel
theorem dX5_write_74 : decode cX5_write 74 = .ok (.lstore_n 3, 1) := by decide +kernel
theorem dX5_write_75 : decode cX5_write 75 = .ok (.iinc 7 1, 3) := by decide +kernel
theorem dX5_write_78 : decode cX5_write 78 = .ok (.goto (-35), 3) := by decide +kernel
theorem dX5_write_81 : decode cX5_write 81 = .ok (.iinc 5 1, 3) := by decide +kernel
theorem dX5_write_84 : decode cX5_write 84 = .ok (.goto (-74), 3) := by decide +kernel
theorem dX5_write_87 : decode cX5_write 87 = .ok (.aload_n 2, 1) := by decide +kernel
theorem dX5_write_88 : decode cX5_write 88 = .ok (.lload_n 3, 1) := by decide +kernel
theorem dX5_write_89 : decode cX5_write 89 = .ok (.invokevirtual 30, 3) := by decide +kernel
theorem dX5_write_92 : decode cX5_write 92 = .ok (.return_, 1) := by decide +kernel
theorem dX5_copy_0 : decode cX5_copy 0 = .ok (.aload_n 0, 1) := by decide +kernel
theorem dX5_copy_1 : decode cX5_copy 1 = .ok (.invokevirtual 34, 3) := by decide +kernel
theorem dX5_copy_4 : decode cX5_copy 4 = .ok (.aload_n 0, 1) := by decide +kernel
theorem dX5_copy_5 : decode cX5_copy 5 = .ok (.aload_n 1, 1) := by decide +kernel
theorem dX5_copy_6 : decode cX5_copy 6 = .ok (.getfield 15, 3) := by decide +kernel
theorem dX5_copy_9 : decode cX5_copy 9 = .ok (.putfield 15, 3) := by decide +kernel
theorem dX5_copy_12 : decode cX5_copy 12 = .ok (.iconst 0, 1) := by decide +kernel
theorem dX5_copy_13 : decode cX5_copy 13 = .ok (.istore_n 2, 1) := by decide +kernel
theorem dX5_copy_14 : decode cX5_copy 14 = .ok (.iload_n 2, 1) := by decide +kernel
theorem dX5_copy_15 : decode cX5_copy 15 = .ok (.aload_n 0, 1) := by decide +kernel
theorem dX5_copy_16 : decode cX5_copy 16 = .ok (.getfield 15, 3) := by decide +kernel
theorem dX5_copy_19 : decode cX5_copy 19 = .ok (.if_icmp .gt 39, 3) := by decide +kernel
theorem dX5_copy_22 : decode cX5_copy 22 = .ok (.iload_n 2, 1) := by decide +kernel
theorem dX5_copy_23 : decode cX5_copy 23 = .ok (.aload_n 0, 1) := by decide +kernel
theorem dX5_copy_24 : decode cX5_copy 24 = .ok (.getfield 11, 3) := by decide +kernel
theorem dX5_copy_27 : decode cX5_copy 27 = .ok (.arraylength, 1) := by decide +kernel
theorem dX5_copy_28 : decode cX5_copy 28 = .ok (.if_icmp .ge 30, 3) := by decide +kernel
theorem dX5_copy_31 : decode cX5_copy 31 = .ok (.iload_n 2, 1) := by decide +kernel
theorem dX5_copy_32 : decode cX5_copy 32 = .ok (.aload_n 1, 1) := by decide +kernel
theorem dX5_copy_33 : decode cX5_copy 33 = .ok (.getfield 11, 3) := by decide +kernel
theorem dX5_copy_36 : decode cX5_copy 36 = .ok (.arraylength, 1) := by decide +kernel
theorem dX5_copy_37 : decode cX5_copy 37 = .ok (.if_icmp .ge 21, 3) := by decide +kernel
theorem dX5_copy_40 : decode cX5_copy 40 = .ok (.aload_n 0, 1) := by decide +kernel
theorem dX5_copy_41 : decode cX5_copy 41 = .ok (.getfield 11, 3) := by decide +kernel
theorem dX5_copy_44 : decode cX5_copy 44 = .ok (.iload_n 2, 1) := by decide +kernel
theorem dX5_copy_45 : decode cX5_copy 45 = .ok (.aload_n 1, 1) := by decide +kernel
theorem dX5_copy_46 : decode cX5_copy 46 = .ok (.getfield 11, 3) := by decide +kernel
theorem dX5_copy_49 : decode cX5_copy 49 = .ok (.iload_n 2, 1) := by decide +kernel
theorem dX5_copy_50 : decode cX5_copy 50 = .ok (.iaload, 1) := by decide +kernel
theorem dX5_copy_51 : decode cX5_copy 51 = .ok (.iastore, 1) := by decide +kernel
theorem dX5_copy_52 : decode cX5_copy 52 = .ok (.iinc 2 1, 3) := by decide +kernel
theorem dX5_copy_55 : decode cX5_copy 55 = .ok (.goto (-41), 3) := by decide +kernel
theorem dX5_copy_58 : decode cX5_copy 58 = .ok (.return_, 1) := by decide +kernel
theorem dX5_lowerTo_0 : decode cX5_lowerTo 0 = .ok (.aload_n 0, 1) := by decide +kernel
theorem dX5_lowerTo_1 : decode cX5_lowerTo 1 = .ok (.aload_n 0, 1) := by decide +kernel
theorem dX5_lowerTo_2 : decode cX5_lowerTo 2 = .ok (.getfield 15, 3) := by decide +kernel
theorem dX5_lowerTo_5 : decode cX5_lowerTo 5 = .ok (.aload_n 1, 1) := by decide +kernel
theorem dX5_lowerTo_6 : decode cX5_lowerTo 6 = .ok (.getfield 15, 3) := by decide +kernel
theorem dX5_lowerTo_9 : decode cX5_lowerTo 9 = .ok (.invokestatic 37, 3) := by decide +kernel
theorem dX5_lowerTo_12 : decode cX5_lowerTo 12 = .ok (.putfield 15, 3) := by decide +kernel
theorem dX5_lowerTo_15 : decode cX5_lowerTo 15 = .ok (.iconst 0, 1) := by decide +kernel
theorem dX5_lowerTo_16 : decode cX5_lowerTo 16 = .ok (.istore_n 2, 1) := by decide +kernel
theorem dX5_lowerTo_17 : decode cX5_lowerTo 17 = .ok (.iload_n 2, 1) := by decide +kernel
theorem dX5_lowerTo_18 : decode cX5_lowerTo 18 = .ok (.aload_n 0, 1) := by decide +kernel
theorem dX5_lowerTo_19 : decode cX5_lowerTo 19 = .ok (.getfield 15, 3) := by decide +kernel
theorem dX5_lowerTo_22 : decode cX5_lowerTo 22 = .ok (.if_icmp .gt 48, 3) := by decide +kernel
theorem dX5_lowerTo_25 : decode cX5_lowerTo 25 = .ok (.iload_n 2, 1) := by decide +kernel
theorem dX5_lowerTo_26 : decode cX5_lowerTo 26 = .ok (.aload_n 0, 1) := by decide +kernel
theorem dX5_lowerTo_27 : decode cX5_lowerTo 27 = .ok (.getfield 11, 3) := by decide +kernel
theorem dX5_lowerTo_30 : decode cX5_lowerTo 30 = .ok (.arraylength, 1) := by decide +kernel
theorem dX5_lowerTo_31 : decode cX5_lowerTo 31 = .ok (.if_icmp .ge 39, 3) := by decide +kernel
theorem dX5_lowerTo_34 : decode cX5_lowerTo 34 = .ok (.iload_n 2, 1) := by decide +kernel
theorem dX5_lowerTo_35 : decode cX5_lowerTo 35 = .ok (.aload_n 1, 1) := by decide +kernel
theorem dX5_lowerTo_36 : decode cX5_lowerTo 36 = .ok (.getfield 11, 3) := by decide +kernel
theorem dX5_lowerTo_39 : decode cX5_lowerTo 39 = .ok (.arraylength, 1) := by decide +kernel
theorem dX5_lowerTo_40 : decode cX5_lowerTo 40 = .ok (.if_icmp .ge 30, 3) := by decide +kernel
theorem dX5_lowerTo_43 : decode cX5_lowerTo 43 = .ok (.aload_n 0, 1) := by decide +kernel
theorem dX5_lowerTo_44 : decode cX5_lowerTo 44 = .ok (.getfield 11, 3) := by decide +kernel
theorem dX5_lowerTo_47 : decode cX5_lowerTo 47 = .ok (.iload_n 2, 1) := by decide +kernel
theorem dX5_lowerTo_48 : decode cX5_lowerTo 48 = .ok (.aload_n 0, 1) := by decide +kernel
theorem dX5_lowerTo_49 : decode cX5_lowerTo 49 = .ok (.getfield 11, 3) := by decide +kernel
theorem dX5_lowerTo_52 : decode cX5_lowerTo 52 = .ok (.iload_n 2, 1) := by decide +kernel
theorem dX5_lowerTo_53 : decode cX5_lowerTo 53 = .ok (.iaload, 1) := by decide +kernel
theorem dX5_lowerTo_54 : decode cX5_lowerTo 54 = .ok (.aload_n 1, 1) := by decide +kernel
theorem dX5_lowerTo_55 : decode cX5_lowerTo 55 = .ok (.getfield 11, 3) := by decide +kernel
theorem dX5_lowerTo_58 : decode cX5_lowerTo 58 = .ok (.iload_n 2, 1) := by decide +kernel
theorem dX5_lowerTo_59 : decode cX5_lowerTo 59 = .ok (.iaload, 1) := by decide +kernel
theorem dX5_lowerTo_60 : decode cX5_lowerTo 60 = .ok (.invokestatic 43, 3) := by decide +kernel
theorem dX5_lowerTo_63 : decode cX5_lowerTo 63 = .ok (.iastore, 1) := by decide +kernel
theorem dX5_lowerTo_64 : decode cX5_lowerTo 64 = .ok (.iinc 2 1, 3) := by decide +kernel
theorem dX5_lowerTo_67 : decode cX5_lowerTo 67 = .ok (.goto (-50), 3) := by decide +kernel
theorem dX5_lowerTo_70 : decode cX5_lowerTo 70 = .ok (.return_, 1) := by decide +kernel
theorem dX5_divide_0 : decode cX5_divide 0 = .ok (.aload_n 0, 1) := by decide +kernel
theorem dX5_divide_1 : decode cX5_divide 1 = .ok (.aload_n 0, 1) := by decide +kernel
theorem dX5_divide_2 : decode cX5_divide 2 = .ok (.getfield 15, 3) := by decide +kernel
theorem dX5_divide_5 : decode cX5_divide 5 = .ok (.aload_n 1, 1) := by decide +kernel
theorem dX5_divide_6 : decode cX5_divide 6 = .ok (.getfield 15, 3) := by decide +kernel
theorem dX5_divide_9 : decode cX5_divide 9 = .ok (.invokestatic 37, 3) := by decide +kernel
theorem dX5_divide_12 : decode cX5_divide 12 = .ok (.putfield 15, 3) := by decide +kernel
theorem dX5_divide_15 : decode cX5_divide 15 = .ok (.iconst 0, 1) := by decide +kernel
theorem dX5_divide_16 : decode cX5_divide 16 = .ok (.istore_n 2, 1) := by decide +kernel
theorem dX5_divide_17 : decode cX5_divide 17 = .ok (.iload_n 2, 1) := by decide +kernel
theorem dX5_divide_18 : decode cX5_divide 18 = .ok (.aload_n 0, 1) := by decide +kernel
theorem dX5_divide_19 : decode cX5_divide 19 = .ok (.getfield 15, 3) := by decide +kernel
theorem dX5_divide_22 : decode cX5_divide 22 = .ok (.if_icmp .gt 42, 3) := by decide +kernel
theorem dX5_divide_25 : decode cX5_divide 25 = .ok (.iload_n 2, 1) := by decide +kernel
theorem dX5_divide_26 : decode cX5_divide 26 = .ok (.aload_n 0, 1) := by decide +kernel
theorem dX5_divide_27 : decode cX5_divide 27 = .ok (.getfield 11, 3) := by decide +kernel
theorem dX5_divide_30 : decode cX5_divide 30 = .ok (.arraylength, 1) := by decide +kernel
theorem dX5_divide_31 : decode cX5_divide 31 = .ok (.if_icmp .ge 33, 3) := by decide +kernel
theorem dX5_divide_34 : decode cX5_divide 34 = .ok (.iload_n 2, 1) := by decide +kernel
theorem dX5_divide_35 : decode cX5_divide 35 = .ok (.aload_n 1, 1) := by decide +kernel
theorem dX5_divide_36 : decode cX5_divide 36 = .ok (.getfield 11, 3) := by decide +kernel
theorem dX5_divide_39 : decode cX5_divide 39 = .ok (.arraylength, 1) := by decide +kernel
theorem dX5_divide_40 : decode cX5_divide 40 = .ok (.if_icmp .ge 24, 3) := by decide +kernel
theorem dX5_divide_43 : decode cX5_divide 43 = .ok (.aload_n 0, 1) := by decide +kernel
theorem dX5_divide_44 : decode cX5_divide 44 = .ok (.getfield 11, 3) := by decide +kernel
theorem dX5_divide_47 : decode cX5_divide 47 = .ok (.iload_n 2, 1) := by decide +kernel
theorem dX5_divide_48 : decode cX5_divide 48 = .ok (.dup2, 1) := by decide +kernel
theorem dX5_divide_49 : decode cX5_divide 49 = .ok (.iaload, 1) := by decide +kernel
theorem dX5_divide_50 : decode cX5_divide 50 = .ok (.aload_n 1, 1) := by decide +kernel
theorem dX5_divide_51 : decode cX5_divide 51 = .ok (.getfield 11, 3) := by decide +kernel
theorem dX5_divide_54 : decode cX5_divide 54 = .ok (.iload_n 2, 1) := by decide +kernel
theorem dX5_divide_55 : decode cX5_divide 55 = .ok (.iaload, 1) := by decide +kernel
theorem dX5_divide_56 : decode cX5_divide 56 = .ok (.isub, 1) := by decide +kernel
theorem dX5_divide_57 : decode cX5_divide 57 = .ok (.iastore, 1) := by decide +kernel
theorem dX5_divide_58 : decode cX5_divide 58 = .ok (.iinc 2 1, 3) := by decide +kernel
theorem dX5_divide_61 : decode cX5_divide 61 = .ok (.goto (-44), 3) := by decide +kernel
theorem dX5_divide_64 : decode cX5_divide 64 = .ok (.return_, 1) := by decide +kernel
theorem dX6_init_0 : decode cX6_init 0 = .ok (.aload_n 0, 1) := by decide +kernel
theorem dX6_init_1 : decode cX6_init 1 = .ok (.invokespecial 3, 3) := by decide +kernel
theorem dX6_init_4 : decode cX6_init 4 = .ok (.aload_n 0, 1) := by decide +kernel
theorem dX6_init_5 : decode cX6_init 5 = .ok (.aload_n 1, 1) := by decide +kernel
theorem dX6_init_6 : decode cX6_init 6 = .ok (.putfield 9, 3) := by decide +kernel
theorem dX6_init_9 : decode cX6_init 9 = .ok (.aload_n 0, 1) := by decide +kernel
theorem dX6_init_10 : decode cX6_init 10 = .ok (.aload_n 2, 1) := by decide +kernel
theorem dX6_init_11 : decode cX6_init 11 = .ok (.putfield 15, 3) := by decide +kernel
theorem dX6_init_14 : decode cX6_init 14 = .ok (.aload_n 0, 1) := by decide +kernel
theorem dX6_init_15 : decode cX6_init 15 = .ok (.bipush 32, 2) := by decide +kernel
theorem dX6_init_17 : decode cX6_init 17 = .ok (.newarray .int, 2) := by decide +kernel
theorem dX6_init_19 : decode cX6_init 19 = .ok (.putfield 19, 3) := by decide +kernel
theorem dX6_init_22 : decode cX6_init 22 = .ok (.return_, 1) := by decide +kernel
theorem dX6_bestParents_0 : decode cX6_bestParents 0 = .ok (.iconst 0, 1) := by decide +kernel
theorem dX6_bestParents_1 : decode cX6_bestParents 1 = .ok (.istore_n 3, 1) := by decide +kernel
theorem dX6_bestParents_2 : decode cX6_bestParents 2 = .ok (.iconst 1, 1) := by decide +kernel
theorem dX6_bestParents_3 : decode cX6_bestParents 3 = .ok (.istore 4, 2) := by decide +kernel
theorem dX6_bestParents_5 : decode cX6_bestParents 5 = .ok (.iload 4, 2) := by decide +kernel
theorem dX6_bestParents_7 : decode cX6_bestParents 7 = .ok (.iload_n 2, 1) := by decide +kernel
theorem dX6_bestParents_8 : decode cX6_bestParents 8 = .ok (.if_icmp .gt 67, 3) := by decide +kernel
theorem dX6_bestParents_11 : decode cX6_bestParents 11 = .ok (.iload 4, 2) := by decide +kernel
theorem dX6_bestParents_13 : decode cX6_bestParents 13 = .ok (.bipush 32, 2) := by decide +kernel
theorem dX6_bestParents_15 : decode cX6_bestParents 15 = .ok (.if_icmp .ge 60, 3) := by decide +kernel
theorem dX6_bestParents_18 : decode cX6_bestParents 18 = .ok (.iload 4, 2) := by decide +kernel
theorem dX6_bestParents_20 : decode cX6_bestParents 20 = .ok (.iload_n 2, 1) := by decide +kernel
theorem dX6_bestParents_21 : decode cX6_bestParents 21 = .ok (.iconst (-1), 1) := by decide +kernel
theorem dX6_bestParents_22 : decode cX6_bestParents 22 = .ok (.ixor, 1) := by decide +kernel
theorem dX6_bestParents_23 : decode cX6_bestParents 23 = .ok (.iand, 1) := by decide +kernel
theorem dX6_bestParents_24 : decode cX6_bestParents 24 = .ok (.ifCond .ne 45, 3) := by decide +kernel
theorem dX6_bestParents_27 : decode cX6_bestParents 27 = .ok (.iload 4, 2) := by decide +kernel
theorem dX6_bestParents_29 : decode cX6_bestParents 29 = .ok (.invokestatic 23, 3) := by decide +kernel
theorem dX6_bestParents_32 : decode cX6_bestParents 32 = .ok (.aload_n 0, 1) := by decide +kernel
theorem dX6_bestParents_33 : decode cX6_bestParents 33 = .ok (.getfield 9, 3) := by decide +kernel
theorem dX6_bestParents_36 : decode cX6_bestParents 36 = .ok (.getfield 29, 3) := by decide +kernel
theorem dX6_bestParents_39 : decode cX6_bestParents 39 = .ok (.if_icmp .le 6, 3) := by decide +kernel
theorem dX6_bestParents_42 : decode cX6_bestParents 42 = .ok (.goto 27, 3) := by decide +kernel
theorem dX6_bestParents_45 : decode cX6_bestParents 45 = .ok (.aload_n 0, 1) := by decide +kernel
theorem dX6_bestParents_46 : decode cX6_bestParents 46 = .ok (.getfield 15, 3) := by decide +kernel
theorem dX6_bestParents_49 : decode cX6_bestParents 49 = .ok (.iload 4, 2) := by decide +kernel
theorem dX6_bestParents_51 : decode cX6_bestParents 51 = .ok (.iload_n 1, 1) := by decide +kernel
theorem dX6_bestParents_52 : decode cX6_bestParents 52 = .ok (.invokestatic 35, 3) := by decide +kernel
theorem dX6_bestParents_55 : decode cX6_bestParents 55 = .ok (.iload_n 3, 1) := by decide +kernel
theorem dX6_bestParents_56 : decode cX6_bestParents 56 = .ok (.iload_n 1, 1) := by decide +kernel
theorem dX6_bestParents_57 : decode cX6_bestParents 57 = .ok (.invokestatic 35, 3) := by decide +kernel
theorem dX6_bestParents_60 : decode cX6_bestParents 60 = .ok (.invokevirtual 41, 3) := by decide +kernel
theorem dX6_bestParents_63 : decode cX6_bestParents 63 = .ok (.ifCond .le 6, 3) := by decide +kernel
theorem dX6_bestParents_66 : decode cX6_bestParents 66 = .ok (.iload 4, 2) := by decide +kernel
theorem dX6_bestParents_68 : decode cX6_bestParents 68 = .ok (.istore_n 3, 1) := by decide +kernel
theorem dX6_bestParents_69 : decode cX6_bestParents 69 = .ok (.iinc 4 1, 3) := by decide +kernel
theorem dX6_bestParents_72 : decode cX6_bestParents 72 = .ok (.goto (-67), 3) := by decide +kernel
theorem dX6_bestParents_75 : decode cX6_bestParents 75 = .ok (.iload_n 3, 1) := by decide +kernel
theorem dX6_bestParents_76 : decode cX6_bestParents 76 = .ok (.ireturn, 1) := by decide +kernel
theorem dX6_bestGraph_0 : decode cX6_bestGraph 0 = .ok (.iconst 0, 1) := by decide +kernel
theorem dX6_bestGraph_1 : decode cX6_bestGraph 1 = .ok (.istore_n 1, 1) := by decide +kernel
theorem dX6_bestGraph_2 : decode cX6_bestGraph 2 = .ok (.iconst 1, 1) := by decide +kernel
theorem dX6_bestGraph_3 : decode cX6_bestGraph 3 = .ok (.istore_n 2, 1) := by decide +kernel
theorem dX6_bestGraph_4 : decode cX6_bestGraph 4 = .ok (.iload_n 2, 1) := by decide +kernel
theorem dX6_bestGraph_5 : decode cX6_bestGraph 5 = .ok (.iconst 1, 1) := by decide +kernel
theorem dX6_bestGraph_6 : decode cX6_bestGraph 6 = .ok (.aload_n 0, 1) := by decide +kernel
theorem dX6_bestGraph_7 : decode cX6_bestGraph 7 = .ok (.getfield 9, 3) := by decide +kernel
theorem dX6_bestGraph_10 : decode cX6_bestGraph 10 = .ok (.getfield 46, 3) := by decide +kernel
theorem dX6_bestGraph_13 : decode cX6_bestGraph 13 = .ok (.ishl, 1) := by decide +kernel
theorem dX6_bestGraph_14 : decode cX6_bestGraph 14 = .ok (.if_icmp .ge 86, 3) := by decide +kernel
theorem dX6_bestGraph_17 : decode cX6_bestGraph 17 = .ok (.iload_n 2, 1) := by decide +kernel
theorem dX6_bestGraph_18 : decode cX6_bestGraph 18 = .ok (.bipush 32, 2) := by decide +kernel
theorem dX6_bestGraph_20 : decode cX6_bestGraph 20 = .ok (.if_icmp .ge 80, 3) := by decide +kernel
theorem dX6_bestGraph_23 : decode cX6_bestGraph 23 = .ok (.iconst (-1), 1) := by decide +kernel
theorem dX6_bestGraph_24 : decode cX6_bestGraph 24 = .ok (.istore_n 1, 1) := by decide +kernel
theorem dX6_bestGraph_25 : decode cX6_bestGraph 25 = .ok (.iconst 0, 1) := by decide +kernel
theorem dX6_bestGraph_26 : decode cX6_bestGraph 26 = .ok (.istore_n 3, 1) := by decide +kernel
theorem dX6_bestGraph_27 : decode cX6_bestGraph 27 = .ok (.iload_n 3, 1) := by decide +kernel
theorem dX6_bestGraph_28 : decode cX6_bestGraph 28 = .ok (.aload_n 0, 1) := by decide +kernel
theorem dX6_bestGraph_29 : decode cX6_bestGraph 29 = .ok (.getfield 9, 3) := by decide +kernel
theorem dX6_bestGraph_32 : decode cX6_bestGraph 32 = .ok (.getfield 46, 3) := by decide +kernel
theorem dX6_bestGraph_35 : decode cX6_bestGraph 35 = .ok (.if_icmp .ge 53, 3) := by decide +kernel
theorem dX6_bestGraph_38 : decode cX6_bestGraph 38 = .ok (.iload_n 2, 1) := by decide +kernel
theorem dX6_bestGraph_39 : decode cX6_bestGraph 39 = .ok (.iload_n 3, 1) := by decide +kernel
theorem dX6_bestGraph_40 : decode cX6_bestGraph 40 = .ok (.invokestatic 49, 3) := by decide +kernel
theorem dX6_bestGraph_43 : decode cX6_bestGraph 43 = .ok (.ifCond .ne 6, 3) := by decide +kernel
theorem dX6_bestGraph_46 : decode cX6_bestGraph 46 = .ok (.goto 36, 3) := by decide +kernel
theorem dX6_bestGraph_49 : decode cX6_bestGraph 49 = .ok (.iload_n 2, 1) := by decide +kernel
theorem dX6_bestGraph_50 : decode cX6_bestGraph 50 = .ok (.iconst 1, 1) := by decide +kernel
theorem dX6_bestGraph_51 : decode cX6_bestGraph 51 = .ok (.iload_n 3, 1) := by decide +kernel
theorem dX6_bestGraph_52 : decode cX6_bestGraph 52 = .ok (.ishl, 1) := by decide +kernel
theorem dX6_bestGraph_53 : decode cX6_bestGraph 53 = .ok (.iconst (-1), 1) := by decide +kernel
theorem dX6_bestGraph_54 : decode cX6_bestGraph 54 = .ok (.ixor, 1) := by decide +kernel
theorem dX6_bestGraph_55 : decode cX6_bestGraph 55 = .ok (.iand, 1) := by decide +kernel
theorem dX6_bestGraph_56 : decode cX6_bestGraph 56 = .ok (.istore 4, 2) := by decide +kernel
theorem dX6_bestGraph_58 : decode cX6_bestGraph 58 = .ok (.aload_n 0, 1) := by decide +kernel
theorem dX6_bestGraph_59 : decode cX6_bestGraph 59 = .ok (.aload_n 0, 1) := by decide +kernel
theorem dX6_bestGraph_60 : decode cX6_bestGraph 60 = .ok (.iload 4, 2) := by decide +kernel
theorem dX6_bestGraph_62 : decode cX6_bestGraph 62 = .ok (.invokevirtual 53, 3) := by decide +kernel
theorem dX6_bestGraph_65 : decode cX6_bestGraph 65 = .ok (.aload_n 0, 1) := by decide +kernel
theorem dX6_bestGraph_66 : decode cX6_bestGraph 66 = .ok (.iload_n 3, 1) := by decide +kernel
theorem dX6_bestGraph_67 : decode cX6_bestGraph 67 = .ok (.iload 4, 2) := by decide +kernel
theorem dX6_bestGraph_69 : decode cX6_bestGraph 69 = .ok (.invokevirtual 56, 3) := by decide +kernel
theorem dX6_bestGraph_72 : decode cX6_bestGraph 72 = .ok (.iload_n 3, 1) := by decide +kernel
theorem dX6_bestGraph_73 : decode cX6_bestGraph 73 = .ok (.invokestatic 35, 3) := by decide +kernel
theorem dX6_bestGraph_76 : decode cX6_bestGraph 76 = .ok (.ior, 1) := by decide +kernel
theorem dX6_bestGraph_77 : decode cX6_bestGraph 77 = .ok (.iload_n 1, 1) := by decide +kernel
theorem dX6_bestGraph_78 : decode cX6_bestGraph 78 = .ok (.invokevirtual 59, 3) := by decide +kernel
theorem dX6_bestGraph_81 : decode cX6_bestGraph 81 = .ok (.istore_n 1, 1) := by decide +kernel
theorem dX6_bestGraph_82 : decode cX6_bestGraph 82 = .ok (.iinc 3 1, 3) := by decide +kernel
theorem dX6_bestGraph_85 : decode cX6_bestGraph 85 = .ok (.goto (-58), 3) := by decide +kernel
theorem dX6_bestGraph_88 : decode cX6_bestGraph 88 = .ok (.aload_n 0, 1) := by decide +kernel
theorem dX6_bestGraph_89 : decode cX6_bestGraph 89 = .ok (.iload_n 2, 1) := by decide +kernel
theorem dX6_bestGraph_90 : decode cX6_bestGraph 90 = .ok (.iload_n 1, 1) := by decide +kernel
theorem dX6_bestGraph_91 : decode cX6_bestGraph 91 = .ok (.invokevirtual 62, 3) := by decide +kernel
theorem dX6_bestGraph_94 : decode cX6_bestGraph 94 = .ok (.iinc 2 1, 3) := by decide +kernel
theorem dX6_bestGraph_97 : decode cX6_bestGraph 97 = .ok (.goto (-93), 3) := by decide +kernel
theorem dX6_bestGraph_100 : decode cX6_bestGraph 100 = .ok (.iload_n 1, 1) := by decide +kernel
theorem dX6_bestGraph_101 : decode cX6_bestGraph 101 = .ok (.ireturn, 1) := by decide +kernel
theorem dX6_climbFrom_0 : decode cX6_climbFrom 0 = .ok (.iload_n 1, 1) := by decide +kernel
theorem dX6_climbFrom_1 : decode cX6_climbFrom 1 = .ok (.istore_n 3, 1) := by decide +kernel
theorem dX6_climbFrom_2 : decode cX6_climbFrom 2 = .ok (.iconst 0, 1) := by decide +kernel
theorem dX6_climbFrom_3 : decode cX6_climbFrom 3 = .ok (.istore 4, 2) := by decide +kernel
theorem dX6_climbFrom_5 : decode cX6_climbFrom 5 = .ok (.iload 4, 2) := by decide +kernel
theorem dX6_climbFrom_7 : decode cX6_climbFrom 7 = .ok (.iload_n 2, 1) := by decide +kernel
theorem dX6_climbFrom_8 : decode cX6_climbFrom 8 = .ok (.if_icmp .ge 40, 3) := by decide +kernel
theorem dX6_climbFrom_11 : decode cX6_climbFrom 11 = .ok (.aload_n 0, 1) := by decide +kernel
theorem dX6_climbFrom_12 : decode cX6_climbFrom 12 = .ok (.iload_n 3, 1) := by decide +kernel
theorem dX6_climbFrom_13 : decode cX6_climbFrom 13 = .ok (.invokevirtual 66, 3) := by decide +kernel
theorem dX6_climbFrom_16 : decode cX6_climbFrom 16 = .ok (.istore 5, 2) := by decide +kernel
theorem dX6_climbFrom_18 : decode cX6_climbFrom 18 = .ok (.iload 5, 2) := by decide +kernel
theorem dX6_climbFrom_20 : decode cX6_climbFrom 20 = .ok (.ifCond .lt 28, 3) := by decide +kernel
theorem dX6_climbFrom_23 : decode cX6_climbFrom 23 = .ok (.aload_n 0, 1) := by decide +kernel
theorem dX6_climbFrom_24 : decode cX6_climbFrom 24 = .ok (.getfield 15, 3) := by decide +kernel
theorem dX6_climbFrom_27 : decode cX6_climbFrom 27 = .ok (.iload 5, 2) := by decide +kernel
theorem dX6_climbFrom_29 : decode cX6_climbFrom 29 = .ok (.iload_n 3, 1) := by decide +kernel
theorem dX6_climbFrom_30 : decode cX6_climbFrom 30 = .ok (.invokevirtual 41, 3) := by decide +kernel
theorem dX6_climbFrom_33 : decode cX6_climbFrom 33 = .ok (.ifCond .gt 6, 3) := by decide +kernel
theorem dX6_climbFrom_36 : decode cX6_climbFrom 36 = .ok (.goto 12, 3) := by decide +kernel
theorem dX6_climbFrom_39 : decode cX6_climbFrom 39 = .ok (.iload 5, 2) := by decide +kernel
theorem dX6_climbFrom_41 : decode cX6_climbFrom 41 = .ok (.istore_n 3, 1) := by decide +kernel
theorem dX6_climbFrom_42 : decode cX6_climbFrom 42 = .ok (.iinc 4 1, 3) := by decide +kernel
theorem dX6_climbFrom_45 : decode cX6_climbFrom 45 = .ok (.goto (-40), 3) := by decide +kernel
theorem dX6_climbFrom_48 : decode cX6_climbFrom 48 = .ok (.iload_n 3, 1) := by decide +kernel
theorem dX6_climbFrom_49 : decode cX6_climbFrom 49 = .ok (.ireturn, 1) := by decide +kernel
theorem dX6_kept_0 : decode cX6_kept 0 = .ok (.iload_n 1, 1) := by decide +kernel
theorem dX6_kept_1 : decode cX6_kept 1 = .ok (.ifCond .le 21, 3) := by decide +kernel
theorem dX6_kept_4 : decode cX6_kept 4 = .ok (.iload_n 1, 1) := by decide +kernel
theorem dX6_kept_5 : decode cX6_kept 5 = .ok (.aload_n 0, 1) := by decide +kernel
theorem dX6_kept_6 : decode cX6_kept 6 = .ok (.getfield 19, 3) := by decide +kernel
theorem dX6_kept_9 : decode cX6_kept 9 = .ok (.arraylength, 1) := by decide +kernel
theorem dX6_kept_10 : decode cX6_kept 10 = .ok (.if_icmp .ge 12, 3) := by decide +kernel
theorem dX6_kept_13 : decode cX6_kept 13 = .ok (.aload_n 0, 1) := by decide +kernel
theorem dX6_kept_14 : decode cX6_kept 14 = .ok (.getfield 19, 3) := by decide +kernel
theorem dX6_kept_17 : decode cX6_kept 17 = .ok (.iload_n 1, 1) := by decide +kernel
theorem dX6_kept_18 : decode cX6_kept 18 = .ok (.iaload, 1) := by decide +kernel
theorem dX6_kept_19 : decode cX6_kept 19 = .ok (.goto 4, 3) := by decide +kernel
theorem dX6_kept_22 : decode cX6_kept 22 = .ok (.iconst 0, 1) := by decide +kernel
theorem dX6_kept_23 : decode cX6_kept 23 = .ok (.ireturn, 1) := by decide +kernel
theorem dX6_keep_0 : decode cX6_keep 0 = .ok (.iload_n 1, 1) := by decide +kernel
theorem dX6_keep_1 : decode cX6_keep 1 = .ok (.ifCond .le 19, 3) := by decide +kernel
theorem dX6_keep_4 : decode cX6_keep 4 = .ok (.iload_n 1, 1) := by decide +kernel
theorem dX6_keep_5 : decode cX6_keep 5 = .ok (.aload_n 0, 1) := by decide +kernel
