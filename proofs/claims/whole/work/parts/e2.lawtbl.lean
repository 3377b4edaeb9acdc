/-! every word lies in the tables -/
set_option maxRecDepth 20000
theorem tw_0 : (.fieldLink RX10 64 "StructureSearch$Sheet" "names" "I" : Cond) ∈ lw_tbl := List.mem_of_getElem? (i := 102) (by decide +kernel)
theorem tw_1 : (.fieldLink RX10 12 "StructureSearch" "sheet" "LStructureSearch$Sheet;" : Cond) ∈ lw_tbl := List.mem_of_getElem? (i := 246) (by decide +kernel)
theorem tw_2 : (.code yX10_isName cX10_isName 2 (some .boolean) : Cond) ∈ lw_tbl := List.mem_of_getElem? (i := 305) (by decide +kernel)
theorem tw_3 : (.fieldLink RX8 9 "StructureSearch$Sheet" "values" "[I" : Cond) ∈ lw_tbl := List.mem_of_getElem? (i := 114) (by decide +kernel)
theorem tw_4 : (.fieldLink RX8 21 "StructureSearch$Sheet" "names" "I" : Cond) ∈ lw_tbl := List.mem_of_getElem? (i := 100) (by decide +kernel)
theorem tw_5 : (.code yX8_valuesOf cX8_valuesOf 2 (some .int) : Cond) ∈ lw_tbl := List.mem_of_getElem? (i := 313) (by decide +kernel)
theorem tw_6 : (.initialized RX8 : Cond) ∈ lw_tbl := List.mem_of_getElem? (i := 67) (by decide +kernel)
theorem tw_7 : (.selects RX8 yX8_valuesOf yX8_valuesOf : Cond) ∈ lw_tbl := List.mem_of_getElem? (i := 312) (by decide +kernel)
theorem tw_8 : (.instanceMethod yX8_valuesOf : Cond) ∈ lw_tbl := List.mem_of_getElem? (i := 311) (by decide +kernel)
theorem tw_9 : (.initialized RX10 : Cond) ∈ lw_tbl := List.mem_of_getElem? (i := 66) (by decide +kernel)
theorem tw_10 : (.selects RX10 yX10_isName yX10_isName : Cond) ∈ lw_tbl := List.mem_of_getElem? (i := 3) (by decide +kernel)
theorem tw_11 : (.instanceMethod yX10_isName : Cond) ∈ lw_tbl := List.mem_of_getElem? (i := 304) (by decide +kernel)
theorem tw_12 : (.methodLink RX10 104 yX8_valuesOf : Cond) ∈ lw_tbl := List.mem_of_getElem? (i := 310) (by decide +kernel)
theorem tw_13 : (.methodLink RX10 89 yX10_isName : Cond) ∈ lw_tbl := List.mem_of_getElem? (i := 302) (by decide +kernel)
theorem tw_14 : (.fieldLink RX10 98 "StructureSearch$Sheet" "most" "I" : Cond) ∈ lw_tbl := List.mem_of_getElem? (i := 113) (by decide +kernel)
theorem tw_15 : (.fieldLink RX10 95 "StructureSearch$Sheet" "strength" "I" : Cond) ∈ lw_tbl := List.mem_of_getElem? (i := 109) (by decide +kernel)
theorem tw_16 : (.fieldLink RX10 54 "StructureSearch$Sheet" "rows" "I" : Cond) ∈ lw_tbl := List.mem_of_getElem? (i := 105) (by decide +kernel)
theorem tw_17 : (.code yX10_about cX10_about 2 (some .int) : Cond) ∈ lw_tbl := List.mem_of_getElem? (i := 353) (by decide +kernel)
theorem tw_18 : (.code yX0_arc cX0_arc 2 (some .int) : Cond) ∈ lw_tbl := List.mem_of_getElem? (i := 369) (by decide +kernel)
theorem tw_19 : (.code yX0_isIn cX0_isIn 2 (some .boolean) : Cond) ∈ lw_tbl := List.mem_of_getElem? (i := 366) (by decide +kernel)
theorem tw_20 : (.static yX0_arc : Cond) ∈ lw_tbl := List.mem_of_getElem? (i := 368) (by decide +kernel)
theorem tw_21 : (.initialized RX0 : Cond) ∈ lw_tbl := List.mem_of_getElem? (i := 75) (by decide +kernel)
theorem tw_22 : (.static yX0_isIn : Cond) ∈ lw_tbl := List.mem_of_getElem? (i := 365) (by decide +kernel)
theorem tw_23 : (.methodLink RX0 9 yX0_arc : Cond) ∈ lw_tbl := List.mem_of_getElem? (i := 367) (by decide +kernel)
theorem tw_24 : (.methodLink RX0 15 yX0_isIn : Cond) ∈ lw_tbl := List.mem_of_getElem? (i := 364) (by decide +kernel)
theorem tw_25 : (.code yX0_fromAll cX0_fromAll 4 (some .int) : Cond) ∈ lw_tbl := List.mem_of_getElem? (i := 363) (by decide +kernel)
theorem tw_26 : (.code yX0_parentsIn cX0_parentsIn 4 (some .int) : Cond) ∈ lw_tbl := List.mem_of_getElem? (i := 378) (by decide +kernel)
theorem tw_27 : (.static yX0_parentsIn : Cond) ∈ lw_tbl := List.mem_of_getElem? (i := 377) (by decide +kernel)
theorem tw_28 : (.methodLink RX0 29 yX0_parentsIn : Cond) ∈ lw_tbl := List.mem_of_getElem? (i := 376) (by decide +kernel)
theorem tw_29 : (.code yX0_nextAfter cX0_nextAfter 4 (some .int) : Cond) ∈ lw_tbl := List.mem_of_getElem? (i := 375) (by decide +kernel)
theorem tw_30 : (.static yX0_nextAfter : Cond) ∈ lw_tbl := List.mem_of_getElem? (i := 374) (by decide +kernel)
theorem tw_31 : (.methodLink RX0 25 yX0_nextAfter : Cond) ∈ lw_tbl := List.mem_of_getElem? (i := 373) (by decide +kernel)
theorem tw_32 : (.code yX0_haveNoRound cX0_haveNoRound 5 (some .boolean) : Cond) ∈ lw_tbl := List.mem_of_getElem? (i := 372) (by decide +kernel)
theorem tw_33 : (.static yX0_haveNoRound : Cond) ∈ lw_tbl := List.mem_of_getElem? (i := 371) (by decide +kernel)
theorem tw_34 : (.static yX0_fromAll : Cond) ∈ lw_tbl := List.mem_of_getElem? (i := 362) (by decide +kernel)
theorem tw_35 : (.methodLink RX0 22 yX0_haveNoRound : Cond) ∈ lw_tbl := List.mem_of_getElem? (i := 370) (by decide +kernel)
theorem tw_36 : (.methodLink RX0 19 yX0_fromAll : Cond) ∈ lw_tbl := List.mem_of_getElem? (i := 361) (by decide +kernel)
theorem tw_37 : (.code yX0_areGraph cX0_areGraph 5 (some .boolean) : Cond) ∈ lw_tbl := List.mem_of_getElem? (i := 360) (by decide +kernel)
theorem tw_38 : (.static yX0_areGraph : Cond) ∈ lw_tbl := List.mem_of_getElem? (i := 359) (by decide +kernel)
theorem tw_39 : (.methodLink RX10 107 yX0_areGraph : Cond) ∈ lw_tbl := List.mem_of_getElem? (i := 358) (by decide +kernel)
theorem tw_40 : (.code yX10_isGraph cX10_isGraph 2 (some .boolean) : Cond) ∈ lw_tbl := List.mem_of_getElem? (i := 357) (by decide +kernel)
theorem tw_41 : (.code yX0_has cX0_has 3 (some .boolean) : Cond) ∈ lw_tbl := List.mem_of_getElem? (i := 545) (by decide +kernel)
theorem tw_42 : (.static yX0_has : Cond) ∈ lw_tbl := List.mem_of_getElem? (i := 544) (by decide +kernel)
theorem tw_43 : (.methodLink RX4 30 yX0_arc : Cond) ∈ lw_tbl := List.mem_of_getElem? (i := 560) (by decide +kernel)
theorem tw_44 : (.methodLink RX4 24 yX0_has : Cond) ∈ lw_tbl := List.mem_of_getElem? (i := 559) (by decide +kernel)
theorem tw_45 : (.code yX4_ties cX4_ties 4 (some .int) : Cond) ∈ lw_tbl := List.mem_of_getElem? (i := 558) (by decide +kernel)
theorem tw_46 : (.initialized RX4 : Cond) ∈ lw_tbl := List.mem_of_getElem? (i := 78) (by decide +kernel)
theorem tw_47 : (.static yX4_ties : Cond) ∈ lw_tbl := List.mem_of_getElem? (i := 557) (by decide +kernel)
theorem tw_48 : (.methodLink RX4 41 yX0_isIn : Cond) ∈ lw_tbl := List.mem_of_getElem? (i := 566) (by decide +kernel)
theorem tw_49 : (.methodLink RX4 38 yX0_parentsIn : Cond) ∈ lw_tbl := List.mem_of_getElem? (i := 565) (by decide +kernel)
theorem tw_50 : (.methodLink RX4 34 yX4_ties : Cond) ∈ lw_tbl := List.mem_of_getElem? (i := 564) (by decide +kernel)
theorem tw_51 : (.code yX4_meetings cX4_meetings 10 (some .long) : Cond) ∈ lw_tbl := List.mem_of_getElem? (i := 563) (by decide +kernel)
theorem tw_52 : (.static yX4_meetings : Cond) ∈ lw_tbl := List.mem_of_getElem? (i := 562) (by decide +kernel)
theorem tw_53 : (.selects RX10 yX10_isGraph yX10_isGraph : Cond) ∈ lw_tbl := List.mem_of_getElem? (i := 356) (by decide +kernel)
theorem tw_54 : (.instanceMethod yX10_isGraph : Cond) ∈ lw_tbl := List.mem_of_getElem? (i := 355) (by decide +kernel)
theorem tw_55 : (.methodLink RX10 167 yX4_meetings : Cond) ∈ lw_tbl := List.mem_of_getElem? (i := 561) (by decide +kernel)
theorem tw_56 : (.methodLink RX10 162 yX4_ties : Cond) ∈ lw_tbl := List.mem_of_getElem? (i := 556) (by decide +kernel)
theorem tw_57 : (.methodLink RX10 112 yX10_isGraph : Cond) ∈ lw_tbl := List.mem_of_getElem? (i := 383) (by decide +kernel)
theorem tw_58 : (.code yX10_alike cX10_alike 4 (some .int) : Cond) ∈ lw_tbl := List.mem_of_getElem? (i := 555) (by decide +kernel)
theorem tw_59 : (.constant RJ6 267 (252645135) : Cond) ∈ lw_tbl := List.mem_of_getElem? (i := 501) (by decide +kernel)
theorem tw_60 : (.constant RJ6 266 (858993459) : Cond) ∈ lw_tbl := List.mem_of_getElem? (i := 500) (by decide +kernel)
theorem tw_61 : (.constant RJ6 265 (1431655765) : Cond) ∈ lw_tbl := List.mem_of_getElem? (i := 499) (by decide +kernel)
theorem tw_62 : (.code yJ6_bitCount_0f7a4 cJ6_bitCount_0f7a4 1 (some .int) : Cond) ∈ lw_tbl := List.mem_of_getElem? (i := 498) (by decide +kernel)
theorem tw_63 : (.fieldLink RX1 9 "StructureSearch$Big" "words" "[J" : Cond) ∈ lw_tbl := List.mem_of_getElem? (i := 158) (by decide +kernel)
theorem tw_64 : (.fieldLink RX1 15 "StructureSearch$Big" "used" "I" : Cond) ∈ lw_tbl := List.mem_of_getElem? (i := 159) (by decide +kernel)
theorem tw_65 : (.code yX1_at cX1_at 2 (some .long) : Cond) ∈ lw_tbl := List.mem_of_getElem? (i := 446) (by decide +kernel)
theorem tw_66 : (.initialized RX1 : Cond) ∈ lw_tbl := List.mem_of_getElem? (i := 71) (by decide +kernel)
theorem tw_67 : (.selects RX1 yX1_at yX1_at : Cond) ∈ lw_tbl := List.mem_of_getElem? (i := 445) (by decide +kernel)
theorem tw_68 : (.instanceMethod yX1_at : Cond) ∈ lw_tbl := List.mem_of_getElem? (i := 444) (by decide +kernel)
theorem tw_69 : (.methodLink RX1 31 yX1_at : Cond) ∈ lw_tbl := List.mem_of_getElem? (i := 486) (by decide +kernel)
theorem tw_70 : (.code yX1_against cX1_against 3 (some .int) : Cond) ∈ lw_tbl := List.mem_of_getElem? (i := 485) (by decide +kernel)
theorem tw_71 : (.code yX1_become cX1_become 2 none : Cond) ∈ lw_tbl := List.mem_of_getElem? (i := 420) (by decide +kernel)
theorem tw_72 : (.code Lib.Math.min.name Lib.Math.min.code 2 (some .int) : Cond) ∈ lw_tbl := List.mem_of_getElem? (i := 466) (by decide +kernel)
theorem tw_73 : (.initialized "java/lang/Math" : Cond) ∈ lw_tbl := List.mem_of_getElem? (i := 76) (by decide +kernel)
theorem tw_74 : (.static Lib.Math.min.name : Cond) ∈ lw_tbl := List.mem_of_getElem? (i := 465) (by decide +kernel)
theorem tw_75 : (.constantLong RX1 35 (4294967295) : Cond) ∈ lw_tbl := List.mem_of_getElem? (i := 426) (by decide +kernel)
theorem tw_76 : (.methodLink RX1 19 Lib.Math.min.name : Cond) ∈ lw_tbl := List.mem_of_getElem? (i := 464) (by decide +kernel)
theorem tw_77 : (.code yX1_addMultiple cX1_addMultiple 12 none : Cond) ∈ lw_tbl := List.mem_of_getElem? (i := 477) (by decide +kernel)
theorem tw_78 : (.code yX1_trim cX1_trim 2 none : Cond) ∈ lw_tbl := List.mem_of_getElem? (i := 481) (by decide +kernel)
theorem tw_79 : (.code Lib.Math.max.name Lib.Math.max.code 2 (some .int) : Cond) ∈ lw_tbl := List.mem_of_getElem? (i := 473) (by decide +kernel)
theorem tw_80 : (.static Lib.Math.max.name : Cond) ∈ lw_tbl := List.mem_of_getElem? (i := 472) (by decide +kernel)
theorem tw_81 : (.methodLink RX1 48 Lib.Math.max.name : Cond) ∈ lw_tbl := List.mem_of_getElem? (i := 471) (by decide +kernel)
theorem tw_82 : (.code yX1_widen cX1_widen 4 none : Cond) ∈ lw_tbl := List.mem_of_getElem? (i := 470) (by decide +kernel)
theorem tw_83 : (.selects RX1 yX1_trim yX1_trim : Cond) ∈ lw_tbl := List.mem_of_getElem? (i := 11) (by decide +kernel)
theorem tw_84 : (.instanceMethod yX1_trim : Cond) ∈ lw_tbl := List.mem_of_getElem? (i := 480) (by decide +kernel)
theorem tw_85 : (.selects RX1 yX1_addMultiple yX1_addMultiple : Cond) ∈ lw_tbl := List.mem_of_getElem? (i := 10) (by decide +kernel)
theorem tw_86 : (.instanceMethod yX1_addMultiple : Cond) ∈ lw_tbl := List.mem_of_getElem? (i := 476) (by decide +kernel)
theorem tw_87 : (.selects RX1 yX1_widen yX1_widen : Cond) ∈ lw_tbl := List.mem_of_getElem? (i := 9) (by decide +kernel)
theorem tw_88 : (.instanceMethod yX1_widen : Cond) ∈ lw_tbl := List.mem_of_getElem? (i := 469) (by decide +kernel)
theorem tw_89 : (.methodLink RX1 45 yX1_trim : Cond) ∈ lw_tbl := List.mem_of_getElem? (i := 478) (by decide +kernel)
theorem tw_90 : (.methodLink RX1 41 yX1_addMultiple : Cond) ∈ lw_tbl := List.mem_of_getElem? (i := 474) (by decide +kernel)
theorem tw_91 : (.methodLink RX1 37 yX1_widen : Cond) ∈ lw_tbl := List.mem_of_getElem? (i := 467) (by decide +kernel)
theorem tw_92 : (.code yX1_times cX1_times 6 none : Cond) ∈ lw_tbl := List.mem_of_getElem? (i := 463) (by decide +kernel)
theorem tw_93 : (.arrayClass .long : Cond) ∈ lw_tbl := List.mem_of_getElem? (i := 165) (by decide +kernel)
theorem tw_94 : (.code objectInit ⟨#[0xb1]⟩ 1 none : Cond) ∈ lw_tbl := List.mem_of_getElem? (i := 89) (by decide +kernel)
theorem tw_95 : (.instanceMethod objectInit : Cond) ∈ lw_tbl := List.mem_of_getElem? (i := 88) (by decide +kernel)
theorem tw_96 : (.methodLink RX1 3 objectInit : Cond) ∈ lw_tbl := List.mem_of_getElem? (i := 157) (by decide +kernel)
theorem tw_97 : (.code yX1_init cX1_init 2 none : Cond) ∈ lw_tbl := List.mem_of_getElem? (i := 156) (by decide +kernel)
theorem tw_98 : (.fieldLink RX3 16 "StructureSearch$Fraction" "ready" "Z" : Cond) ∈ lw_tbl := List.mem_of_getElem? (i := 176) (by decide +kernel)
theorem tw_99 : (.fieldLink RX3 13 "StructureSearch$Fraction" "below" "LStructureSearch$Big;" : Cond) ∈ lw_tbl := List.mem_of_getElem? (i := 173) (by decide +kernel)
theorem tw_100 : (.fieldLink RX3 7 "StructureSearch$Fraction" "above" "LStructureSearch$Big;" : Cond) ∈ lw_tbl := List.mem_of_getElem? (i := 170) (by decide +kernel)
theorem tw_101 : (.methodLink RX3 1 objectInit : Cond) ∈ lw_tbl := List.mem_of_getElem? (i := 169) (by decide +kernel)
theorem tw_102 : (.code yX3_init cX3_init 3 none : Cond) ∈ lw_tbl := List.mem_of_getElem? (i := 168) (by decide +kernel)
theorem tw_103 : (.fieldLink RX5 11 "StructureSearch$Powers" "power" "[I" : Cond) ∈ lw_tbl := List.mem_of_getElem? (i := 136) (by decide +kernel)
theorem tw_104 : (.fieldLink RX5 15 "StructureSearch$Powers" "largest" "I" : Cond) ∈ lw_tbl := List.mem_of_getElem? (i := 137) (by decide +kernel)
theorem tw_105 : (.code yX5_forget cX5_forget 2 none : Cond) ∈ lw_tbl := List.mem_of_getElem? (i := 399) (by decide +kernel)
theorem tw_106 : (.code yX1_timesSmall cX1_timesSmall 8 none : Cond) ∈ lw_tbl := List.mem_of_getElem? (i := 425) (by decide +kernel)
theorem tw_107 : (.selects RX1 yX1_timesSmall yX1_timesSmall : Cond) ∈ lw_tbl := List.mem_of_getElem? (i := 424) (by decide +kernel)
theorem tw_108 : (.instanceMethod yX1_timesSmall : Cond) ∈ lw_tbl := List.mem_of_getElem? (i := 423) (by decide +kernel)
theorem tw_109 : (.selects RX1 yX1_become yX1_become : Cond) ∈ lw_tbl := List.mem_of_getElem? (i := 419) (by decide +kernel)
theorem tw_110 : (.instanceMethod yX1_become : Cond) ∈ lw_tbl := List.mem_of_getElem? (i := 418) (by decide +kernel)
theorem tw_111 : (.methodLink RX5 30 yX1_timesSmall : Cond) ∈ lw_tbl := List.mem_of_getElem? (i := 422) (by decide +kernel)
theorem tw_112 : (.methodLink RX5 22 yX1_become : Cond) ∈ lw_tbl := List.mem_of_getElem? (i := 417) (by decide +kernel)
theorem tw_113 : (.constantLong RX5 28 (4294967295) : Cond) ∈ lw_tbl := List.mem_of_getElem? (i := 421) (by decide +kernel)
theorem tw_114 : (.code yX5_write cX5_write 8 none : Cond) ∈ lw_tbl := List.mem_of_getElem? (i := 416) (by decide +kernel)
theorem tw_115 : (.fieldLink RX5 19 "StructureSearch$Powers" "SMALL_PRIMES" "[I" : Cond) ∈ lw_tbl := List.mem_of_getElem? (i := 411) (by decide +kernel)
theorem tw_116 : (.code yX5_multiply cX5_multiply 7 none : Cond) ∈ lw_tbl := List.mem_of_getElem? (i := 410) (by decide +kernel)
theorem tw_117 : (.fieldLink RX8 15 "StructureSearch$Sheet" "codes" "[I" : Cond) ∈ lw_tbl := List.mem_of_getElem? (i := 115) (by decide +kernel)
theorem tw_118 : (.fieldLink RX8 25 "StructureSearch$Sheet" "rows" "I" : Cond) ∈ lw_tbl := List.mem_of_getElem? (i := 106) (by decide +kernel)
theorem tw_119 : (.code yX8_codeOf cX8_codeOf 2 (some .int) : Cond) ∈ lw_tbl := List.mem_of_getElem? (i := 345) (by decide +kernel)
theorem tw_120 : (.initialized RX5 : Cond) ∈ lw_tbl := List.mem_of_getElem? (i := 68) (by decide +kernel)
theorem tw_121 : (.selects RX5 yX5_multiply yX5_multiply : Cond) ∈ lw_tbl := List.mem_of_getElem? (i := 409) (by decide +kernel)
theorem tw_122 : (.instanceMethod yX5_multiply : Cond) ∈ lw_tbl := List.mem_of_getElem? (i := 408) (by decide +kernel)
theorem tw_123 : (.selects RX8 yX8_codeOf yX8_codeOf : Cond) ∈ lw_tbl := List.mem_of_getElem? (i := 7) (by decide +kernel)
theorem tw_124 : (.instanceMethod yX8_codeOf : Cond) ∈ lw_tbl := List.mem_of_getElem? (i := 344) (by decide +kernel)
theorem tw_125 : (.methodLink RX8 47 yX5_multiply : Cond) ∈ lw_tbl := List.mem_of_getElem? (i := 407) (by decide +kernel)
theorem tw_126 : (.methodLink RX8 34 yX8_codeOf : Cond) ∈ lw_tbl := List.mem_of_getElem? (i := 342) (by decide +kernel)
theorem tw_127 : (.methodLink RX8 41 yX0_isIn : Cond) ∈ lw_tbl := List.mem_of_getElem? (i := 406) (by decide +kernel)
theorem tw_128 : (.methodLink RX8 38 yX8_valuesOf : Cond) ∈ lw_tbl := List.mem_of_getElem? (i := 405) (by decide +kernel)
theorem tw_129 : (.fieldLink RX8 28 "StructureSearch$Sheet" "strength" "I" : Cond) ∈ lw_tbl := List.mem_of_getElem? (i := 108) (by decide +kernel)
theorem tw_130 : (.code yX8_pourFit cX8_pourFit 13 none : Cond) ∈ lw_tbl := List.mem_of_getElem? (i := 404) (by decide +kernel)
theorem tw_131 : (.selects RX5 yX5_write yX5_write : Cond) ∈ lw_tbl := List.mem_of_getElem? (i := 415) (by decide +kernel)
theorem tw_132 : (.instanceMethod yX5_write : Cond) ∈ lw_tbl := List.mem_of_getElem? (i := 414) (by decide +kernel)
theorem tw_133 : (.selects RX8 yX8_pourFit yX8_pourFit : Cond) ∈ lw_tbl := List.mem_of_getElem? (i := 403) (by decide +kernel)
theorem tw_134 : (.instanceMethod yX8_pourFit : Cond) ∈ lw_tbl := List.mem_of_getElem? (i := 402) (by decide +kernel)
theorem tw_135 : (.selects RX5 yX5_forget yX5_forget : Cond) ∈ lw_tbl := List.mem_of_getElem? (i := 398) (by decide +kernel)
theorem tw_136 : (.instanceMethod yX5_forget : Cond) ∈ lw_tbl := List.mem_of_getElem? (i := 397) (by decide +kernel)
theorem tw_137 : (.instanceMethod yX3_init : Cond) ∈ lw_tbl := List.mem_of_getElem? (i := 167) (by decide +kernel)
theorem tw_138 : (.instanceMethod yX1_init : Cond) ∈ lw_tbl := List.mem_of_getElem? (i := 155) (by decide +kernel)
theorem tw_139 : (.instantiable RX1 2 : Cond) ∈ lw_tbl := List.mem_of_getElem? (i := 153) (by decide +kernel)
theorem tw_140 : (.initialized RX3 : Cond) ∈ lw_tbl := List.mem_of_getElem? (i := 70) (by decide +kernel)
theorem tw_141 : (.instantiable RX3 3 : Cond) ∈ lw_tbl := List.mem_of_getElem? (i := 151) (by decide +kernel)
theorem tw_142 : (.methodLink RX2 78 yX5_write : Cond) ∈ lw_tbl := List.mem_of_getElem? (i := 413) (by decide +kernel)
theorem tw_143 : (.methodLink RX2 71 yX8_pourFit : Cond) ∈ lw_tbl := List.mem_of_getElem? (i := 401) (by decide +kernel)
theorem tw_144 : (.methodLink RX2 55 yX5_forget : Cond) ∈ lw_tbl := List.mem_of_getElem? (i := 396) (by decide +kernel)
theorem tw_145 : (.methodLink RX2 30 yX3_init : Cond) ∈ lw_tbl := List.mem_of_getElem? (i := 166) (by decide +kernel)
theorem tw_146 : (.methodLink RX2 27 yX1_init : Cond) ∈ lw_tbl := List.mem_of_getElem? (i := 154) (by decide +kernel)
theorem tw_147 : (.fieldLink RX2 82 "StructureSearch$Fraction" "below" "LStructureSearch$Big;" : Cond) ∈ lw_tbl := List.mem_of_getElem? (i := 175) (by decide +kernel)
theorem tw_148 : (.fieldLink RX2 75 "StructureSearch$Fraction" "above" "LStructureSearch$Big;" : Cond) ∈ lw_tbl := List.mem_of_getElem? (i := 171) (by decide +kernel)
theorem tw_149 : (.fieldLink RX2 11 "StructureSearch$Fits" "sheet" "LStructureSearch$Sheet;" : Cond) ∈ lw_tbl := List.mem_of_getElem? (i := 186) (by decide +kernel)
theorem tw_150 : (.fieldLink RX2 15 "StructureSearch$Fits" "powers" "LStructureSearch$Powers;" : Cond) ∈ lw_tbl := List.mem_of_getElem? (i := 187) (by decide +kernel)
theorem tw_151 : (.fieldLink RX2 51 "StructureSearch$Fraction" "ready" "Z" : Cond) ∈ lw_tbl := List.mem_of_getElem? (i := 177) (by decide +kernel)
theorem tw_152 : (.classLink RX2 25 RX1 : Cond) ∈ lw_tbl := List.mem_of_getElem? (i := 152) (by decide +kernel)
theorem tw_153 : (.classLink RX2 19 RX3 : Cond) ∈ lw_tbl := List.mem_of_getElem? (i := 149) (by decide +kernel)
theorem tw_154 : (.fieldLink RX2 33 "StructureSearch$Fits" "ofNothing" "LStructureSearch$Fraction;" : Cond) ∈ lw_tbl := List.mem_of_getElem? (i := 189) (by decide +kernel)
theorem tw_155 : (.fieldLink RX2 21 "StructureSearch$Fits" "ofNames" "[LStructureSearch$Fraction;" : Cond) ∈ lw_tbl := List.mem_of_getElem? (i := 188) (by decide +kernel)
theorem tw_156 : (.code yX2_ofName cX2_ofName 5 (some (.object "StructureSearch$Fraction")) : Cond) ∈ lw_tbl := List.mem_of_getElem? (i := 459) (by decide +kernel)
theorem tw_157 : (.selects RX1 yX1_against yX1_against : Cond) ∈ lw_tbl := List.mem_of_getElem? (i := 484) (by decide +kernel)
theorem tw_158 : (.instanceMethod yX1_against : Cond) ∈ lw_tbl := List.mem_of_getElem? (i := 483) (by decide +kernel)
theorem tw_159 : (.selects RX1 yX1_times yX1_times : Cond) ∈ lw_tbl := List.mem_of_getElem? (i := 462) (by decide +kernel)
theorem tw_160 : (.instanceMethod yX1_times : Cond) ∈ lw_tbl := List.mem_of_getElem? (i := 461) (by decide +kernel)
theorem tw_161 : (.initialized RX2 : Cond) ∈ lw_tbl := List.mem_of_getElem? (i := 69) (by decide +kernel)
theorem tw_162 : (.selects RX2 yX2_ofName yX2_ofName : Cond) ∈ lw_tbl := List.mem_of_getElem? (i := 8) (by decide +kernel)
theorem tw_163 : (.instanceMethod yX2_ofName : Cond) ∈ lw_tbl := List.mem_of_getElem? (i := 458) (by decide +kernel)
theorem tw_164 : (.methodLink RX2 96 yX1_against : Cond) ∈ lw_tbl := List.mem_of_getElem? (i := 482) (by decide +kernel)
theorem tw_165 : (.methodLink RX2 92 yX1_times : Cond) ∈ lw_tbl := List.mem_of_getElem? (i := 460) (by decide +kernel)
theorem tw_166 : (.methodLink RX2 88 yX2_ofName : Cond) ∈ lw_tbl := List.mem_of_getElem? (i := 456) (by decide +kernel)
theorem tw_167 : (.methodLink RX2 65 yX0_parentsIn : Cond) ∈ lw_tbl := List.mem_of_getElem? (i := 400) (by decide +kernel)
theorem tw_168 : (.methodLink RX2 85 yX1_become : Cond) ∈ lw_tbl := List.mem_of_getElem? (i := 455) (by decide +kernel)
theorem tw_169 : (.fieldLink RX2 60 "StructureSearch$Sheet" "names" "I" : Cond) ∈ lw_tbl := List.mem_of_getElem? (i := 104) (by decide +kernel)
theorem tw_170 : (.fieldLink RX2 48 "StructureSearch$Fits" "right" "LStructureSearch$Big;" : Cond) ∈ lw_tbl := List.mem_of_getElem? (i := 193) (by decide +kernel)
theorem tw_171 : (.fieldLink RX2 44 "StructureSearch$Fits" "left" "LStructureSearch$Big;" : Cond) ∈ lw_tbl := List.mem_of_getElem? (i := 192) (by decide +kernel)
theorem tw_172 : (.code yX2_weigh cX2_weigh 8 (some .int) : Cond) ∈ lw_tbl := List.mem_of_getElem? (i := 454) (by decide +kernel)
theorem tw_173 : (.selects RX2 yX2_weigh yX2_weigh : Cond) ∈ lw_tbl := List.mem_of_getElem? (i := 453) (by decide +kernel)
theorem tw_174 : (.instanceMethod yX2_weigh : Cond) ∈ lw_tbl := List.mem_of_getElem? (i := 452) (by decide +kernel)
theorem tw_175 : (.initialized RJ6 : Cond) ∈ lw_tbl := List.mem_of_getElem? (i := 77) (by decide +kernel)
theorem tw_176 : (.static yJ6_bitCount_0f7a4 : Cond) ∈ lw_tbl := List.mem_of_getElem? (i := 497) (by decide +kernel)
theorem tw_177 : (.methodLink RX6 41 yX2_weigh : Cond) ∈ lw_tbl := List.mem_of_getElem? (i := 503) (by decide +kernel)
theorem tw_178 : (.methodLink RX6 35 yX0_fromAll : Cond) ∈ lw_tbl := List.mem_of_getElem? (i := 502) (by decide +kernel)
theorem tw_179 : (.methodLink RX6 23 yJ6_bitCount_0f7a4 : Cond) ∈ lw_tbl := List.mem_of_getElem? (i := 496) (by decide +kernel)
theorem tw_180 : (.fieldLink RX6 15 "StructureSearch$Search" "fits" "LStructureSearch$Fits;" : Cond) ∈ lw_tbl := List.mem_of_getElem? (i := 218) (by decide +kernel)
theorem tw_181 : (.fieldLink RX6 29 "StructureSearch$Sheet" "most" "I" : Cond) ∈ lw_tbl := List.mem_of_getElem? (i := 111) (by decide +kernel)
theorem tw_182 : (.fieldLink RX6 9 "StructureSearch$Search" "sheet" "LStructureSearch$Sheet;" : Cond) ∈ lw_tbl := List.mem_of_getElem? (i := 217) (by decide +kernel)
theorem tw_183 : (.code yX6_bestParents cX6_bestParents 5 (some .int) : Cond) ∈ lw_tbl := List.mem_of_getElem? (i := 495) (by decide +kernel)
theorem tw_184 : (.code yX6_better cX6_better 4 (some .int) : Cond) ∈ lw_tbl := List.mem_of_getElem? (i := 521) (by decide +kernel)
theorem tw_185 : (.fieldLink RX6 19 "StructureSearch$Search" "bestOf" "[I" : Cond) ∈ lw_tbl := List.mem_of_getElem? (i := 219) (by decide +kernel)
theorem tw_186 : (.code yX6_keep cX6_keep 3 none : Cond) ∈ lw_tbl := List.mem_of_getElem? (i := 525) (by decide +kernel)
theorem tw_187 : (.code yX6_kept cX6_kept 2 (some .int) : Cond) ∈ lw_tbl := List.mem_of_getElem? (i := 516) (by decide +kernel)
theorem tw_188 : (.selects RX6 yX6_keep yX6_keep : Cond) ∈ lw_tbl := List.mem_of_getElem? (i := 14) (by decide +kernel)
theorem tw_189 : (.instanceMethod yX6_keep : Cond) ∈ lw_tbl := List.mem_of_getElem? (i := 524) (by decide +kernel)
theorem tw_190 : (.selects RX6 yX6_better yX6_better : Cond) ∈ lw_tbl := List.mem_of_getElem? (i := 13) (by decide +kernel)
theorem tw_191 : (.instanceMethod yX6_better : Cond) ∈ lw_tbl := List.mem_of_getElem? (i := 520) (by decide +kernel)
theorem tw_192 : (.selects RX6 yX6_bestParents yX6_bestParents : Cond) ∈ lw_tbl := List.mem_of_getElem? (i := 494) (by decide +kernel)
theorem tw_193 : (.instanceMethod yX6_bestParents : Cond) ∈ lw_tbl := List.mem_of_getElem? (i := 493) (by decide +kernel)
theorem tw_194 : (.initialized RX6 : Cond) ∈ lw_tbl := List.mem_of_getElem? (i := 72) (by decide +kernel)
theorem tw_195 : (.selects RX6 yX6_kept yX6_kept : Cond) ∈ lw_tbl := List.mem_of_getElem? (i := 12) (by decide +kernel)
theorem tw_196 : (.instanceMethod yX6_kept : Cond) ∈ lw_tbl := List.mem_of_getElem? (i := 515) (by decide +kernel)
theorem tw_197 : (.methodLink RX6 62 yX6_keep : Cond) ∈ lw_tbl := List.mem_of_getElem? (i := 522) (by decide +kernel)
theorem tw_198 : (.methodLink RX6 59 yX6_better : Cond) ∈ lw_tbl := List.mem_of_getElem? (i := 518) (by decide +kernel)
theorem tw_199 : (.methodLink RX6 56 yX6_bestParents : Cond) ∈ lw_tbl := List.mem_of_getElem? (i := 517) (by decide +kernel)
theorem tw_200 : (.methodLink RX6 53 yX6_kept : Cond) ∈ lw_tbl := List.mem_of_getElem? (i := 513) (by decide +kernel)
theorem tw_201 : (.methodLink RX6 49 yX0_isIn : Cond) ∈ lw_tbl := List.mem_of_getElem? (i := 512) (by decide +kernel)
theorem tw_202 : (.fieldLink RX6 46 "StructureSearch$Sheet" "names" "I" : Cond) ∈ lw_tbl := List.mem_of_getElem? (i := 101) (by decide +kernel)
theorem tw_203 : (.code yX6_bestGraph cX6_bestGraph 5 (some .int) : Cond) ∈ lw_tbl := List.mem_of_getElem? (i := 511) (by decide +kernel)
theorem tw_204 : (.selects RX6 yX6_bestGraph yX6_bestGraph : Cond) ∈ lw_tbl := List.mem_of_getElem? (i := 510) (by decide +kernel)
theorem tw_205 : (.instanceMethod yX6_bestGraph : Cond) ∈ lw_tbl := List.mem_of_getElem? (i := 509) (by decide +kernel)
theorem tw_206 : (.methodLink RX10 153 yX6_bestGraph : Cond) ∈ lw_tbl := List.mem_of_getElem? (i := 508) (by decide +kernel)
theorem tw_207 : (.fieldLink RX10 37 "StructureSearch" "search" "LStructureSearch$Search;" : Cond) ∈ lw_tbl := List.mem_of_getElem? (i := 249) (by decide +kernel)
theorem tw_208 : (.code yX10_best cX10_best 1 (some .int) : Cond) ∈ lw_tbl := List.mem_of_getElem? (i := 507) (by decide +kernel)
theorem tw_209 : (.fieldLink RX7 72 "StructureSearch$Fraction" "ready" "Z" : Cond) ∈ lw_tbl := List.mem_of_getElem? (i := 178) (by decide +kernel)
theorem tw_210 : (.fieldLink RX7 61 "StructureSearch$Shares" "share" "LStructureSearch$Fraction;" : Cond) ∈ lw_tbl := List.mem_of_getElem? (i := 645) (by decide +kernel)
theorem tw_211 : (.code yX7_forget cX7_forget 1 none : Cond) ∈ lw_tbl := List.mem_of_getElem? (i := 285) (by decide +kernel)
theorem tw_212 : (.initialized RX7 : Cond) ∈ lw_tbl := List.mem_of_getElem? (i := 79) (by decide +kernel)
theorem tw_213 : (.selects RX7 yX7_forget yX7_forget : Cond) ∈ lw_tbl := List.mem_of_getElem? (i := 284) (by decide +kernel)
theorem tw_214 : (.instanceMethod yX7_forget : Cond) ∈ lw_tbl := List.mem_of_getElem? (i := 283) (by decide +kernel)
theorem tw_215 : (.methodLink RX10 223 yX7_forget : Cond) ∈ lw_tbl := List.mem_of_getElem? (i := 282) (by decide +kernel)
theorem tw_216 : (.fieldLink RX10 50 "StructureSearch" "shares" "LStructureSearch$Shares;" : Cond) ∈ lw_tbl := List.mem_of_getElem? (i := 251) (by decide +kernel)
theorem tw_217 : (.code yX10_forgetShares cX10_forgetShares 1 none : Cond) ∈ lw_tbl := List.mem_of_getElem? (i := 281) (by decide +kernel)
theorem tw_218 : (.fieldLink RX2 37 "StructureSearch$Fits" "whole" "LStructureSearch$Fraction;" : Cond) ∈ lw_tbl := List.mem_of_getElem? (i := 190) (by decide +kernel)
theorem tw_219 : (.code yX2_forget cX2_forget 2 none : Cond) ∈ lw_tbl := List.mem_of_getElem? (i := 277) (by decide +kernel)
theorem tw_220 : (.selects RX10 yX10_forgetShares yX10_forgetShares : Cond) ∈ lw_tbl := List.mem_of_getElem? (i := 1) (by decide +kernel)
theorem tw_221 : (.instanceMethod yX10_forgetShares : Cond) ∈ lw_tbl := List.mem_of_getElem? (i := 280) (by decide +kernel)
theorem tw_222 : (.selects RX2 yX2_forget yX2_forget : Cond) ∈ lw_tbl := List.mem_of_getElem? (i := 276) (by decide +kernel)
theorem tw_223 : (.instanceMethod yX2_forget : Cond) ∈ lw_tbl := List.mem_of_getElem? (i := 275) (by decide +kernel)
theorem tw_224 : (.methodLink RX10 101 yX10_forgetShares : Cond) ∈ lw_tbl := List.mem_of_getElem? (i := 278) (by decide +kernel)
theorem tw_225 : (.methodLink RX10 220 yX2_forget : Cond) ∈ lw_tbl := List.mem_of_getElem? (i := 274) (by decide +kernel)
theorem tw_226 : (.fieldLink RX10 28 "StructureSearch" "fits" "LStructureSearch$Fits;" : Cond) ∈ lw_tbl := List.mem_of_getElem? (i := 248) (by decide +kernel)
theorem tw_227 : (.code yX10_forgetFits cX10_forgetFits 1 none : Cond) ∈ lw_tbl := List.mem_of_getElem? (i := 273) (by decide +kernel)
theorem tw_228 : (.fieldLink RX8 31 "StructureSearch$Sheet" "most" "I" : Cond) ∈ lw_tbl := List.mem_of_getElem? (i := 110) (by decide +kernel)
theorem tw_229 : (.code yX8_startAnew cX8_startAnew 1 none : Cond) ∈ lw_tbl := List.mem_of_getElem? (i := 99) (by decide +kernel)
theorem tw_230 : (.selects RX10 yX10_forgetFits yX10_forgetFits : Cond) ∈ lw_tbl := List.mem_of_getElem? (i := 0) (by decide +kernel)
theorem tw_231 : (.instanceMethod yX10_forgetFits : Cond) ∈ lw_tbl := List.mem_of_getElem? (i := 272) (by decide +kernel)
theorem tw_232 : (.selects RX8 yX8_startAnew yX8_startAnew : Cond) ∈ lw_tbl := List.mem_of_getElem? (i := 98) (by decide +kernel)
theorem tw_233 : (.instanceMethod yX8_startAnew : Cond) ∈ lw_tbl := List.mem_of_getElem? (i := 97) (by decide +kernel)
theorem tw_234 : (.methodLink RX10 61 yX10_forgetFits : Cond) ∈ lw_tbl := List.mem_of_getElem? (i := 270) (by decide +kernel)
theorem tw_235 : (.methodLink RX10 58 yX8_startAnew : Cond) ∈ lw_tbl := List.mem_of_getElem? (i := 269) (by decide +kernel)
theorem tw_236 : (.code yX10_clear cX10_clear 2 (some .int) : Cond) ∈ lw_tbl := List.mem_of_getElem? (i := 268) (by decide +kernel)
theorem tw_237 : (.methodLink RX0 32 yJ6_bitCount_0f7a4 : Cond) ∈ lw_tbl := List.mem_of_getElem? (i := 533) (by decide +kernel)
theorem tw_238 : (.code yX0_areBounded cX0_areBounded 3 (some .boolean) : Cond) ∈ lw_tbl := List.mem_of_getElem? (i := 532) (by decide +kernel)
theorem tw_239 : (.static yX0_areBounded : Cond) ∈ lw_tbl := List.mem_of_getElem? (i := 531) (by decide +kernel)
theorem tw_240 : (.methodLink RX6 83 yX0_haveNoRound : Cond) ∈ lw_tbl := List.mem_of_getElem? (i := 551) (by decide +kernel)
theorem tw_241 : (.methodLink RX6 80 yX0_areBounded : Cond) ∈ lw_tbl := List.mem_of_getElem? (i := 550) (by decide +kernel)
theorem tw_242 : (.code yX6_isOpen cX6_isOpen 2 (some .boolean) : Cond) ∈ lw_tbl := List.mem_of_getElem? (i := 549) (by decide +kernel)
theorem tw_243 : (.selects RX6 yX6_isOpen yX6_isOpen : Cond) ∈ lw_tbl := List.mem_of_getElem? (i := 16) (by decide +kernel)
theorem tw_244 : (.instanceMethod yX6_isOpen : Cond) ∈ lw_tbl := List.mem_of_getElem? (i := 548) (by decide +kernel)
theorem tw_245 : (.methodLink RX6 76 yX6_isOpen : Cond) ∈ lw_tbl := List.mem_of_getElem? (i := 546) (by decide +kernel)
theorem tw_246 : (.methodLink RX6 72 yX0_has : Cond) ∈ lw_tbl := List.mem_of_getElem? (i := 543) (by decide +kernel)
theorem tw_247 : (.methodLink RX6 69 yX0_arc : Cond) ∈ lw_tbl := List.mem_of_getElem? (i := 542) (by decide +kernel)
theorem tw_248 : (.code yX6_bestNear cX6_bestNear 6 (some .int) : Cond) ∈ lw_tbl := List.mem_of_getElem? (i := 541) (by decide +kernel)
theorem tw_249 : (.selects RX6 yX6_bestNear yX6_bestNear : Cond) ∈ lw_tbl := List.mem_of_getElem? (i := 15) (by decide +kernel)
theorem tw_250 : (.instanceMethod yX6_bestNear : Cond) ∈ lw_tbl := List.mem_of_getElem? (i := 540) (by decide +kernel)
theorem tw_251 : (.methodLink RX6 66 yX6_bestNear : Cond) ∈ lw_tbl := List.mem_of_getElem? (i := 538) (by decide +kernel)
theorem tw_252 : (.code yX6_climbFrom cX6_climbFrom 6 (some .int) : Cond) ∈ lw_tbl := List.mem_of_getElem? (i := 537) (by decide +kernel)
theorem tw_253 : (.selects RX6 yX6_climbFrom yX6_climbFrom : Cond) ∈ lw_tbl := List.mem_of_getElem? (i := 536) (by decide +kernel)
theorem tw_254 : (.instanceMethod yX6_climbFrom : Cond) ∈ lw_tbl := List.mem_of_getElem? (i := 535) (by decide +kernel)
theorem tw_255 : (.methodLink RX10 159 yX6_climbFrom : Cond) ∈ lw_tbl := List.mem_of_getElem? (i := 534) (by decide +kernel)
theorem tw_256 : (.methodLink RX10 156 yX0_areBounded : Cond) ∈ lw_tbl := List.mem_of_getElem? (i := 530) (by decide +kernel)
theorem tw_257 : (.code yX10_climb cX10_climb 3 (some .int) : Cond) ∈ lw_tbl := List.mem_of_getElem? (i := 529) (by decide +kernel)
theorem tw_258 : (.methodLink RX10 144 yX2_weigh : Cond) ∈ lw_tbl := List.mem_of_getElem? (i := 451) (by decide +kernel)
theorem tw_259 : (.code yX10_compare cX10_compare 3 (some .int) : Cond) ∈ lw_tbl := List.mem_of_getElem? (i := 450) (by decide +kernel)
theorem tw_260 : (.code yX10_isRow cX10_isRow 2 (some .boolean) : Cond) ∈ lw_tbl := List.mem_of_getElem? (i := 329) (by decide +kernel)
theorem tw_261 : (.code yX8_removeRow cX8_removeRow 3 (some .int) : Cond) ∈ lw_tbl := List.mem_of_getElem? (i := 333) (by decide +kernel)
theorem tw_262 : (.selects RX8 yX8_removeRow yX8_removeRow : Cond) ∈ lw_tbl := List.mem_of_getElem? (i := 332) (by decide +kernel)
theorem tw_263 : (.instanceMethod yX8_removeRow : Cond) ∈ lw_tbl := List.mem_of_getElem? (i := 331) (by decide +kernel)
theorem tw_264 : (.selects RX10 yX10_isRow yX10_isRow : Cond) ∈ lw_tbl := List.mem_of_getElem? (i := 6) (by decide +kernel)
theorem tw_265 : (.instanceMethod yX10_isRow : Cond) ∈ lw_tbl := List.mem_of_getElem? (i := 328) (by decide +kernel)
theorem tw_266 : (.methodLink RX10 86 yX8_removeRow : Cond) ∈ lw_tbl := List.mem_of_getElem? (i := 330) (by decide +kernel)
theorem tw_267 : (.methodLink RX10 82 yX10_isRow : Cond) ∈ lw_tbl := List.mem_of_getElem? (i := 326) (by decide +kernel)
theorem tw_268 : (.code yX10_drop cX10_drop 2 (some .int) : Cond) ∈ lw_tbl := List.mem_of_getElem? (i := 325) (by decide +kernel)
theorem tw_269 : (.fieldLink RX2 40 "StructureSearch$Fits" "wholeGraph" "I" : Cond) ∈ lw_tbl := List.mem_of_getElem? (i := 191) (by decide +kernel)
theorem tw_270 : (.methodLink RX2 5 objectInit : Cond) ∈ lw_tbl := List.mem_of_getElem? (i := 148) (by decide +kernel)
theorem tw_271 : (.code yX2_init cX2_init 3 none : Cond) ∈ lw_tbl := List.mem_of_getElem? (i := 147) (by decide +kernel)
theorem tw_272 : (.arrayClass .int : Cond) ∈ lw_tbl := List.mem_of_getElem? (i := 129) (by decide +kernel)
theorem tw_273 : (.methodLink RX5 3 objectInit : Cond) ∈ lw_tbl := List.mem_of_getElem? (i := 135) (by decide +kernel)
theorem tw_274 : (.code yX5_init cX5_init 1 none : Cond) ∈ lw_tbl := List.mem_of_getElem? (i := 134) (by decide +kernel)
theorem tw_275 : (.methodLink RX6 3 objectInit : Cond) ∈ lw_tbl := List.mem_of_getElem? (i := 216) (by decide +kernel)
theorem tw_276 : (.code yX6_init cX6_init 3 none : Cond) ∈ lw_tbl := List.mem_of_getElem? (i := 215) (by decide +kernel)
theorem tw_277 : (.methodLink RX8 18 yX8_startAnew : Cond) ∈ lw_tbl := List.mem_of_getElem? (i := 96) (by decide +kernel)
theorem tw_278 : (.methodLink RX8 3 objectInit : Cond) ∈ lw_tbl := List.mem_of_getElem? (i := 95) (by decide +kernel)
theorem tw_279 : (.code yX8_init cX8_init 1 none : Cond) ∈ lw_tbl := List.mem_of_getElem? (i := 94) (by decide +kernel)
theorem tw_280 : (.fieldLink RX9 20 "StructureSearch$Tables" "ofSecond" "[I" : Cond) ∈ lw_tbl := List.mem_of_getElem? (i := 236) (by decide +kernel)
theorem tw_281 : (.fieldLink RX9 17 "StructureSearch$Tables" "ofFirst" "[I" : Cond) ∈ lw_tbl := List.mem_of_getElem? (i := 235) (by decide +kernel)
theorem tw_282 : (.fieldLink RX9 13 "StructureSearch$Tables" "cells" "[I" : Cond) ∈ lw_tbl := List.mem_of_getElem? (i := 234) (by decide +kernel)
theorem tw_283 : (.fieldLink RX9 7 "StructureSearch$Tables" "sheet" "LStructureSearch$Sheet;" : Cond) ∈ lw_tbl := List.mem_of_getElem? (i := 233) (by decide +kernel)
theorem tw_284 : (.methodLink RX9 1 objectInit : Cond) ∈ lw_tbl := List.mem_of_getElem? (i := 232) (by decide +kernel)
theorem tw_285 : (.code yX9_init cX9_init 2 none : Cond) ∈ lw_tbl := List.mem_of_getElem? (i := 231) (by decide +kernel)
theorem tw_286 : (.instanceMethod yX9_init : Cond) ∈ lw_tbl := List.mem_of_getElem? (i := 230) (by decide +kernel)
theorem tw_287 : (.instanceMethod yX6_init : Cond) ∈ lw_tbl := List.mem_of_getElem? (i := 214) (by decide +kernel)
theorem tw_288 : (.instanceMethod yX2_init : Cond) ∈ lw_tbl := List.mem_of_getElem? (i := 146) (by decide +kernel)
theorem tw_289 : (.instanceMethod yX5_init : Cond) ∈ lw_tbl := List.mem_of_getElem? (i := 133) (by decide +kernel)
theorem tw_290 : (.instanceMethod yX8_init : Cond) ∈ lw_tbl := List.mem_of_getElem? (i := 93) (by decide +kernel)
theorem tw_291 : (.initialized RX9 : Cond) ∈ lw_tbl := List.mem_of_getElem? (i := 73) (by decide +kernel)
theorem tw_292 : (.instantiable RX9 4 : Cond) ∈ lw_tbl := List.mem_of_getElem? (i := 228) (by decide +kernel)
theorem tw_293 : (.instantiable RX6 3 : Cond) ∈ lw_tbl := List.mem_of_getElem? (i := 212) (by decide +kernel)
theorem tw_294 : (.instantiable RX2 8 : Cond) ∈ lw_tbl := List.mem_of_getElem? (i := 144) (by decide +kernel)
theorem tw_295 : (.instantiable RX5 2 : Cond) ∈ lw_tbl := List.mem_of_getElem? (i := 131) (by decide +kernel)
theorem tw_296 : (.instantiable RX8 6 : Cond) ∈ lw_tbl := List.mem_of_getElem? (i := 91) (by decide +kernel)
theorem tw_297 : (.methodLink RX10 43 yX9_init : Cond) ∈ lw_tbl := List.mem_of_getElem? (i := 229) (by decide +kernel)
theorem tw_298 : (.methodLink RX10 34 yX6_init : Cond) ∈ lw_tbl := List.mem_of_getElem? (i := 213) (by decide +kernel)
theorem tw_299 : (.methodLink RX10 25 yX2_init : Cond) ∈ lw_tbl := List.mem_of_getElem? (i := 145) (by decide +kernel)
theorem tw_300 : (.methodLink RX10 18 yX5_init : Cond) ∈ lw_tbl := List.mem_of_getElem? (i := 132) (by decide +kernel)
theorem tw_301 : (.methodLink RX10 11 yX8_init : Cond) ∈ lw_tbl := List.mem_of_getElem? (i := 92) (by decide +kernel)
theorem tw_302 : (.fieldLink RX10 46 "StructureSearch" "tables" "LStructureSearch$Tables;" : Cond) ∈ lw_tbl := List.mem_of_getElem? (i := 250) (by decide +kernel)
theorem tw_303 : (.classLink RX10 41 RX9 : Cond) ∈ lw_tbl := List.mem_of_getElem? (i := 227) (by decide +kernel)
theorem tw_304 : (.classLink RX10 32 RX6 : Cond) ∈ lw_tbl := List.mem_of_getElem? (i := 211) (by decide +kernel)
theorem tw_305 : (.classLink RX10 23 RX2 : Cond) ∈ lw_tbl := List.mem_of_getElem? (i := 143) (by decide +kernel)
theorem tw_306 : (.fieldLink RX10 19 "StructureSearch" "powers" "LStructureSearch$Powers;" : Cond) ∈ lw_tbl := List.mem_of_getElem? (i := 247) (by decide +kernel)
theorem tw_307 : (.classLink RX10 16 RX5 : Cond) ∈ lw_tbl := List.mem_of_getElem? (i := 130) (by decide +kernel)
theorem tw_308 : (.classLink RX10 9 RX8 : Cond) ∈ lw_tbl := List.mem_of_getElem? (i := 90) (by decide +kernel)
theorem tw_309 : (.methodLink RX10 3 objectInit : Cond) ∈ lw_tbl := List.mem_of_getElem? (i := 87) (by decide +kernel)
theorem tw_310 : (.code yX10_init cX10_init 1 none : Cond) ∈ lw_tbl := List.mem_of_getElem? (i := 86) (by decide +kernel)
theorem tw_311 : (.fieldLink RX4 21 "StructureSearch$Kin" "common" "I" : Cond) ∈ lw_tbl := List.mem_of_getElem? (i := 583) (by decide +kernel)
theorem tw_312 : (.methodLink RX4 69 Lib.Math.max.name : Cond) ∈ lw_tbl := List.mem_of_getElem? (i := 609) (by decide +kernel)
theorem tw_313 : (.fieldLink RX4 18 "StructureSearch$Kin" "greatest" "I" : Cond) ∈ lw_tbl := List.mem_of_getElem? (i := 581) (by decide +kernel)
theorem tw_314 : (.methodLink RX4 64 Lib.Math.min.name : Cond) ∈ lw_tbl := List.mem_of_getElem? (i := 608) (by decide +kernel)
theorem tw_315 : (.fieldLink RX4 15 "StructureSearch$Kin" "least" "I" : Cond) ∈ lw_tbl := List.mem_of_getElem? (i := 579) (by decide +kernel)
theorem tw_316 : (.fieldLink RX4 9 "StructureSearch$Kin" "count" "I" : Cond) ∈ lw_tbl := List.mem_of_getElem? (i := 577) (by decide +kernel)
theorem tw_317 : (.code yX4_add cX4_add 2 none : Cond) ∈ lw_tbl := List.mem_of_getElem? (i := 607) (by decide +kernel)
theorem tw_318 : (.code yX4_directed cX4_directed 6 (some .int) : Cond) ∈ lw_tbl := List.mem_of_getElem? (i := 602) (by decide +kernel)
theorem tw_319 : (.selects RX4 yX4_add yX4_add : Cond) ∈ lw_tbl := List.mem_of_getElem? (i := 17) (by decide +kernel)
theorem tw_320 : (.instanceMethod yX4_add : Cond) ∈ lw_tbl := List.mem_of_getElem? (i := 606) (by decide +kernel)
theorem tw_321 : (.static yX4_directed : Cond) ∈ lw_tbl := List.mem_of_getElem? (i := 601) (by decide +kernel)
theorem tw_322 : (.methodLink RX4 60 yX4_add : Cond) ∈ lw_tbl := List.mem_of_getElem? (i := 604) (by decide +kernel)
theorem tw_323 : (.methodLink RX4 57 yX0_haveNoRound : Cond) ∈ lw_tbl := List.mem_of_getElem? (i := 603) (by decide +kernel)
theorem tw_324 : (.methodLink RX4 54 yX4_directed : Cond) ∈ lw_tbl := List.mem_of_getElem? (i := 600) (by decide +kernel)
theorem tw_325 : (.methodLink RX4 49 yJ6_bitCount_0f7a4 : Cond) ∈ lw_tbl := List.mem_of_getElem? (i := 599) (by decide +kernel)
theorem tw_326 : (.methodLink RX4 45 yX4_meetings : Cond) ∈ lw_tbl := List.mem_of_getElem? (i := 598) (by decide +kernel)
theorem tw_327 : (.code yX4_gather cX4_gather 9 none : Cond) ∈ lw_tbl := List.mem_of_getElem? (i := 597) (by decide +kernel)
theorem tw_328 : (.methodLink RX4 3 objectInit : Cond) ∈ lw_tbl := List.mem_of_getElem? (i := 576) (by decide +kernel)
theorem tw_329 : (.code yX4_init cX4_init 1 none : Cond) ∈ lw_tbl := List.mem_of_getElem? (i := 575) (by decide +kernel)
theorem tw_330 : (.selects RX4 yX4_gather yX4_gather : Cond) ∈ lw_tbl := List.mem_of_getElem? (i := 596) (by decide +kernel)
theorem tw_331 : (.instanceMethod yX4_gather : Cond) ∈ lw_tbl := List.mem_of_getElem? (i := 595) (by decide +kernel)
theorem tw_332 : (.instanceMethod yX4_init : Cond) ∈ lw_tbl := List.mem_of_getElem? (i := 574) (by decide +kernel)
theorem tw_333 : (.instantiable RX4 4 : Cond) ∈ lw_tbl := List.mem_of_getElem? (i := 572) (by decide +kernel)
theorem tw_334 : (.methodLink RX10 172 yX4_gather : Cond) ∈ lw_tbl := List.mem_of_getElem? (i := 594) (by decide +kernel)
theorem tw_335 : (.methodLink RX10 171 yX4_init : Cond) ∈ lw_tbl := List.mem_of_getElem? (i := 573) (by decide +kernel)
theorem tw_336 : (.fieldLink RX10 185 "StructureSearch$Kin" "common" "I" : Cond) ∈ lw_tbl := List.mem_of_getElem? (i := 584) (by decide +kernel)
theorem tw_337 : (.fieldLink RX10 182 "StructureSearch$Kin" "greatest" "I" : Cond) ∈ lw_tbl := List.mem_of_getElem? (i := 582) (by decide +kernel)
theorem tw_338 : (.fieldLink RX10 179 "StructureSearch$Kin" "least" "I" : Cond) ∈ lw_tbl := List.mem_of_getElem? (i := 580) (by decide +kernel)
theorem tw_339 : (.fieldLink RX10 176 "StructureSearch$Kin" "count" "I" : Cond) ∈ lw_tbl := List.mem_of_getElem? (i := 578) (by decide +kernel)
theorem tw_340 : (.classLink RX10 163 RX4 : Cond) ∈ lw_tbl := List.mem_of_getElem? (i := 571) (by decide +kernel)
theorem tw_341 : (.code yX10_kin cX10_kin 4 (some .int) : Cond) ∈ lw_tbl := List.mem_of_getElem? (i := 570) (by decide +kernel)
theorem tw_342 : (.code yX8_addName cX8_addName 2 (some .int) : Cond) ∈ lw_tbl := List.mem_of_getElem? (i := 293) (by decide +kernel)
theorem tw_343 : (.selects RX8 yX8_addName yX8_addName : Cond) ∈ lw_tbl := List.mem_of_getElem? (i := 292) (by decide +kernel)
theorem tw_344 : (.instanceMethod yX8_addName : Cond) ∈ lw_tbl := List.mem_of_getElem? (i := 291) (by decide +kernel)
theorem tw_345 : (.methodLink RX10 67 yX8_addName : Cond) ∈ lw_tbl := List.mem_of_getElem? (i := 290) (by decide +kernel)
theorem tw_346 : (.code yX10_name cX10_name 2 (some .int) : Cond) ∈ lw_tbl := List.mem_of_getElem? (i := 289) (by decide +kernel)
theorem tw_347 : (.methodLink RX10 115 yX0_nextAfter : Cond) ∈ lw_tbl := List.mem_of_getElem? (i := 384) (by decide +kernel)
theorem tw_348 : (.code yX10_order cX10_order 6 (some .int) : Cond) ∈ lw_tbl := List.mem_of_getElem? (i := 382) (by decide +kernel)
theorem tw_349 : (.methodLink RX10 150 yX6_bestParents : Cond) ∈ lw_tbl := List.mem_of_getElem? (i := 492) (by decide +kernel)
theorem tw_350 : (.methodLink RX10 147 yX0_isIn : Cond) ∈ lw_tbl := List.mem_of_getElem? (i := 491) (by decide +kernel)
theorem tw_351 : (.code yX10_parents cX10_parents 3 (some .int) : Cond) ∈ lw_tbl := List.mem_of_getElem? (i := 490) (by decide +kernel)
theorem tw_352 : (.code yX10_coded cX10_coded 3 (some .int) : Cond) ∈ lw_tbl := List.mem_of_getElem? (i := 317) (by decide +kernel)
theorem tw_353 : (.code yX10_isValue cX10_isValue 3 (some .boolean) : Cond) ∈ lw_tbl := List.mem_of_getElem? (i := 309) (by decide +kernel)
theorem tw_354 : (.selects RX10 yX10_isValue yX10_isValue : Cond) ∈ lw_tbl := List.mem_of_getElem? (i := 4) (by decide +kernel)
theorem tw_355 : (.instanceMethod yX10_isValue : Cond) ∈ lw_tbl := List.mem_of_getElem? (i := 308) (by decide +kernel)
theorem tw_356 : (.methodLink RX10 203 yX10_isValue : Cond) ∈ lw_tbl := List.mem_of_getElem? (i := 306) (by decide +kernel)
theorem tw_357 : (.code yX10_fitsName cX10_fitsName 3 (some .boolean) : Cond) ∈ lw_tbl := List.mem_of_getElem? (i := 301) (by decide +kernel)
theorem tw_358 : (.code yX8_addRow cX8_addRow 2 (some .int) : Cond) ∈ lw_tbl := List.mem_of_getElem? (i := 321) (by decide +kernel)
theorem tw_359 : (.selects RX8 yX8_addRow yX8_addRow : Cond) ∈ lw_tbl := List.mem_of_getElem? (i := 320) (by decide +kernel)
theorem tw_360 : (.instanceMethod yX8_addRow : Cond) ∈ lw_tbl := List.mem_of_getElem? (i := 319) (by decide +kernel)
theorem tw_361 : (.selects RX10 yX10_coded yX10_coded : Cond) ∈ lw_tbl := List.mem_of_getElem? (i := 5) (by decide +kernel)
theorem tw_362 : (.instanceMethod yX10_coded : Cond) ∈ lw_tbl := List.mem_of_getElem? (i := 316) (by decide +kernel)
theorem tw_363 : (.selects RX10 yX10_fitsName yX10_fitsName : Cond) ∈ lw_tbl := List.mem_of_getElem? (i := 2) (by decide +kernel)
theorem tw_364 : (.instanceMethod yX10_fitsName : Cond) ∈ lw_tbl := List.mem_of_getElem? (i := 300) (by decide +kernel)
theorem tw_365 : (.methodLink RX10 79 yX8_addRow : Cond) ∈ lw_tbl := List.mem_of_getElem? (i := 318) (by decide +kernel)
theorem tw_366 : (.methodLink RX10 75 yX10_coded : Cond) ∈ lw_tbl := List.mem_of_getElem? (i := 314) (by decide +kernel)
theorem tw_367 : (.methodLink RX10 71 yX10_fitsName : Cond) ∈ lw_tbl := List.mem_of_getElem? (i := 298) (by decide +kernel)
theorem tw_368 : (.code yX10_row cX10_row 7 (some .int) : Cond) ∈ lw_tbl := List.mem_of_getElem? (i := 297) (by decide +kernel)
theorem tw_369 : (.code yX10_set cX10_set 4 (some .int) : Cond) ∈ lw_tbl := List.mem_of_getElem? (i := 349) (by decide +kernel)
theorem tw_370 : (.code yX10_isPair cX10_isPair 3 (some .boolean) : Cond) ∈ lw_tbl := List.mem_of_getElem? (i := 617) (by decide +kernel)
theorem tw_371 : (.code yX10_isPart cX10_isPart 1 (some .boolean) : Cond) ∈ lw_tbl := List.mem_of_getElem? (i := 391) (by decide +kernel)
theorem tw_372 : (.methodLink RX7 58 yX3_init : Cond) ∈ lw_tbl := List.mem_of_getElem? (i := 635) (by decide +kernel)
theorem tw_373 : (.methodLink RX7 37 yX1_init : Cond) ∈ lw_tbl := List.mem_of_getElem? (i := 633) (by decide +kernel)
theorem tw_374 : (.methodLink RX7 31 yX0_isIn : Cond) ∈ lw_tbl := List.mem_of_getElem? (i := 632) (by decide +kernel)
theorem tw_375 : (.methodLink RX7 21 yX5_init : Cond) ∈ lw_tbl := List.mem_of_getElem? (i := 629) (by decide +kernel)
theorem tw_376 : (.fieldLink RX7 69 "StructureSearch$Shares" "shareTo" "I" : Cond) ∈ lw_tbl := List.mem_of_getElem? (i := 647) (by decide +kernel)
theorem tw_377 : (.fieldLink RX7 65 "StructureSearch$Shares" "shareFrom" "I" : Cond) ∈ lw_tbl := List.mem_of_getElem? (i := 646) (by decide +kernel)
theorem tw_378 : (.classLink RX7 56 RX3 : Cond) ∈ lw_tbl := List.mem_of_getElem? (i := 634) (by decide +kernel)
theorem tw_379 : (.fieldLink RX7 53 "StructureSearch$Shares" "divisor" "LStructureSearch$Big;" : Cond) ∈ lw_tbl := List.mem_of_getElem? (i := 644) (by decide +kernel)
theorem tw_380 : (.fieldLink RX7 50 "StructureSearch$Shares" "rest" "LStructureSearch$Big;" : Cond) ∈ lw_tbl := List.mem_of_getElem? (i := 643) (by decide +kernel)
theorem tw_381 : (.fieldLink RX7 47 "StructureSearch$Shares" "term" "LStructureSearch$Big;" : Cond) ∈ lw_tbl := List.mem_of_getElem? (i := 642) (by decide +kernel)
theorem tw_382 : (.fieldLink RX7 43 "StructureSearch$Shares" "none" "LStructureSearch$Big;" : Cond) ∈ lw_tbl := List.mem_of_getElem? (i := 641) (by decide +kernel)
theorem tw_383 : (.fieldLink RX7 40 "StructureSearch$Shares" "sums" "[LStructureSearch$Big;" : Cond) ∈ lw_tbl := List.mem_of_getElem? (i := 640) (by decide +kernel)
theorem tw_384 : (.fieldLink RX7 27 "StructureSearch$Shares" "weights" "[LStructureSearch$Big;" : Cond) ∈ lw_tbl := List.mem_of_getElem? (i := 639) (by decide +kernel)
theorem tw_385 : (.classLink RX7 25 RX1 : Cond) ∈ lw_tbl := List.mem_of_getElem? (i := 630) (by decide +kernel)
theorem tw_386 : (.fieldLink RX7 22 "StructureSearch$Shares" "least" "LStructureSearch$Powers;" : Cond) ∈ lw_tbl := List.mem_of_getElem? (i := 638) (by decide +kernel)
theorem tw_387 : (.classLink RX7 19 RX5 : Cond) ∈ lw_tbl := List.mem_of_getElem? (i := 628) (by decide +kernel)
theorem tw_388 : (.fieldLink RX7 15 "StructureSearch$Shares" "powers" "LStructureSearch$Powers;" : Cond) ∈ lw_tbl := List.mem_of_getElem? (i := 637) (by decide +kernel)
theorem tw_389 : (.fieldLink RX7 11 "StructureSearch$Shares" "sheet" "LStructureSearch$Sheet;" : Cond) ∈ lw_tbl := List.mem_of_getElem? (i := 636) (by decide +kernel)
theorem tw_390 : (.methodLink RX7 5 objectInit : Cond) ∈ lw_tbl := List.mem_of_getElem? (i := 627) (by decide +kernel)
theorem tw_391 : (.code yX7_init cX7_init 4 none : Cond) ∈ lw_tbl := List.mem_of_getElem? (i := 626) (by decide +kernel)
theorem tw_392 : (.instanceMethod yX7_init : Cond) ∈ lw_tbl := List.mem_of_getElem? (i := 625) (by decide +kernel)
theorem tw_393 : (.instantiable RX7 12 : Cond) ∈ lw_tbl := List.mem_of_getElem? (i := 623) (by decide +kernel)
theorem tw_394 : (.methodLink RX10 219 yX7_init : Cond) ∈ lw_tbl := List.mem_of_getElem? (i := 624) (by decide +kernel)
theorem tw_395 : (.classLink RX10 196 RX7 : Cond) ∈ lw_tbl := List.mem_of_getElem? (i := 622) (by decide +kernel)
theorem tw_396 : (.code yX10_readyShares cX10_readyShares 1 (some (.object "StructureSearch$Shares")) : Cond) ∈ lw_tbl := List.mem_of_getElem? (i := 621) (by decide +kernel)
theorem tw_397 : (.code yX1_length cX1_length 1 (some .int) : Cond) ∈ lw_tbl := List.mem_of_getElem? (i := 434) (by decide +kernel)
theorem tw_398 : (.code yX3_side cX3_side 2 (some (.object "StructureSearch$Big")) : Cond) ∈ lw_tbl := List.mem_of_getElem? (i := 430) (by decide +kernel)
theorem tw_399 : (.initialized "java/lang/System" : Cond) ∈ lw_tbl := List.mem_of_getElem? (i := 80) (by decide +kernel)
theorem tw_400 : (.static arraycopyName : Cond) ∈ lw_tbl := List.mem_of_getElem? (i := 738) (by decide +kernel)
theorem tw_401 : (.native arraycopyName : Cond) ∈ lw_tbl := List.mem_of_getElem? (i := 739) (by decide +kernel)
theorem tw_402 : (.methodLink RX1 25 arraycopyName : Cond) ∈ lw_tbl := List.mem_of_getElem? (i := 737) (by decide +kernel)
theorem tw_403 : (.code yX1_copy cX1_copy 2 none : Cond) ∈ lw_tbl := List.mem_of_getElem? (i := 736) (by decide +kernel)
theorem tw_404 : (.code yX1_subtractMultiple cX1_subtractMultiple 14 none : Cond) ∈ lw_tbl := List.mem_of_getElem? (i := 748) (by decide +kernel)
theorem tw_405 : (.selects RX1 yX1_subtractMultiple yX1_subtractMultiple : Cond) ∈ lw_tbl := List.mem_of_getElem? (i := 28) (by decide +kernel)
theorem tw_406 : (.instanceMethod yX1_subtractMultiple : Cond) ∈ lw_tbl := List.mem_of_getElem? (i := 747) (by decide +kernel)
theorem tw_407 : (.methodLink RX1 51 yX1_subtractMultiple : Cond) ∈ lw_tbl := List.mem_of_getElem? (i := 745) (by decide +kernel)
theorem tw_408 : (.code yX1_minus cX1_minus 2 none : Cond) ∈ lw_tbl := List.mem_of_getElem? (i := 744) (by decide +kernel)
theorem tw_409 : (.code yX7_weight cX7_weight 4 (some (.object "StructureSearch$Big")) : Cond) ∈ lw_tbl := List.mem_of_getElem? (i := 702) (by decide +kernel)
theorem tw_410 : (.selects RX1 yX1_minus yX1_minus : Cond) ∈ lw_tbl := List.mem_of_getElem? (i := 743) (by decide +kernel)
theorem tw_411 : (.instanceMethod yX1_minus : Cond) ∈ lw_tbl := List.mem_of_getElem? (i := 742) (by decide +kernel)
theorem tw_412 : (.selects RX7 yX7_weight yX7_weight : Cond) ∈ lw_tbl := List.mem_of_getElem? (i := 22) (by decide +kernel)
theorem tw_413 : (.instanceMethod yX7_weight : Cond) ∈ lw_tbl := List.mem_of_getElem? (i := 701) (by decide +kernel)
theorem tw_414 : (.methodLink RX7 128 yX1_become : Cond) ∈ lw_tbl := List.mem_of_getElem? (i := 703) (by decide +kernel)
theorem tw_415 : (.methodLink RX7 153 yX1_minus : Cond) ∈ lw_tbl := List.mem_of_getElem? (i := 741) (by decide +kernel)
theorem tw_416 : (.methodLink RX7 124 yX7_weight : Cond) ∈ lw_tbl := List.mem_of_getElem? (i := 699) (by decide +kernel)
theorem tw_417 : (.fieldLink RX7 76 "StructureSearch$Sheet" "names" "I" : Cond) ∈ lw_tbl := List.mem_of_getElem? (i := 103) (by decide +kernel)
theorem tw_418 : (.code yX7_keepArc cX7_keepArc 5 none : Cond) ∈ lw_tbl := List.mem_of_getElem? (i := 752) (by decide +kernel)
theorem tw_419 : (.code yX1_addDigit cX1_addDigit 10 none : Cond) ∈ lw_tbl := List.mem_of_getElem? (i := 789) (by decide +kernel)
theorem tw_420 : (.constantLong RJ13 318 (1085102592571150095) : Cond) ∈ lw_tbl := List.mem_of_getElem? (i := 774) (by decide +kernel)
theorem tw_421 : (.constantLong RJ13 316 (3689348814741910323) : Cond) ∈ lw_tbl := List.mem_of_getElem? (i := 773) (by decide +kernel)
theorem tw_422 : (.constantLong RJ13 314 (6148914691236517205) : Cond) ∈ lw_tbl := List.mem_of_getElem? (i := 772) (by decide +kernel)
theorem tw_423 : (.code yJ13_bitCount_95d88 cJ13_bitCount_95d88 2 (some .int) : Cond) ∈ lw_tbl := List.mem_of_getElem? (i := 771) (by decide +kernel)
theorem tw_424 : (.initialized RJ13 : Cond) ∈ lw_tbl := List.mem_of_getElem? (i := 81) (by decide +kernel)
theorem tw_425 : (.static yJ13_bitCount_95d88 : Cond) ∈ lw_tbl := List.mem_of_getElem? (i := 770) (by decide +kernel)
theorem tw_426 : (.methodLink RX1 79 yJ13_bitCount_95d88 : Cond) ∈ lw_tbl := List.mem_of_getElem? (i := 769) (by decide +kernel)
theorem tw_427 : (.code yX1_bits cX1_bits 4 (some .int) : Cond) ∈ lw_tbl := List.mem_of_getElem? (i := 768) (by decide +kernel)
theorem tw_428 : (.code yX1_from cX1_from 6 (some .long) : Cond) ∈ lw_tbl := List.mem_of_getElem? (i := 778) (by decide +kernel)
theorem tw_429 : (.selects RX1 yX1_addDigit yX1_addDigit : Cond) ∈ lw_tbl := List.mem_of_getElem? (i := 33) (by decide +kernel)
theorem tw_430 : (.instanceMethod yX1_addDigit : Cond) ∈ lw_tbl := List.mem_of_getElem? (i := 788) (by decide +kernel)
theorem tw_431 : (.selects RX1 yX1_from yX1_from : Cond) ∈ lw_tbl := List.mem_of_getElem? (i := 32) (by decide +kernel)
theorem tw_432 : (.instanceMethod yX1_from : Cond) ∈ lw_tbl := List.mem_of_getElem? (i := 777) (by decide +kernel)
theorem tw_433 : (.selects RX1 yX1_bits yX1_bits : Cond) ∈ lw_tbl := List.mem_of_getElem? (i := 31) (by decide +kernel)
theorem tw_434 : (.instanceMethod yX1_bits : Cond) ∈ lw_tbl := List.mem_of_getElem? (i := 767) (by decide +kernel)
theorem tw_435 : (.code Lib.MathLoose.min_long.x Lib.MathLoose.min_long.code 4 (some .long) : Cond) ∈ lw_tbl := List.mem_of_getElem? (i := 785) (by decide +kernel)
theorem tw_436 : (.static Lib.MathLoose.min_long.x : Cond) ∈ lw_tbl := List.mem_of_getElem? (i := 784) (by decide +kernel)
theorem tw_437 : (.code Lib.MathLoose.max_long.x Lib.MathLoose.max_long.code 4 (some .long) : Cond) ∈ lw_tbl := List.mem_of_getElem? (i := 781) (by decide +kernel)
theorem tw_438 : (.static Lib.MathLoose.max_long.x : Cond) ∈ lw_tbl := List.mem_of_getElem? (i := 780) (by decide +kernel)
theorem tw_439 : (.methodLink RX1 71 yX1_addDigit : Cond) ∈ lw_tbl := List.mem_of_getElem? (i := 786) (by decide +kernel)
theorem tw_440 : (.methodLink RX1 65 yX1_against : Cond) ∈ lw_tbl := List.mem_of_getElem? (i := 782) (by decide +kernel)
theorem tw_441 : (.methodLink RX1 58 yX1_from : Cond) ∈ lw_tbl := List.mem_of_getElem? (i := 775) (by decide +kernel)
theorem tw_442 : (.methodLink RX1 54 yX1_bits : Cond) ∈ lw_tbl := List.mem_of_getElem? (i := 765) (by decide +kernel)
theorem tw_443 : (.methodLink RX1 69 Lib.MathLoose.min_long.x : Cond) ∈ lw_tbl := List.mem_of_getElem? (i := 783) (by decide +kernel)
theorem tw_444 : (.constant RX1 64 (1000000) : Cond) ∈ lw_tbl := List.mem_of_getElem? (i := 760) (by decide +kernel)
theorem tw_445 : (.methodLink RX1 61 Lib.MathLoose.max_long.x : Cond) ∈ lw_tbl := List.mem_of_getElem? (i := 779) (by decide +kernel)
theorem tw_446 : (.code yX1_reduceBy cX1_reduceBy 11 none : Cond) ∈ lw_tbl := List.mem_of_getElem? (i := 764) (by decide +kernel)
theorem tw_447 : (.selects RX1 yX1_reduceBy yX1_reduceBy : Cond) ∈ lw_tbl := List.mem_of_getElem? (i := 763) (by decide +kernel)
theorem tw_448 : (.instanceMethod yX1_reduceBy : Cond) ∈ lw_tbl := List.mem_of_getElem? (i := 762) (by decide +kernel)
theorem tw_449 : (.methodLink RX1 75 yX1_reduceBy : Cond) ∈ lw_tbl := List.mem_of_getElem? (i := 761) (by decide +kernel)
theorem tw_450 : (.code yX1_commonDivisor cX1_commonDivisor 6 (some (.object "StructureSearch$Big")) : Cond) ∈ lw_tbl := List.mem_of_getElem? (i := 759) (by decide +kernel)
theorem tw_451 : (.selects RX1 yX1_copy yX1_copy : Cond) ∈ lw_tbl := List.mem_of_getElem? (i := 735) (by decide +kernel)
theorem tw_452 : (.instanceMethod yX1_copy : Cond) ∈ lw_tbl := List.mem_of_getElem? (i := 734) (by decide +kernel)
theorem tw_453 : (.methodLink RX7 94 yX1_copy : Cond) ∈ lw_tbl := List.mem_of_getElem? (i := 733) (by decide +kernel)
theorem tw_454 : (.methodLink RX7 171 yX1_reduceBy : Cond) ∈ lw_tbl := List.mem_of_getElem? (i := 794) (by decide +kernel)
theorem tw_455 : (.code yX7_divide cX7_divide 2 none : Cond) ∈ lw_tbl := List.mem_of_getElem? (i := 793) (by decide +kernel)
theorem tw_456 : (.selects RX7 yX7_divide yX7_divide : Cond) ∈ lw_tbl := List.mem_of_getElem? (i := 34) (by decide +kernel)
theorem tw_457 : (.instanceMethod yX7_divide : Cond) ∈ lw_tbl := List.mem_of_getElem? (i := 792) (by decide +kernel)
theorem tw_458 : (.static yX1_commonDivisor : Cond) ∈ lw_tbl := List.mem_of_getElem? (i := 758) (by decide +kernel)
theorem tw_459 : (.methodLink RX7 169 yX7_divide : Cond) ∈ lw_tbl := List.mem_of_getElem? (i := 790) (by decide +kernel)
theorem tw_460 : (.methodLink RX7 165 yX1_commonDivisor : Cond) ∈ lw_tbl := List.mem_of_getElem? (i := 757) (by decide +kernel)
theorem tw_461 : (.fieldLink RX7 102 "StructureSearch$Fraction" "above" "LStructureSearch$Big;" : Cond) ∈ lw_tbl := List.mem_of_getElem? (i := 172) (by decide +kernel)
theorem tw_462 : (.fieldLink RX7 87 "StructureSearch$Fraction" "below" "LStructureSearch$Big;" : Cond) ∈ lw_tbl := List.mem_of_getElem? (i := 174) (by decide +kernel)
theorem tw_463 : (.code yX7_lower cX7_lower 1 none : Cond) ∈ lw_tbl := List.mem_of_getElem? (i := 756) (by decide +kernel)
theorem tw_464 : (.code yX7_sum cX7_sum 2 (some (.object "StructureSearch$Big")) : Cond) ∈ lw_tbl := List.mem_of_getElem? (i := 728) (by decide +kernel)
theorem tw_465 : (.code yX1_plus cX1_plus 2 none : Cond) ∈ lw_tbl := List.mem_of_getElem? (i := 716) (by decide +kernel)
theorem tw_466 : (.selects RX7 yX7_sum yX7_sum : Cond) ∈ lw_tbl := List.mem_of_getElem? (i := 26) (by decide +kernel)
theorem tw_467 : (.instanceMethod yX7_sum : Cond) ∈ lw_tbl := List.mem_of_getElem? (i := 727) (by decide +kernel)
theorem tw_468 : (.methodLink RX7 162 yX1_times : Cond) ∈ lw_tbl := List.mem_of_getElem? (i := 740) (by decide +kernel)
theorem tw_469 : (.methodLink RX7 90 yX7_sum : Cond) ∈ lw_tbl := List.mem_of_getElem? (i := 725) (by decide +kernel)
theorem tw_470 : (.code yX7_multiplyOut cX7_multiplyOut 4 none : Cond) ∈ lw_tbl := List.mem_of_getElem? (i := 732) (by decide +kernel)
theorem tw_471 : (.selects RX1 yX1_plus yX1_plus : Cond) ∈ lw_tbl := List.mem_of_getElem? (i := 715) (by decide +kernel)
theorem tw_472 : (.instanceMethod yX1_plus : Cond) ∈ lw_tbl := List.mem_of_getElem? (i := 714) (by decide +kernel)
theorem tw_473 : (.selects RX7 yX7_multiplyOut yX7_multiplyOut : Cond) ∈ lw_tbl := List.mem_of_getElem? (i := 27) (by decide +kernel)
theorem tw_474 : (.instanceMethod yX7_multiplyOut : Cond) ∈ lw_tbl := List.mem_of_getElem? (i := 731) (by decide +kernel)
theorem tw_475 : (.methodLink RX7 141 yX1_plus : Cond) ∈ lw_tbl := List.mem_of_getElem? (i := 713) (by decide +kernel)
theorem tw_476 : (.methodLink RX7 159 yX7_multiplyOut : Cond) ∈ lw_tbl := List.mem_of_getElem? (i := 729) (by decide +kernel)
theorem tw_477 : (.methodLink RX7 144 yJ6_bitCount_0f7a4 : Cond) ∈ lw_tbl := List.mem_of_getElem? (i := 685) (by decide +kernel)
theorem tw_478 : (.code yX7_sumGraphsOf cX7_sumGraphsOf 5 none : Cond) ∈ lw_tbl := List.mem_of_getElem? (i := 724) (by decide +kernel)
theorem tw_479 : (.selects RX7 yX7_sumGraphsOf yX7_sumGraphsOf : Cond) ∈ lw_tbl := List.mem_of_getElem? (i := 25) (by decide +kernel)
theorem tw_480 : (.instanceMethod yX7_sumGraphsOf : Cond) ∈ lw_tbl := List.mem_of_getElem? (i := 723) (by decide +kernel)
theorem tw_481 : (.methodLink RX7 156 yX7_sumGraphsOf : Cond) ∈ lw_tbl := List.mem_of_getElem? (i := 721) (by decide +kernel)
theorem tw_482 : (.code yX7_sumGraphs cX7_sumGraphs 3 none : Cond) ∈ lw_tbl := List.mem_of_getElem? (i := 720) (by decide +kernel)
theorem tw_483 : (.methodLink RX5 34 yX5_forget : Cond) ∈ lw_tbl := List.mem_of_getElem? (i := 692) (by decide +kernel)
theorem tw_484 : (.code yX5_copy cX5_copy 3 none : Cond) ∈ lw_tbl := List.mem_of_getElem? (i := 691) (by decide +kernel)
theorem tw_485 : (.methodLink RX5 37 Lib.Math.max.name : Cond) ∈ lw_tbl := List.mem_of_getElem? (i := 697) (by decide +kernel)
theorem tw_486 : (.code yX5_divide cX5_divide 3 none : Cond) ∈ lw_tbl := List.mem_of_getElem? (i := 707) (by decide +kernel)
theorem tw_487 : (.methodLink RX5 43 Lib.Math.min.name : Cond) ∈ lw_tbl := List.mem_of_getElem? (i := 698) (by decide +kernel)
theorem tw_488 : (.code yX5_lowerTo cX5_lowerTo 3 none : Cond) ∈ lw_tbl := List.mem_of_getElem? (i := 696) (by decide +kernel)
theorem tw_489 : (.code yX7_addSmaller cX7_addSmaller 5 none : Cond) ∈ lw_tbl := List.mem_of_getElem? (i := 712) (by decide +kernel)
theorem tw_490 : (.fieldLink RX7 150 "StructureSearch$Sheet" "most" "I" : Cond) ∈ lw_tbl := List.mem_of_getElem? (i := 112) (by decide +kernel)
theorem tw_491 : (.code yX7_isOpen cX7_isOpen 3 (some .boolean) : Cond) ∈ lw_tbl := List.mem_of_getElem? (i := 684) (by decide +kernel)
theorem tw_492 : (.selects RX7 yX7_addSmaller yX7_addSmaller : Cond) ∈ lw_tbl := List.mem_of_getElem? (i := 23) (by decide +kernel)
theorem tw_493 : (.instanceMethod yX7_addSmaller : Cond) ∈ lw_tbl := List.mem_of_getElem? (i := 711) (by decide +kernel)
theorem tw_494 : (.selects RX5 yX5_divide yX5_divide : Cond) ∈ lw_tbl := List.mem_of_getElem? (i := 706) (by decide +kernel)
theorem tw_495 : (.instanceMethod yX5_divide : Cond) ∈ lw_tbl := List.mem_of_getElem? (i := 705) (by decide +kernel)
theorem tw_496 : (.selects RX5 yX5_lowerTo yX5_lowerTo : Cond) ∈ lw_tbl := List.mem_of_getElem? (i := 695) (by decide +kernel)
theorem tw_497 : (.instanceMethod yX5_lowerTo : Cond) ∈ lw_tbl := List.mem_of_getElem? (i := 694) (by decide +kernel)
theorem tw_498 : (.selects RX5 yX5_copy yX5_copy : Cond) ∈ lw_tbl := List.mem_of_getElem? (i := 690) (by decide +kernel)
theorem tw_499 : (.instanceMethod yX5_copy : Cond) ∈ lw_tbl := List.mem_of_getElem? (i := 689) (by decide +kernel)
theorem tw_500 : (.selects RX7 yX7_isOpen yX7_isOpen : Cond) ∈ lw_tbl := List.mem_of_getElem? (i := 21) (by decide +kernel)
theorem tw_501 : (.instanceMethod yX7_isOpen : Cond) ∈ lw_tbl := List.mem_of_getElem? (i := 683) (by decide +kernel)
theorem tw_502 : (.methodLink RX7 138 yX7_addSmaller : Cond) ∈ lw_tbl := List.mem_of_getElem? (i := 709) (by decide +kernel)
theorem tw_503 : (.methodLink RX7 134 yX5_write : Cond) ∈ lw_tbl := List.mem_of_getElem? (i := 708) (by decide +kernel)
theorem tw_504 : (.methodLink RX7 131 yX5_divide : Cond) ∈ lw_tbl := List.mem_of_getElem? (i := 704) (by decide +kernel)
theorem tw_505 : (.methodLink RX7 121 yX5_lowerTo : Cond) ∈ lw_tbl := List.mem_of_getElem? (i := 693) (by decide +kernel)
theorem tw_506 : (.methodLink RX7 118 yX5_copy : Cond) ∈ lw_tbl := List.mem_of_getElem? (i := 688) (by decide +kernel)
theorem tw_507 : (.methodLink RX7 114 yX8_pourFit : Cond) ∈ lw_tbl := List.mem_of_getElem? (i := 687) (by decide +kernel)
theorem tw_508 : (.methodLink RX7 111 yX5_forget : Cond) ∈ lw_tbl := List.mem_of_getElem? (i := 686) (by decide +kernel)
theorem tw_509 : (.methodLink RX7 108 yX7_isOpen : Cond) ∈ lw_tbl := List.mem_of_getElem? (i := 681) (by decide +kernel)
theorem tw_510 : (.code yX7_weigh cX7_weigh 3 none : Cond) ∈ lw_tbl := List.mem_of_getElem? (i := 680) (by decide +kernel)
theorem tw_511 : (.selects RX7 yX7_lower yX7_lower : Cond) ∈ lw_tbl := List.mem_of_getElem? (i := 30) (by decide +kernel)
theorem tw_512 : (.instanceMethod yX7_lower : Cond) ∈ lw_tbl := List.mem_of_getElem? (i := 755) (by decide +kernel)
theorem tw_513 : (.selects RX7 yX7_keepArc yX7_keepArc : Cond) ∈ lw_tbl := List.mem_of_getElem? (i := 29) (by decide +kernel)
theorem tw_514 : (.instanceMethod yX7_keepArc : Cond) ∈ lw_tbl := List.mem_of_getElem? (i := 751) (by decide +kernel)
theorem tw_515 : (.selects RX7 yX7_sumGraphs yX7_sumGraphs : Cond) ∈ lw_tbl := List.mem_of_getElem? (i := 24) (by decide +kernel)
theorem tw_516 : (.instanceMethod yX7_sumGraphs : Cond) ∈ lw_tbl := List.mem_of_getElem? (i := 719) (by decide +kernel)
theorem tw_517 : (.selects RX7 yX7_weigh yX7_weigh : Cond) ∈ lw_tbl := List.mem_of_getElem? (i := 20) (by decide +kernel)
theorem tw_518 : (.instanceMethod yX7_weigh : Cond) ∈ lw_tbl := List.mem_of_getElem? (i := 679) (by decide +kernel)
theorem tw_519 : (.methodLink RX7 105 yX7_lower : Cond) ∈ lw_tbl := List.mem_of_getElem? (i := 753) (by decide +kernel)
theorem tw_520 : (.methodLink RX7 98 yX7_keepArc : Cond) ∈ lw_tbl := List.mem_of_getElem? (i := 749) (by decide +kernel)
theorem tw_521 : (.methodLink RX7 84 yX7_sumGraphs : Cond) ∈ lw_tbl := List.mem_of_getElem? (i := 717) (by decide +kernel)
theorem tw_522 : (.methodLink RX7 81 yX7_weigh : Cond) ∈ lw_tbl := List.mem_of_getElem? (i := 677) (by decide +kernel)
theorem tw_523 : (.code yX7_of cX7_of 5 (some (.object "StructureSearch$Fraction")) : Cond) ∈ lw_tbl := List.mem_of_getElem? (i := 676) (by decide +kernel)
theorem tw_524 : (.selects RX1 yX1_length yX1_length : Cond) ∈ lw_tbl := List.mem_of_getElem? (i := 433) (by decide +kernel)
theorem tw_525 : (.instanceMethod yX1_length : Cond) ∈ lw_tbl := List.mem_of_getElem? (i := 432) (by decide +kernel)
theorem tw_526 : (.selects RX3 yX3_side yX3_side : Cond) ∈ lw_tbl := List.mem_of_getElem? (i := 429) (by decide +kernel)
theorem tw_527 : (.instanceMethod yX3_side : Cond) ∈ lw_tbl := List.mem_of_getElem? (i := 428) (by decide +kernel)
theorem tw_528 : (.selects RX7 yX7_of yX7_of : Cond) ∈ lw_tbl := List.mem_of_getElem? (i := 675) (by decide +kernel)
theorem tw_529 : (.instanceMethod yX7_of : Cond) ∈ lw_tbl := List.mem_of_getElem? (i := 674) (by decide +kernel)
theorem tw_530 : (.selects RX10 yX10_readyShares yX10_readyShares : Cond) ∈ lw_tbl := List.mem_of_getElem? (i := 19) (by decide +kernel)
theorem tw_531 : (.instanceMethod yX10_readyShares : Cond) ∈ lw_tbl := List.mem_of_getElem? (i := 620) (by decide +kernel)
theorem tw_532 : (.static yX10_isPart : Cond) ∈ lw_tbl := List.mem_of_getElem? (i := 390) (by decide +kernel)
theorem tw_533 : (.selects RX10 yX10_isPair yX10_isPair : Cond) ∈ lw_tbl := List.mem_of_getElem? (i := 18) (by decide +kernel)
theorem tw_534 : (.instanceMethod yX10_isPair : Cond) ∈ lw_tbl := List.mem_of_getElem? (i := 616) (by decide +kernel)
theorem tw_535 : (.methodLink RX10 132 yX1_length : Cond) ∈ lw_tbl := List.mem_of_getElem? (i := 431) (by decide +kernel)
theorem tw_536 : (.methodLink RX10 126 yX3_side : Cond) ∈ lw_tbl := List.mem_of_getElem? (i := 427) (by decide +kernel)
theorem tw_537 : (.methodLink RX10 195 yX7_of : Cond) ∈ lw_tbl := List.mem_of_getElem? (i := 673) (by decide +kernel)
theorem tw_538 : (.methodLink RX10 191 yX10_readyShares : Cond) ∈ lw_tbl := List.mem_of_getElem? (i := 618) (by decide +kernel)
theorem tw_539 : (.methodLink RX10 119 yX10_isPart : Cond) ∈ lw_tbl := List.mem_of_getElem? (i := 389) (by decide +kernel)
theorem tw_540 : (.methodLink RX10 188 yX10_isPair : Cond) ∈ lw_tbl := List.mem_of_getElem? (i := 614) (by decide +kernel)
theorem tw_541 : (.code yX10_shareSize cX10_shareSize 4 (some .int) : Cond) ∈ lw_tbl := List.mem_of_getElem? (i := 613) (by decide +kernel)
theorem tw_542 : (.methodLink RX10 216 yX1_at : Cond) ∈ lw_tbl := List.mem_of_getElem? (i := 443) (by decide +kernel)
theorem tw_543 : (.constantLong RX10 138 (-1) : Cond) ∈ lw_tbl := List.mem_of_getElem? (i := 439) (by decide +kernel)
theorem tw_544 : (.code yX10_wordOf cX10_wordOf 2 (some .long) : Cond) ∈ lw_tbl := List.mem_of_getElem? (i := 442) (by decide +kernel)
theorem tw_545 : (.static yX10_wordOf : Cond) ∈ lw_tbl := List.mem_of_getElem? (i := 441) (by decide +kernel)
theorem tw_546 : (.methodLink RX10 140 yX10_wordOf : Cond) ∈ lw_tbl := List.mem_of_getElem? (i := 440) (by decide +kernel)
theorem tw_547 : (.constantLong RX10 201 (-2) : Cond) ∈ lw_tbl := List.mem_of_getElem? (i := 799) (by decide +kernel)
theorem tw_548 : (.code yX10_shareWord cX10_shareWord 5 (some .long) : Cond) ∈ lw_tbl := List.mem_of_getElem? (i := 798) (by decide +kernel)
theorem tw_549 : (.code yX2_ofGraph cX2_ofGraph 3 (some (.object "StructureSearch$Fraction")) : Cond) ∈ lw_tbl := List.mem_of_getElem? (i := 395) (by decide +kernel)
theorem tw_550 : (.selects RX2 yX2_ofGraph yX2_ofGraph : Cond) ∈ lw_tbl := List.mem_of_getElem? (i := 394) (by decide +kernel)
theorem tw_551 : (.instanceMethod yX2_ofGraph : Cond) ∈ lw_tbl := List.mem_of_getElem? (i := 393) (by decide +kernel)
theorem tw_552 : (.methodLink RX10 122 yX2_ofGraph : Cond) ∈ lw_tbl := List.mem_of_getElem? (i := 392) (by decide +kernel)
theorem tw_553 : (.code yX10_size cX10_size 3 (some .int) : Cond) ∈ lw_tbl := List.mem_of_getElem? (i := 388) (by decide +kernel)
theorem tw_554 : (.fieldLink RX9 51 "StructureSearch$Tables" "FACTORIALS" "[J" : Cond) ∈ lw_tbl := List.mem_of_getElem? (i := 820) (by decide +kernel)
theorem tw_555 : (.code yX9_factorial cX9_factorial 1 (some .long) : Cond) ∈ lw_tbl := List.mem_of_getElem? (i := 824) (by decide +kernel)
theorem tw_556 : (.static yX9_factorial : Cond) ∈ lw_tbl := List.mem_of_getElem? (i := 823) (by decide +kernel)
theorem tw_557 : (.methodLink RX9 55 yX9_factorial : Cond) ∈ lw_tbl := List.mem_of_getElem? (i := 822) (by decide +kernel)
theorem tw_558 : (.code yX9_deals cX9_deals 5 (some .long) : Cond) ∈ lw_tbl := List.mem_of_getElem? (i := 819) (by decide +kernel)
theorem tw_559 : (.code yX9_second cX9_second 2 (some .int) : Cond) ∈ lw_tbl := List.mem_of_getElem? (i := 836) (by decide +kernel)
theorem tw_560 : (.static yX9_deals : Cond) ∈ lw_tbl := List.mem_of_getElem? (i := 818) (by decide +kernel)
theorem tw_561 : (.selects RX9 yX9_second yX9_second : Cond) ∈ lw_tbl := List.mem_of_getElem? (i := 38) (by decide +kernel)
theorem tw_562 : (.instanceMethod yX9_second : Cond) ∈ lw_tbl := List.mem_of_getElem? (i := 835) (by decide +kernel)
theorem tw_563 : (.methodLink RX9 40 yX9_deals : Cond) ∈ lw_tbl := List.mem_of_getElem? (i := 817) (by decide +kernel)
theorem tw_564 : (.methodLink RX9 36 yX9_second : Cond) ∈ lw_tbl := List.mem_of_getElem? (i := 833) (by decide +kernel)
theorem tw_565 : (.code yX9_allWays cX9_allWays 1 (some .long) : Cond) ∈ lw_tbl := List.mem_of_getElem? (i := 840) (by decide +kernel)
theorem tw_566 : (.code yX8_valueIn cX8_valueIn 3 (some .int) : Cond) ∈ lw_tbl := List.mem_of_getElem? (i := 341) (by decide +kernel)
theorem tw_567 : (.code yX9_cell cX9_cell 4 (some .int) : Cond) ∈ lw_tbl := List.mem_of_getElem? (i := 812) (by decide +kernel)
theorem tw_568 : (.selects RX9 yX9_cell yX9_cell : Cond) ∈ lw_tbl := List.mem_of_getElem? (i := 35) (by decide +kernel)
theorem tw_569 : (.instanceMethod yX9_cell : Cond) ∈ lw_tbl := List.mem_of_getElem? (i := 811) (by decide +kernel)
theorem tw_570 : (.selects RX8 yX8_valueIn yX8_valueIn : Cond) ∈ lw_tbl := List.mem_of_getElem? (i := 340) (by decide +kernel)
theorem tw_571 : (.instanceMethod yX8_valueIn : Cond) ∈ lw_tbl := List.mem_of_getElem? (i := 339) (by decide +kernel)
theorem tw_572 : (.methodLink RX9 33 yX9_cell : Cond) ∈ lw_tbl := List.mem_of_getElem? (i := 809) (by decide +kernel)
theorem tw_573 : (.methodLink RX9 29 yX8_valueIn : Cond) ∈ lw_tbl := List.mem_of_getElem? (i := 808) (by decide +kernel)
theorem tw_574 : (.fieldLink RX9 23 "StructureSearch$Sheet" "rows" "I" : Cond) ∈ lw_tbl := List.mem_of_getElem? (i := 107) (by decide +kernel)
theorem tw_575 : (.code yX9_count cX9_count 7 none : Cond) ∈ lw_tbl := List.mem_of_getElem? (i := 807) (by decide +kernel)
theorem tw_576 : (.code yX9_first cX9_first 2 (some .int) : Cond) ∈ lw_tbl := List.mem_of_getElem? (i := 828) (by decide +kernel)
theorem tw_577 : (.selects RX9 yX9_first yX9_first : Cond) ∈ lw_tbl := List.mem_of_getElem? (i := 36) (by decide +kernel)
theorem tw_578 : (.instanceMethod yX9_first : Cond) ∈ lw_tbl := List.mem_of_getElem? (i := 827) (by decide +kernel)
theorem tw_579 : (.methodLink RX9 44 yX9_first : Cond) ∈ lw_tbl := List.mem_of_getElem? (i := 825) (by decide +kernel)
theorem tw_580 : (.code yX9_waysWith cX9_waysWith 17 (some .long) : Cond) ∈ lw_tbl := List.mem_of_getElem? (i := 832) (by decide +kernel)
theorem tw_581 : (.selects RX9 yX9_waysWith yX9_waysWith : Cond) ∈ lw_tbl := List.mem_of_getElem? (i := 37) (by decide +kernel)
theorem tw_582 : (.instanceMethod yX9_waysWith : Cond) ∈ lw_tbl := List.mem_of_getElem? (i := 831) (by decide +kernel)
theorem tw_583 : (.methodLink RX9 47 yX9_waysWith : Cond) ∈ lw_tbl := List.mem_of_getElem? (i := 829) (by decide +kernel)
theorem tw_584 : (.code yX9_waysNotAbove cX9_waysNotAbove 7 (some .long) : Cond) ∈ lw_tbl := List.mem_of_getElem? (i := 816) (by decide +kernel)
theorem tw_585 : (.selects RX9 yX9_allWays yX9_allWays : Cond) ∈ lw_tbl := List.mem_of_getElem? (i := 839) (by decide +kernel)
theorem tw_586 : (.instanceMethod yX9_allWays : Cond) ∈ lw_tbl := List.mem_of_getElem? (i := 838) (by decide +kernel)
theorem tw_587 : (.selects RX9 yX9_waysNotAbove yX9_waysNotAbove : Cond) ∈ lw_tbl := List.mem_of_getElem? (i := 815) (by decide +kernel)
theorem tw_588 : (.instanceMethod yX9_waysNotAbove : Cond) ∈ lw_tbl := List.mem_of_getElem? (i := 814) (by decide +kernel)
theorem tw_589 : (.selects RX9 yX9_count yX9_count : Cond) ∈ lw_tbl := List.mem_of_getElem? (i := 806) (by decide +kernel)
theorem tw_590 : (.instanceMethod yX9_count : Cond) ∈ lw_tbl := List.mem_of_getElem? (i := 805) (by decide +kernel)
theorem tw_591 : (.methodLink RX10 213 yX9_allWays : Cond) ∈ lw_tbl := List.mem_of_getElem? (i := 837) (by decide +kernel)
theorem tw_592 : (.methodLink RX10 209 yX9_waysNotAbove : Cond) ∈ lw_tbl := List.mem_of_getElem? (i := 813) (by decide +kernel)
theorem tw_593 : (.methodLink RX10 206 yX9_count : Cond) ∈ lw_tbl := List.mem_of_getElem? (i := 804) (by decide +kernel)
theorem tw_594 : (.code yX10_test cX10_test 6 (some .long) : Cond) ∈ lw_tbl := List.mem_of_getElem? (i := 803) (by decide +kernel)
theorem tw_595 : (.methodLink RX10 92 yX8_valueIn : Cond) ∈ lw_tbl := List.mem_of_getElem? (i := 338) (by decide +kernel)
theorem tw_596 : (.code yX10_value cX10_value 3 (some .int) : Cond) ∈ lw_tbl := List.mem_of_getElem? (i := 337) (by decide +kernel)
theorem tw_597 : (.code yX10_word cX10_word 4 (some .long) : Cond) ∈ lw_tbl := List.mem_of_getElem? (i := 438) (by decide +kernel)
theorem tw_598 : (.fieldLink RX11 7 "StructureSearchModel" "values" "[I" : Cond) ∈ lw_tbl := List.mem_of_getElem? (i := 848) (by decide +kernel)
theorem tw_599 : (.fieldLink RX11 20 "StructureSearchModel" "most" "I" : Cond) ∈ lw_tbl := List.mem_of_getElem? (i := 852) (by decide +kernel)
theorem tw_600 : (.fieldLink RX11 16 "StructureSearchModel" "strength" "I" : Cond) ∈ lw_tbl := List.mem_of_getElem? (i := 851) (by decide +kernel)
theorem tw_601 : (.fieldLink RX11 179 "StructureSearchModel" "rows" "I" : Cond) ∈ lw_tbl := List.mem_of_getElem? (i := 849) (by decide +kernel)
theorem tw_602 : (.fieldLink RX11 160 "StructureSearchModel" "names" "I" : Cond) ∈ lw_tbl := List.mem_of_getElem? (i := 847) (by decide +kernel)
theorem tw_603 : (.code yX11_about cX11_about 2 (some .int) : Cond) ∈ lw_tbl := List.mem_of_getElem? (i := 1017) (by decide +kernel)
theorem tw_604 : (.code yX11_has cX11_has 3 (some .boolean) : Cond) ∈ lw_tbl := List.mem_of_getElem? (i := 1177) (by decide +kernel)
theorem tw_605 : (.initialized RX11 : Cond) ∈ lw_tbl := List.mem_of_getElem? (i := 74) (by decide +kernel)
theorem tw_606 : (.static yX11_has : Cond) ∈ lw_tbl := List.mem_of_getElem? (i := 1176) (by decide +kernel)
theorem tw_607 : (.methodLink RX11 220 yX11_has : Cond) ∈ lw_tbl := List.mem_of_getElem? (i := 1175) (by decide +kernel)
theorem tw_608 : (.code yX11_touch cX11_touch 3 (some .boolean) : Cond) ∈ lw_tbl := List.mem_of_getElem? (i := 1174) (by decide +kernel)
theorem tw_609 : (.static yX11_touch : Cond) ∈ lw_tbl := List.mem_of_getElem? (i := 1173) (by decide +kernel)
theorem tw_610 : (.methodLink RX11 223 yX11_touch : Cond) ∈ lw_tbl := List.mem_of_getElem? (i := 1172) (by decide +kernel)
theorem tw_611 : (.code yX11_isAlike cX11_isAlike 6 (some .boolean) : Cond) ∈ lw_tbl := List.mem_of_getElem? (i := 1171) (by decide +kernel)
theorem tw_612 : (.code yX11_isSet cX11_isSet 2 (some .boolean) : Cond) ∈ lw_tbl := List.mem_of_getElem? (i := 974) (by decide +kernel)
theorem tw_613 : (.code yX11_parentsOf cX11_parentsOf 4 (some .int) : Cond) ∈ lw_tbl := List.mem_of_getElem? (i := 977) (by decide +kernel)
theorem tw_614 : (.static yX11_parentsOf : Cond) ∈ lw_tbl := List.mem_of_getElem? (i := 976) (by decide +kernel)
theorem tw_615 : (.selects RX11 yX11_isSet yX11_isSet : Cond) ∈ lw_tbl := List.mem_of_getElem? (i := 39) (by decide +kernel)
theorem tw_616 : (.instanceMethod yX11_isSet : Cond) ∈ lw_tbl := List.mem_of_getElem? (i := 973) (by decide +kernel)
theorem tw_617 : (.methodLink RX11 194 yX11_parentsOf : Cond) ∈ lw_tbl := List.mem_of_getElem? (i := 975) (by decide +kernel)
theorem tw_618 : (.methodLink RX11 212 yX11_isSet : Cond) ∈ lw_tbl := List.mem_of_getElem? (i := 971) (by decide +kernel)
theorem tw_619 : (.constant RX11 211 (33554432) : Cond) ∈ lw_tbl := List.mem_of_getElem? (i := 970) (by decide +kernel)
theorem tw_620 : (.code yX11_isGraph cX11_isGraph 5 (some .boolean) : Cond) ∈ lw_tbl := List.mem_of_getElem? (i := 969) (by decide +kernel)
theorem tw_621 : (.static yX11_isAlike : Cond) ∈ lw_tbl := List.mem_of_getElem? (i := 1170) (by decide +kernel)
theorem tw_622 : (.selects RX11 yX11_isGraph yX11_isGraph : Cond) ∈ lw_tbl := List.mem_of_getElem? (i := 968) (by decide +kernel)
theorem tw_623 : (.instanceMethod yX11_isGraph : Cond) ∈ lw_tbl := List.mem_of_getElem? (i := 967) (by decide +kernel)
theorem tw_624 : (.methodLink RX11 278 yX11_isAlike : Cond) ∈ lw_tbl := List.mem_of_getElem? (i := 1169) (by decide +kernel)
theorem tw_625 : (.methodLink RX11 236 yX11_isGraph : Cond) ∈ lw_tbl := List.mem_of_getElem? (i := 1022) (by decide +kernel)
theorem tw_626 : (.code yX11_alike cX11_alike 3 (some .int) : Cond) ∈ lw_tbl := List.mem_of_getElem? (i := 1168) (by decide +kernel)
theorem tw_627 : (.code yX11_arcs cX11_arcs 4 (some .int) : Cond) ∈ lw_tbl := List.mem_of_getElem? (i := 1144) (by decide +kernel)
theorem tw_628 : (.code yX11_bits cX11_bits 3 (some .int) : Cond) ∈ lw_tbl := List.mem_of_getElem? (i := 1137) (by decide +kernel)
theorem tw_629 : (.code yX11_copy cX11_copy 3 none : Cond) ∈ lw_tbl := List.mem_of_getElem? (i := 1069) (by decide +kernel)
theorem tw_630 : (.constantLong RX11 123 (4294967295) : Cond) ∈ lw_tbl := List.mem_of_getElem? (i := 1059) (by decide +kernel)
theorem tw_631 : (.code yX11_compareTo cX11_compareTo 6 (some .int) : Cond) ∈ lw_tbl := List.mem_of_getElem? (i := 1081) (by decide +kernel)
theorem tw_632 : (.code yX11_trim cX11_trim 3 none : Cond) ∈ lw_tbl := List.mem_of_getElem? (i := 1078) (by decide +kernel)
theorem tw_633 : (.static yX11_trim : Cond) ∈ lw_tbl := List.mem_of_getElem? (i := 1077) (by decide +kernel)
theorem tw_634 : (.methodLink RX11 125 yX11_trim : Cond) ∈ lw_tbl := List.mem_of_getElem? (i := 1076) (by decide +kernel)
theorem tw_635 : (.code yX11_halve cX11_halve 2 none : Cond) ∈ lw_tbl := List.mem_of_getElem? (i := 1075) (by decide +kernel)
theorem tw_636 : (.code yX11_isEven cX11_isEven 1 (some .boolean) : Cond) ∈ lw_tbl := List.mem_of_getElem? (i := 1072) (by decide +kernel)
theorem tw_637 : (.code yX11_less cX11_less 7 none : Cond) ∈ lw_tbl := List.mem_of_getElem? (i := 1084) (by decide +kernel)
theorem tw_638 : (.code yX11_twice cX11_twice 5 none : Cond) ∈ lw_tbl := List.mem_of_getElem? (i := 1087) (by decide +kernel)
theorem tw_639 : (.static yX11_twice : Cond) ∈ lw_tbl := List.mem_of_getElem? (i := 1086) (by decide +kernel)
theorem tw_640 : (.static yX11_less : Cond) ∈ lw_tbl := List.mem_of_getElem? (i := 1083) (by decide +kernel)
theorem tw_641 : (.static yX11_compareTo : Cond) ∈ lw_tbl := List.mem_of_getElem? (i := 1080) (by decide +kernel)
theorem tw_642 : (.static yX11_halve : Cond) ∈ lw_tbl := List.mem_of_getElem? (i := 1074) (by decide +kernel)
theorem tw_643 : (.static yX11_isEven : Cond) ∈ lw_tbl := List.mem_of_getElem? (i := 1071) (by decide +kernel)
theorem tw_644 : (.static yX11_copy : Cond) ∈ lw_tbl := List.mem_of_getElem? (i := 1068) (by decide +kernel)
theorem tw_645 : (.methodLink RX11 148 yX11_twice : Cond) ∈ lw_tbl := List.mem_of_getElem? (i := 1085) (by decide +kernel)
theorem tw_646 : (.methodLink RX11 145 yX11_less : Cond) ∈ lw_tbl := List.mem_of_getElem? (i := 1082) (by decide +kernel)
theorem tw_647 : (.methodLink RX11 141 yX11_compareTo : Cond) ∈ lw_tbl := List.mem_of_getElem? (i := 1079) (by decide +kernel)
theorem tw_648 : (.methodLink RX11 137 yX11_halve : Cond) ∈ lw_tbl := List.mem_of_getElem? (i := 1073) (by decide +kernel)
theorem tw_649 : (.methodLink RX11 133 yX11_isEven : Cond) ∈ lw_tbl := List.mem_of_getElem? (i := 1070) (by decide +kernel)
theorem tw_650 : (.methodLink RX11 129 yX11_copy : Cond) ∈ lw_tbl := List.mem_of_getElem? (i := 1067) (by decide +kernel)
theorem tw_651 : (.fieldLink RX11 29 "StructureSearchModel" "rest" "[I" : Cond) ∈ lw_tbl := List.mem_of_getElem? (i := 855) (by decide +kernel)
theorem tw_652 : (.fieldLink RX11 26 "StructureSearchModel" "two" "[I" : Cond) ∈ lw_tbl := List.mem_of_getElem? (i := 854) (by decide +kernel)
theorem tw_653 : (.fieldLink RX11 23 "StructureSearchModel" "one" "[I" : Cond) ∈ lw_tbl := List.mem_of_getElem? (i := 853) (by decide +kernel)
theorem tw_654 : (.code yX11_common cX11_common 5 none : Cond) ∈ lw_tbl := List.mem_of_getElem? (i := 1066) (by decide +kernel)
theorem tw_655 : (.code yX11_divide cX11_divide 7 none : Cond) ∈ lw_tbl := List.mem_of_getElem? (i := 1091) (by decide +kernel)
theorem tw_656 : (.code yX11_load cX11_load 4 none : Cond) ∈ lw_tbl := List.mem_of_getElem? (i := 1062) (by decide +kernel)
theorem tw_657 : (.code yX11_place cX11_place 2 (some .int) : Cond) ∈ lw_tbl := List.mem_of_getElem? (i := 1047) (by decide +kernel)
theorem tw_658 : (.code yX11_store cX11_store 4 none : Cond) ∈ lw_tbl := List.mem_of_getElem? (i := 1094) (by decide +kernel)
theorem tw_659 : (.fieldLink RX11 13 "StructureSearchModel" "cells" "[I" : Cond) ∈ lw_tbl := List.mem_of_getElem? (i := 850) (by decide +kernel)
theorem tw_660 : (.code yX11_agree cX11_agree 6 (some .boolean) : Cond) ∈ lw_tbl := List.mem_of_getElem? (i := 1055) (by decide +kernel)
theorem tw_661 : (.code yX11_grow cX11_grow 7 none : Cond) ∈ lw_tbl := List.mem_of_getElem? (i := 1058) (by decide +kernel)
theorem tw_662 : (.static yX11_grow : Cond) ∈ lw_tbl := List.mem_of_getElem? (i := 1057) (by decide +kernel)
theorem tw_663 : (.selects RX11 yX11_agree yX11_agree : Cond) ∈ lw_tbl := List.mem_of_getElem? (i := 47) (by decide +kernel)
theorem tw_664 : (.instanceMethod yX11_agree : Cond) ∈ lw_tbl := List.mem_of_getElem? (i := 1054) (by decide +kernel)
theorem tw_665 : (.static yX11_place : Cond) ∈ lw_tbl := List.mem_of_getElem? (i := 1046) (by decide +kernel)
theorem tw_666 : (.methodLink RX11 186 yX11_grow : Cond) ∈ lw_tbl := List.mem_of_getElem? (i := 1056) (by decide +kernel)
theorem tw_667 : (.methodLink RX11 182 yX11_agree : Cond) ∈ lw_tbl := List.mem_of_getElem? (i := 1052) (by decide +kernel)
theorem tw_668 : (.methodLink RX11 163 yX11_place : Cond) ∈ lw_tbl := List.mem_of_getElem? (i := 1045) (by decide +kernel)
theorem tw_669 : (.fieldLink RX11 45 "StructureSearchModel" "lows" "[I" : Cond) ∈ lw_tbl := List.mem_of_getElem? (i := 860) (by decide +kernel)
theorem tw_670 : (.fieldLink RX11 42 "StructureSearchModel" "tops" "[I" : Cond) ∈ lw_tbl := List.mem_of_getElem? (i := 859) (by decide +kernel)
theorem tw_671 : (.code yX11_work cX11_work 9 none : Cond) ∈ lw_tbl := List.mem_of_getElem? (i := 1051) (by decide +kernel)
theorem tw_672 : (.static yX11_store : Cond) ∈ lw_tbl := List.mem_of_getElem? (i := 1093) (by decide +kernel)
theorem tw_673 : (.selects RX11 yX11_divide yX11_divide : Cond) ∈ lw_tbl := List.mem_of_getElem? (i := 49) (by decide +kernel)
theorem tw_674 : (.instanceMethod yX11_divide : Cond) ∈ lw_tbl := List.mem_of_getElem? (i := 1090) (by decide +kernel)
theorem tw_675 : (.selects RX11 yX11_common yX11_common : Cond) ∈ lw_tbl := List.mem_of_getElem? (i := 48) (by decide +kernel)
theorem tw_676 : (.instanceMethod yX11_common : Cond) ∈ lw_tbl := List.mem_of_getElem? (i := 1065) (by decide +kernel)
theorem tw_677 : (.static yX11_load : Cond) ∈ lw_tbl := List.mem_of_getElem? (i := 1061) (by decide +kernel)
theorem tw_678 : (.selects RX11 yX11_work yX11_work : Cond) ∈ lw_tbl := List.mem_of_getElem? (i := 46) (by decide +kernel)
theorem tw_679 : (.instanceMethod yX11_work : Cond) ∈ lw_tbl := List.mem_of_getElem? (i := 1050) (by decide +kernel)
theorem tw_680 : (.methodLink RX11 175 yX11_store : Cond) ∈ lw_tbl := List.mem_of_getElem? (i := 1092) (by decide +kernel)
theorem tw_681 : (.methodLink RX11 157 yX11_divide : Cond) ∈ lw_tbl := List.mem_of_getElem? (i := 1088) (by decide +kernel)
theorem tw_682 : (.methodLink RX11 154 yX11_common : Cond) ∈ lw_tbl := List.mem_of_getElem? (i := 1063) (by decide +kernel)
theorem tw_683 : (.methodLink RX11 171 yX11_load : Cond) ∈ lw_tbl := List.mem_of_getElem? (i := 1060) (by decide +kernel)
theorem tw_684 : (.methodLink RX11 167 yX11_work : Cond) ∈ lw_tbl := List.mem_of_getElem? (i := 1048) (by decide +kernel)
theorem tw_685 : (.fieldLink RX11 51 "StructureSearchModel" "large" "[I" : Cond) ∈ lw_tbl := List.mem_of_getElem? (i := 862) (by decide +kernel)
theorem tw_686 : (.fieldLink RX11 48 "StructureSearchModel" "small" "[I" : Cond) ∈ lw_tbl := List.mem_of_getElem? (i := 861) (by decide +kernel)
theorem tw_687 : (.fieldLink RX11 38 "StructureSearchModel" "isKnown" "[Z" : Cond) ∈ lw_tbl := List.mem_of_getElem? (i := 858) (by decide +kernel)
theorem tw_688 : (.code yX11_family cX11_family 4 (some .int) : Cond) ∈ lw_tbl := List.mem_of_getElem? (i := 1044) (by decide +kernel)
theorem tw_689 : (.code yX11_times cX11_times 10 none : Cond) ∈ lw_tbl := List.mem_of_getElem? (i := 1101) (by decide +kernel)
theorem tw_690 : (.static yX11_times : Cond) ∈ lw_tbl := List.mem_of_getElem? (i := 1100) (by decide +kernel)
theorem tw_691 : (.methodLink RX11 190 yX11_times : Cond) ∈ lw_tbl := List.mem_of_getElem? (i := 1099) (by decide +kernel)
theorem tw_692 : (.fieldLink RX11 75 "StructureSearchModel" "right" "[I" : Cond) ∈ lw_tbl := List.mem_of_getElem? (i := 870) (by decide +kernel)
theorem tw_693 : (.fieldLink RX11 63 "StructureSearchModel" "lowA" "[I" : Cond) ∈ lw_tbl := List.mem_of_getElem? (i := 866) (by decide +kernel)
theorem tw_694 : (.fieldLink RX11 66 "StructureSearchModel" "topB" "[I" : Cond) ∈ lw_tbl := List.mem_of_getElem? (i := 867) (by decide +kernel)
theorem tw_695 : (.fieldLink RX11 72 "StructureSearchModel" "left" "[I" : Cond) ∈ lw_tbl := List.mem_of_getElem? (i := 869) (by decide +kernel)
theorem tw_696 : (.fieldLink RX11 69 "StructureSearchModel" "lowB" "[I" : Cond) ∈ lw_tbl := List.mem_of_getElem? (i := 868) (by decide +kernel)
theorem tw_697 : (.fieldLink RX11 60 "StructureSearchModel" "topA" "[I" : Cond) ∈ lw_tbl := List.mem_of_getElem? (i := 865) (by decide +kernel)
theorem tw_698 : (.code yX11_sign cX11_sign 1 (some .int) : Cond) ∈ lw_tbl := List.mem_of_getElem? (i := 1126) (by decide +kernel)
theorem tw_699 : (.selects RX11 yX11_sign yX11_sign : Cond) ∈ lw_tbl := List.mem_of_getElem? (i := 54) (by decide +kernel)
theorem tw_700 : (.instanceMethod yX11_sign : Cond) ∈ lw_tbl := List.mem_of_getElem? (i := 1125) (by decide +kernel)
theorem tw_701 : (.static yX11_bits : Cond) ∈ lw_tbl := List.mem_of_getElem? (i := 1136) (by decide +kernel)
theorem tw_702 : (.selects RX11 yX11_family yX11_family : Cond) ∈ lw_tbl := List.mem_of_getElem? (i := 45) (by decide +kernel)
theorem tw_703 : (.instanceMethod yX11_family : Cond) ∈ lw_tbl := List.mem_of_getElem? (i := 1043) (by decide +kernel)
theorem tw_704 : (.methodLink RX11 207 yX11_sign : Cond) ∈ lw_tbl := List.mem_of_getElem? (i := 1123) (by decide +kernel)
theorem tw_705 : (.methodLink RX11 216 yX11_bits : Cond) ∈ lw_tbl := List.mem_of_getElem? (i := 1135) (by decide +kernel)
theorem tw_706 : (.methodLink RX11 197 yX11_family : Cond) ∈ lw_tbl := List.mem_of_getElem? (i := 1041) (by decide +kernel)
theorem tw_707 : (.code yX11_bestParents cX11_bestParents 5 (some .int) : Cond) ∈ lw_tbl := List.mem_of_getElem? (i := 1134) (by decide +kernel)
theorem tw_708 : (.fieldLink RX11 57 "StructureSearchModel" "made" "[I" : Cond) ∈ lw_tbl := List.mem_of_getElem? (i := 864) (by decide +kernel)
theorem tw_709 : (.fieldLink RX11 54 "StructureSearchModel" "factor" "[I" : Cond) ∈ lw_tbl := List.mem_of_getElem? (i := 863) (by decide +kernel)
theorem tw_710 : (.code yX11_multiply cX11_multiply 4 none : Cond) ∈ lw_tbl := List.mem_of_getElem? (i := 1098) (by decide +kernel)
theorem tw_711 : (.code yX11_put cX11_put 2 none : Cond) ∈ lw_tbl := List.mem_of_getElem? (i := 1040) (by decide +kernel)
theorem tw_712 : (.selects RX11 yX11_multiply yX11_multiply : Cond) ∈ lw_tbl := List.mem_of_getElem? (i := 50) (by decide +kernel)
theorem tw_713 : (.instanceMethod yX11_multiply : Cond) ∈ lw_tbl := List.mem_of_getElem? (i := 1097) (by decide +kernel)
theorem tw_714 : (.static yX11_put : Cond) ∈ lw_tbl := List.mem_of_getElem? (i := 1039) (by decide +kernel)
theorem tw_715 : (.methodLink RX11 200 yX11_multiply : Cond) ∈ lw_tbl := List.mem_of_getElem? (i := 1095) (by decide +kernel)
theorem tw_716 : (.methodLink RX11 151 yX11_put : Cond) ∈ lw_tbl := List.mem_of_getElem? (i := 1038) (by decide +kernel)
theorem tw_717 : (.code yX11_fitIn cX11_fitIn 7 none : Cond) ∈ lw_tbl := List.mem_of_getElem? (i := 1152) (by decide +kernel)
theorem tw_718 : (.selects RX11 yX11_fitIn yX11_fitIn : Cond) ∈ lw_tbl := List.mem_of_getElem? (i := 57) (by decide +kernel)
theorem tw_719 : (.instanceMethod yX11_fitIn : Cond) ∈ lw_tbl := List.mem_of_getElem? (i := 1151) (by decide +kernel)
theorem tw_720 : (.methodLink RX11 268 yX11_fitIn : Cond) ∈ lw_tbl := List.mem_of_getElem? (i := 1149) (by decide +kernel)
theorem tw_721 : (.code yX11_signIn cX11_signIn 4 (some .int) : Cond) ∈ lw_tbl := List.mem_of_getElem? (i := 1148) (by decide +kernel)
theorem tw_722 : (.selects RX11 yX11_signIn yX11_signIn : Cond) ∈ lw_tbl := List.mem_of_getElem? (i := 56) (by decide +kernel)
theorem tw_723 : (.instanceMethod yX11_signIn : Cond) ∈ lw_tbl := List.mem_of_getElem? (i := 1147) (by decide +kernel)
theorem tw_724 : (.static yX11_arcs : Cond) ∈ lw_tbl := List.mem_of_getElem? (i := 1143) (by decide +kernel)
theorem tw_725 : (.selects RX11 yX11_bestParents yX11_bestParents : Cond) ∈ lw_tbl := List.mem_of_getElem? (i := 55) (by decide +kernel)
theorem tw_726 : (.instanceMethod yX11_bestParents : Cond) ∈ lw_tbl := List.mem_of_getElem? (i := 1133) (by decide +kernel)
theorem tw_727 : (.methodLink RX11 264 yX11_signIn : Cond) ∈ lw_tbl := List.mem_of_getElem? (i := 1145) (by decide +kernel)
theorem tw_728 : (.methodLink RX11 261 yX11_arcs : Cond) ∈ lw_tbl := List.mem_of_getElem? (i := 1142) (by decide +kernel)
theorem tw_729 : (.methodLink RX11 258 yX11_bestParents : Cond) ∈ lw_tbl := List.mem_of_getElem? (i := 1131) (by decide +kernel)
theorem tw_730 : (.fieldLink RX11 84 "StructureSearchModel" "bests" "[I" : Cond) ∈ lw_tbl := List.mem_of_getElem? (i := 873) (by decide +kernel)
theorem tw_731 : (.code yX11_best cX11_best 7 (some .int) : Cond) ∈ lw_tbl := List.mem_of_getElem? (i := 1141) (by decide +kernel)
theorem tw_732 : (.fieldLink RX11 81 "StructureSearchModel" "toldArc" "I" : Cond) ∈ lw_tbl := List.mem_of_getElem? (i := 872) (by decide +kernel)
theorem tw_733 : (.fieldLink RX11 78 "StructureSearchModel" "toldGraph" "I" : Cond) ∈ lw_tbl := List.mem_of_getElem? (i := 871) (by decide +kernel)
theorem tw_734 : (.code yX11_change cX11_change 2 none : Cond) ∈ lw_tbl := List.mem_of_getElem? (i := 985) (by decide +kernel)
theorem tw_735 : (.selects RX11 yX11_change yX11_change : Cond) ∈ lw_tbl := List.mem_of_getElem? (i := 40) (by decide +kernel)
theorem tw_736 : (.instanceMethod yX11_change : Cond) ∈ lw_tbl := List.mem_of_getElem? (i := 984) (by decide +kernel)
theorem tw_737 : (.methodLink RX11 226 yX11_change : Cond) ∈ lw_tbl := List.mem_of_getElem? (i := 982) (by decide +kernel)
theorem tw_738 : (.code yX11_clear cX11_clear 2 (some .int) : Cond) ∈ lw_tbl := List.mem_of_getElem? (i := 981) (by decide +kernel)
theorem tw_739 : (.code yX11_isBounded cX11_isBounded 4 (some .boolean) : Cond) ∈ lw_tbl := List.mem_of_getElem? (i := 1160) (by decide +kernel)
theorem tw_740 : (.code yX11_fit cX11_fit 6 none : Cond) ∈ lw_tbl := List.mem_of_getElem? (i := 1037) (by decide +kernel)
theorem tw_741 : (.selects RX11 yX11_fit yX11_fit : Cond) ∈ lw_tbl := List.mem_of_getElem? (i := 44) (by decide +kernel)
theorem tw_742 : (.instanceMethod yX11_fit : Cond) ∈ lw_tbl := List.mem_of_getElem? (i := 1036) (by decide +kernel)
theorem tw_743 : (.methodLink RX11 203 yX11_fit : Cond) ∈ lw_tbl := List.mem_of_getElem? (i := 1034) (by decide +kernel)
theorem tw_744 : (.code yX11_signOf cX11_signOf 3 (some .int) : Cond) ∈ lw_tbl := List.mem_of_getElem? (i := 1122) (by decide +kernel)
theorem tw_745 : (.selects RX11 yX11_signOf yX11_signOf : Cond) ∈ lw_tbl := List.mem_of_getElem? (i := 53) (by decide +kernel)
theorem tw_746 : (.instanceMethod yX11_signOf : Cond) ∈ lw_tbl := List.mem_of_getElem? (i := 1121) (by decide +kernel)
theorem tw_747 : (.selects RX11 yX11_isBounded yX11_isBounded : Cond) ∈ lw_tbl := List.mem_of_getElem? (i := 58) (by decide +kernel)
theorem tw_748 : (.instanceMethod yX11_isBounded : Cond) ∈ lw_tbl := List.mem_of_getElem? (i := 1159) (by decide +kernel)
theorem tw_749 : (.methodLink RX11 255 yX11_signOf : Cond) ∈ lw_tbl := List.mem_of_getElem? (i := 1119) (by decide +kernel)
theorem tw_750 : (.methodLink RX11 272 yX11_isBounded : Cond) ∈ lw_tbl := List.mem_of_getElem? (i := 1157) (by decide +kernel)
theorem tw_751 : (.code yX11_better cX11_better 4 (some .int) : Cond) ∈ lw_tbl := List.mem_of_getElem? (i := 1164) (by decide +kernel)
theorem tw_752 : (.selects RX11 yX11_better yX11_better : Cond) ∈ lw_tbl := List.mem_of_getElem? (i := 59) (by decide +kernel)
theorem tw_753 : (.instanceMethod yX11_better : Cond) ∈ lw_tbl := List.mem_of_getElem? (i := 1163) (by decide +kernel)
theorem tw_754 : (.methodLink RX11 275 yX11_better : Cond) ∈ lw_tbl := List.mem_of_getElem? (i := 1161) (by decide +kernel)
theorem tw_755 : (.code yX11_climb cX11_climb 11 (some .int) : Cond) ∈ lw_tbl := List.mem_of_getElem? (i := 1156) (by decide +kernel)
theorem tw_756 : (.code yX11_compare cX11_compare 4 (some .int) : Cond) ∈ lw_tbl := List.mem_of_getElem? (i := 1118) (by decide +kernel)
theorem tw_757 : (.code yX11_drop cX11_drop 3 (some .int) : Cond) ∈ lw_tbl := List.mem_of_getElem? (i := 1001) (by decide +kernel)
theorem tw_758 : (.arrayClass .boolean : Cond) ∈ lw_tbl := List.mem_of_getElem? (i := 965) (by decide +kernel)
theorem tw_759 : (.fieldLink RX11 120 "StructureSearchModel" "both" "[I" : Cond) ∈ lw_tbl := List.mem_of_getElem? (i := 885) (by decide +kernel)
theorem tw_760 : (.fieldLink RX11 117 "StructureSearchModel" "ofB" "[I" : Cond) ∈ lw_tbl := List.mem_of_getElem? (i := 884) (by decide +kernel)
theorem tw_761 : (.fieldLink RX11 114 "StructureSearchModel" "ofA" "[I" : Cond) ∈ lw_tbl := List.mem_of_getElem? (i := 883) (by decide +kernel)
theorem tw_762 : (.fieldLink RX11 111 "StructureSearchModel" "sum" "[I" : Cond) ∈ lw_tbl := List.mem_of_getElem? (i := 882) (by decide +kernel)
theorem tw_763 : (.fieldLink RX11 108 "StructureSearchModel" "fewer" "[I" : Cond) ∈ lw_tbl := List.mem_of_getElem? (i := 881) (by decide +kernel)
theorem tw_764 : (.fieldLink RX11 105 "StructureSearchModel" "more" "[I" : Cond) ∈ lw_tbl := List.mem_of_getElem? (i := 880) (by decide +kernel)
theorem tw_765 : (.fieldLink RX11 102 "StructureSearchModel" "term" "[I" : Cond) ∈ lw_tbl := List.mem_of_getElem? (i := 879) (by decide +kernel)
theorem tw_766 : (.fieldLink RX11 99 "StructureSearchModel" "wholes" "[I" : Cond) ∈ lw_tbl := List.mem_of_getElem? (i := 878) (by decide +kernel)
theorem tw_767 : (.fieldLink RX11 96 "StructureSearchModel" "terms" "[I" : Cond) ∈ lw_tbl := List.mem_of_getElem? (i := 877) (by decide +kernel)
theorem tw_768 : (.fieldLink RX11 93 "StructureSearchModel" "sums" "[I" : Cond) ∈ lw_tbl := List.mem_of_getElem? (i := 876) (by decide +kernel)
theorem tw_769 : (.fieldLink RX11 90 "StructureSearchModel" "second" "[I" : Cond) ∈ lw_tbl := List.mem_of_getElem? (i := 875) (by decide +kernel)
theorem tw_770 : (.fieldLink RX11 87 "StructureSearchModel" "first" "[I" : Cond) ∈ lw_tbl := List.mem_of_getElem? (i := 874) (by decide +kernel)
theorem tw_771 : (.fieldLink RX11 35 "StructureSearchModel" "below" "[I" : Cond) ∈ lw_tbl := List.mem_of_getElem? (i := 857) (by decide +kernel)
theorem tw_772 : (.fieldLink RX11 32 "StructureSearchModel" "above" "[I" : Cond) ∈ lw_tbl := List.mem_of_getElem? (i := 856) (by decide +kernel)
theorem tw_773 : (.methodLink RX11 1 objectInit : Cond) ∈ lw_tbl := List.mem_of_getElem? (i := 846) (by decide +kernel)
theorem tw_774 : (.code yX11_init cX11_init 1 none : Cond) ∈ lw_tbl := List.mem_of_getElem? (i := 845) (by decide +kernel)
theorem tw_775 : (.constant RX11 281 (33554431) : Cond) ∈ lw_tbl := List.mem_of_getElem? (i := 1182) (by decide +kernel)
theorem tw_776 : (.code yX11_kin cX11_kin 11 (some .int) : Cond) ∈ lw_tbl := List.mem_of_getElem? (i := 1181) (by decide +kernel)
theorem tw_777 : (.code yX11_name cX11_name 2 (some .int) : Cond) ∈ lw_tbl := List.mem_of_getElem? (i := 989) (by decide +kernel)
theorem tw_778 : (.code yX11_isName cX11_isName 2 (some .boolean) : Cond) ∈ lw_tbl := List.mem_of_getElem? (i := 1009) (by decide +kernel)
theorem tw_779 : (.selects RX11 yX11_isName yX11_isName : Cond) ∈ lw_tbl := List.mem_of_getElem? (i := 42) (by decide +kernel)
theorem tw_780 : (.instanceMethod yX11_isName : Cond) ∈ lw_tbl := List.mem_of_getElem? (i := 1008) (by decide +kernel)
theorem tw_781 : (.methodLink RX11 233 yX11_isName : Cond) ∈ lw_tbl := List.mem_of_getElem? (i := 1006) (by decide +kernel)
theorem tw_782 : (.code yX11_order cX11_order 6 (some .int) : Cond) ∈ lw_tbl := List.mem_of_getElem? (i := 1021) (by decide +kernel)
theorem tw_783 : (.code yX11_parents cX11_parents 3 (some .int) : Cond) ∈ lw_tbl := List.mem_of_getElem? (i := 1130) (by decide +kernel)
theorem tw_784 : (.code yX11_isValue cX11_isValue 3 (some .boolean) : Cond) ∈ lw_tbl := List.mem_of_getElem? (i := 997) (by decide +kernel)
theorem tw_785 : (.selects RX11 yX11_isValue yX11_isValue : Cond) ∈ lw_tbl := List.mem_of_getElem? (i := 41) (by decide +kernel)
theorem tw_786 : (.instanceMethod yX11_isValue : Cond) ∈ lw_tbl := List.mem_of_getElem? (i := 996) (by decide +kernel)
theorem tw_787 : (.methodLink RX11 229 yX11_isValue : Cond) ∈ lw_tbl := List.mem_of_getElem? (i := 994) (by decide +kernel)
theorem tw_788 : (.code yX11_row cX11_row 7 (some .int) : Cond) ∈ lw_tbl := List.mem_of_getElem? (i := 993) (by decide +kernel)
theorem tw_789 : (.code yX11_set cX11_set 4 (some .int) : Cond) ∈ lw_tbl := List.mem_of_getElem? (i := 1013) (by decide +kernel)
theorem tw_790 : (.code yX11_isPart cX11_isPart 1 (some .boolean) : Cond) ∈ lw_tbl := List.mem_of_getElem? (i := 1029) (by decide +kernel)
theorem tw_791 : (.static yX11_isPart : Cond) ∈ lw_tbl := List.mem_of_getElem? (i := 1028) (by decide +kernel)
theorem tw_792 : (.methodLink RX11 244 yX11_isPart : Cond) ∈ lw_tbl := List.mem_of_getElem? (i := 1027) (by decide +kernel)
theorem tw_793 : (.code yX11_shareFault cX11_shareFault 4 (some .int) : Cond) ∈ lw_tbl := List.mem_of_getElem? (i := 1190) (by decide +kernel)
theorem tw_794 : (.code yX11_least cX11_least 1 none : Cond) ∈ lw_tbl := List.mem_of_getElem? (i := 1105) (by decide +kernel)
theorem tw_795 : (.code yX11_plus cX11_plus 6 none : Cond) ∈ lw_tbl := List.mem_of_getElem? (i := 1209) (by decide +kernel)
theorem tw_796 : (.code yX11_whole cX11_whole 4 none : Cond) ∈ lw_tbl := List.mem_of_getElem? (i := 1206) (by decide +kernel)
theorem tw_797 : (.static yX11_plus : Cond) ∈ lw_tbl := List.mem_of_getElem? (i := 1208) (by decide +kernel)
theorem tw_798 : (.selects RX11 yX11_whole yX11_whole : Cond) ∈ lw_tbl := List.mem_of_getElem? (i := 64) (by decide +kernel)
theorem tw_799 : (.instanceMethod yX11_whole : Cond) ∈ lw_tbl := List.mem_of_getElem? (i := 1205) (by decide +kernel)
theorem tw_800 : (.methodLink RX11 285 yX11_plus : Cond) ∈ lw_tbl := List.mem_of_getElem? (i := 1207) (by decide +kernel)
theorem tw_801 : (.methodLink RX11 282 yX11_whole : Cond) ∈ lw_tbl := List.mem_of_getElem? (i := 1203) (by decide +kernel)
theorem tw_802 : (.code yX11_sumUp cX11_sumUp 6 none : Cond) ∈ lw_tbl := List.mem_of_getElem? (i := 1202) (by decide +kernel)
theorem tw_803 : (.selects RX11 yX11_sumUp yX11_sumUp : Cond) ∈ lw_tbl := List.mem_of_getElem? (i := 63) (by decide +kernel)
theorem tw_804 : (.instanceMethod yX11_sumUp : Cond) ∈ lw_tbl := List.mem_of_getElem? (i := 1201) (by decide +kernel)
theorem tw_805 : (.methodLink RX11 288 yX11_sumUp : Cond) ∈ lw_tbl := List.mem_of_getElem? (i := 1199) (by decide +kernel)
theorem tw_806 : (.code yX11_total cX11_total 8 none : Cond) ∈ lw_tbl := List.mem_of_getElem? (i := 1198) (by decide +kernel)
theorem tw_807 : (.selects RX11 yX11_least yX11_least : Cond) ∈ lw_tbl := List.mem_of_getElem? (i := 51) (by decide +kernel)
theorem tw_808 : (.instanceMethod yX11_least : Cond) ∈ lw_tbl := List.mem_of_getElem? (i := 1104) (by decide +kernel)
theorem tw_809 : (.selects RX11 yX11_total yX11_total : Cond) ∈ lw_tbl := List.mem_of_getElem? (i := 62) (by decide +kernel)
theorem tw_810 : (.instanceMethod yX11_total : Cond) ∈ lw_tbl := List.mem_of_getElem? (i := 1197) (by decide +kernel)
theorem tw_811 : (.methodLink RX11 239 yX11_least : Cond) ∈ lw_tbl := List.mem_of_getElem? (i := 1102) (by decide +kernel)
theorem tw_812 : (.methodLink RX11 291 yX11_total : Cond) ∈ lw_tbl := List.mem_of_getElem? (i := 1195) (by decide +kernel)
theorem tw_813 : (.code yX11_tellShare cX11_tellShare 3 none : Cond) ∈ lw_tbl := List.mem_of_getElem? (i := 1194) (by decide +kernel)
theorem tw_814 : (.selects RX11 yX11_tellShare yX11_tellShare : Cond) ∈ lw_tbl := List.mem_of_getElem? (i := 61) (by decide +kernel)
theorem tw_815 : (.instanceMethod yX11_tellShare : Cond) ∈ lw_tbl := List.mem_of_getElem? (i := 1193) (by decide +kernel)
theorem tw_816 : (.selects RX11 yX11_shareFault yX11_shareFault : Cond) ∈ lw_tbl := List.mem_of_getElem? (i := 60) (by decide +kernel)
theorem tw_817 : (.instanceMethod yX11_shareFault : Cond) ∈ lw_tbl := List.mem_of_getElem? (i := 1189) (by decide +kernel)
theorem tw_818 : (.methodLink RX11 298 yX11_tellShare : Cond) ∈ lw_tbl := List.mem_of_getElem? (i := 1191) (by decide +kernel)
theorem tw_819 : (.methodLink RX11 295 yX11_shareFault : Cond) ∈ lw_tbl := List.mem_of_getElem? (i := 1187) (by decide +kernel)
theorem tw_820 : (.code yX11_shareSize cX11_shareSize 5 (some .int) : Cond) ∈ lw_tbl := List.mem_of_getElem? (i := 1186) (by decide +kernel)
theorem tw_821 : (.constantLong RX11 242 (-1) : Cond) ∈ lw_tbl := List.mem_of_getElem? (i := 1110) (by decide +kernel)
theorem tw_822 : (.code yX11_wordOf cX11_wordOf 4 (some .long) : Cond) ∈ lw_tbl := List.mem_of_getElem? (i := 1114) (by decide +kernel)
theorem tw_823 : (.selects RX11 yX11_wordOf yX11_wordOf : Cond) ∈ lw_tbl := List.mem_of_getElem? (i := 52) (by decide +kernel)
theorem tw_824 : (.instanceMethod yX11_wordOf : Cond) ∈ lw_tbl := List.mem_of_getElem? (i := 1113) (by decide +kernel)
theorem tw_825 : (.methodLink RX11 251 yX11_wordOf : Cond) ∈ lw_tbl := List.mem_of_getElem? (i := 1111) (by decide +kernel)
theorem tw_826 : (.code yX11_shareWord cX11_shareWord 6 (some .long) : Cond) ∈ lw_tbl := List.mem_of_getElem? (i := 1213) (by decide +kernel)
theorem tw_827 : (.code yX11_tell cX11_tell 2 none : Cond) ∈ lw_tbl := List.mem_of_getElem? (i := 1033) (by decide +kernel)
theorem tw_828 : (.selects RX11 yX11_tell yX11_tell : Cond) ∈ lw_tbl := List.mem_of_getElem? (i := 43) (by decide +kernel)
theorem tw_829 : (.instanceMethod yX11_tell : Cond) ∈ lw_tbl := List.mem_of_getElem? (i := 1032) (by decide +kernel)
theorem tw_830 : (.methodLink RX11 247 yX11_tell : Cond) ∈ lw_tbl := List.mem_of_getElem? (i := 1030) (by decide +kernel)
theorem tw_831 : (.code yX11_size cX11_size 3 (some .int) : Cond) ∈ lw_tbl := List.mem_of_getElem? (i := 1026) (by decide +kernel)
theorem tw_832 : (.code yX11_lesser cX11_lesser 2 (some .int) : Cond) ∈ lw_tbl := List.mem_of_getElem? (i := 1226) (by decide +kernel)
theorem tw_833 : (.code yX11_choose cX11_choose 5 (some .long) : Cond) ∈ lw_tbl := List.mem_of_getElem? (i := 1223) (by decide +kernel)
theorem tw_834 : (.static yX11_choose : Cond) ∈ lw_tbl := List.mem_of_getElem? (i := 1222) (by decide +kernel)
theorem tw_835 : (.methodLink RX11 301 yX11_choose : Cond) ∈ lw_tbl := List.mem_of_getElem? (i := 1221) (by decide +kernel)
theorem tw_836 : (.code yX11_ways cX11_ways 3 (some .long) : Cond) ∈ lw_tbl := List.mem_of_getElem? (i := 1220) (by decide +kernel)
theorem tw_837 : (.static yX11_lesser : Cond) ∈ lw_tbl := List.mem_of_getElem? (i := 1225) (by decide +kernel)
theorem tw_838 : (.static yX11_ways : Cond) ∈ lw_tbl := List.mem_of_getElem? (i := 1219) (by decide +kernel)
theorem tw_839 : (.methodLink RX11 308 yX11_lesser : Cond) ∈ lw_tbl := List.mem_of_getElem? (i := 1224) (by decide +kernel)
theorem tw_840 : (.methodLink RX11 304 yX11_ways : Cond) ∈ lw_tbl := List.mem_of_getElem? (i := 1218) (by decide +kernel)
theorem tw_841 : (.code yX11_test cX11_test 18 (some .long) : Cond) ∈ lw_tbl := List.mem_of_getElem? (i := 1217) (by decide +kernel)
theorem tw_842 : (.code yX11_value cX11_value 3 (some .int) : Cond) ∈ lw_tbl := List.mem_of_getElem? (i := 1005) (by decide +kernel)
theorem tw_843 : (.code yX11_word cX11_word 4 (some .long) : Cond) ∈ lw_tbl := List.mem_of_getElem? (i := 1109) (by decide +kernel)
theorem tw_844 : (.selects RX11 yX11_test yX11_test : Cond) ∈ lw_tbl := List.mem_of_getElem? (i := 1216) (by decide +kernel)
theorem tw_845 : (.instanceMethod yX11_test : Cond) ∈ lw_tbl := List.mem_of_getElem? (i := 1215) (by decide +kernel)
theorem tw_846 : (.selects RX10 yX10_test yX10_test : Cond) ∈ lw_tbl := List.mem_of_getElem? (i := 802) (by decide +kernel)
theorem tw_847 : (.instanceMethod yX10_test : Cond) ∈ lw_tbl := List.mem_of_getElem? (i := 801) (by decide +kernel)
theorem tw_848 : (.selects RX11 yX11_shareWord yX11_shareWord : Cond) ∈ lw_tbl := List.mem_of_getElem? (i := 1212) (by decide +kernel)
theorem tw_849 : (.instanceMethod yX11_shareWord : Cond) ∈ lw_tbl := List.mem_of_getElem? (i := 1211) (by decide +kernel)
theorem tw_850 : (.selects RX10 yX10_shareWord yX10_shareWord : Cond) ∈ lw_tbl := List.mem_of_getElem? (i := 797) (by decide +kernel)
theorem tw_851 : (.instanceMethod yX10_shareWord : Cond) ∈ lw_tbl := List.mem_of_getElem? (i := 796) (by decide +kernel)
theorem tw_852 : (.selects RX11 yX11_shareSize yX11_shareSize : Cond) ∈ lw_tbl := List.mem_of_getElem? (i := 1185) (by decide +kernel)
theorem tw_853 : (.instanceMethod yX11_shareSize : Cond) ∈ lw_tbl := List.mem_of_getElem? (i := 1184) (by decide +kernel)
theorem tw_854 : (.selects RX10 yX10_shareSize yX10_shareSize : Cond) ∈ lw_tbl := List.mem_of_getElem? (i := 612) (by decide +kernel)
theorem tw_855 : (.instanceMethod yX10_shareSize : Cond) ∈ lw_tbl := List.mem_of_getElem? (i := 611) (by decide +kernel)
theorem tw_856 : (.selects RX11 yX11_kin yX11_kin : Cond) ∈ lw_tbl := List.mem_of_getElem? (i := 1180) (by decide +kernel)
theorem tw_857 : (.instanceMethod yX11_kin : Cond) ∈ lw_tbl := List.mem_of_getElem? (i := 1179) (by decide +kernel)
theorem tw_858 : (.selects RX10 yX10_kin yX10_kin : Cond) ∈ lw_tbl := List.mem_of_getElem? (i := 569) (by decide +kernel)
theorem tw_859 : (.instanceMethod yX10_kin : Cond) ∈ lw_tbl := List.mem_of_getElem? (i := 568) (by decide +kernel)
theorem tw_860 : (.selects RX11 yX11_alike yX11_alike : Cond) ∈ lw_tbl := List.mem_of_getElem? (i := 1167) (by decide +kernel)
theorem tw_861 : (.instanceMethod yX11_alike : Cond) ∈ lw_tbl := List.mem_of_getElem? (i := 1166) (by decide +kernel)
theorem tw_862 : (.selects RX10 yX10_alike yX10_alike : Cond) ∈ lw_tbl := List.mem_of_getElem? (i := 554) (by decide +kernel)
theorem tw_863 : (.instanceMethod yX10_alike : Cond) ∈ lw_tbl := List.mem_of_getElem? (i := 553) (by decide +kernel)
theorem tw_864 : (.selects RX11 yX11_climb yX11_climb : Cond) ∈ lw_tbl := List.mem_of_getElem? (i := 1155) (by decide +kernel)
theorem tw_865 : (.instanceMethod yX11_climb : Cond) ∈ lw_tbl := List.mem_of_getElem? (i := 1154) (by decide +kernel)
theorem tw_866 : (.selects RX10 yX10_climb yX10_climb : Cond) ∈ lw_tbl := List.mem_of_getElem? (i := 528) (by decide +kernel)
theorem tw_867 : (.instanceMethod yX10_climb : Cond) ∈ lw_tbl := List.mem_of_getElem? (i := 527) (by decide +kernel)
theorem tw_868 : (.selects RX11 yX11_best yX11_best : Cond) ∈ lw_tbl := List.mem_of_getElem? (i := 1140) (by decide +kernel)
theorem tw_869 : (.instanceMethod yX11_best : Cond) ∈ lw_tbl := List.mem_of_getElem? (i := 1139) (by decide +kernel)
theorem tw_870 : (.selects RX10 yX10_best yX10_best : Cond) ∈ lw_tbl := List.mem_of_getElem? (i := 506) (by decide +kernel)
theorem tw_871 : (.instanceMethod yX10_best : Cond) ∈ lw_tbl := List.mem_of_getElem? (i := 505) (by decide +kernel)
theorem tw_872 : (.selects RX11 yX11_parents yX11_parents : Cond) ∈ lw_tbl := List.mem_of_getElem? (i := 1129) (by decide +kernel)
theorem tw_873 : (.instanceMethod yX11_parents : Cond) ∈ lw_tbl := List.mem_of_getElem? (i := 1128) (by decide +kernel)
theorem tw_874 : (.selects RX10 yX10_parents yX10_parents : Cond) ∈ lw_tbl := List.mem_of_getElem? (i := 489) (by decide +kernel)
theorem tw_875 : (.instanceMethod yX10_parents : Cond) ∈ lw_tbl := List.mem_of_getElem? (i := 488) (by decide +kernel)
theorem tw_876 : (.selects RX11 yX11_compare yX11_compare : Cond) ∈ lw_tbl := List.mem_of_getElem? (i := 1117) (by decide +kernel)
theorem tw_877 : (.instanceMethod yX11_compare : Cond) ∈ lw_tbl := List.mem_of_getElem? (i := 1116) (by decide +kernel)
theorem tw_878 : (.selects RX10 yX10_compare yX10_compare : Cond) ∈ lw_tbl := List.mem_of_getElem? (i := 449) (by decide +kernel)
theorem tw_879 : (.instanceMethod yX10_compare : Cond) ∈ lw_tbl := List.mem_of_getElem? (i := 448) (by decide +kernel)
theorem tw_880 : (.selects RX11 yX11_word yX11_word : Cond) ∈ lw_tbl := List.mem_of_getElem? (i := 1108) (by decide +kernel)
theorem tw_881 : (.instanceMethod yX11_word : Cond) ∈ lw_tbl := List.mem_of_getElem? (i := 1107) (by decide +kernel)
theorem tw_882 : (.selects RX10 yX10_word yX10_word : Cond) ∈ lw_tbl := List.mem_of_getElem? (i := 437) (by decide +kernel)
theorem tw_883 : (.instanceMethod yX10_word : Cond) ∈ lw_tbl := List.mem_of_getElem? (i := 436) (by decide +kernel)
theorem tw_884 : (.selects RX11 yX11_size yX11_size : Cond) ∈ lw_tbl := List.mem_of_getElem? (i := 1025) (by decide +kernel)
theorem tw_885 : (.instanceMethod yX11_size : Cond) ∈ lw_tbl := List.mem_of_getElem? (i := 1024) (by decide +kernel)
theorem tw_886 : (.selects RX10 yX10_size yX10_size : Cond) ∈ lw_tbl := List.mem_of_getElem? (i := 387) (by decide +kernel)
theorem tw_887 : (.instanceMethod yX10_size : Cond) ∈ lw_tbl := List.mem_of_getElem? (i := 386) (by decide +kernel)
theorem tw_888 : (.selects RX11 yX11_order yX11_order : Cond) ∈ lw_tbl := List.mem_of_getElem? (i := 1020) (by decide +kernel)
theorem tw_889 : (.instanceMethod yX11_order : Cond) ∈ lw_tbl := List.mem_of_getElem? (i := 1019) (by decide +kernel)
theorem tw_890 : (.selects RX10 yX10_order yX10_order : Cond) ∈ lw_tbl := List.mem_of_getElem? (i := 381) (by decide +kernel)
theorem tw_891 : (.instanceMethod yX10_order : Cond) ∈ lw_tbl := List.mem_of_getElem? (i := 380) (by decide +kernel)
theorem tw_892 : (.selects RX11 yX11_about yX11_about : Cond) ∈ lw_tbl := List.mem_of_getElem? (i := 1016) (by decide +kernel)
theorem tw_893 : (.instanceMethod yX11_about : Cond) ∈ lw_tbl := List.mem_of_getElem? (i := 1015) (by decide +kernel)
theorem tw_894 : (.selects RX10 yX10_about yX10_about : Cond) ∈ lw_tbl := List.mem_of_getElem? (i := 352) (by decide +kernel)
theorem tw_895 : (.instanceMethod yX10_about : Cond) ∈ lw_tbl := List.mem_of_getElem? (i := 351) (by decide +kernel)
theorem tw_896 : (.selects RX11 yX11_set yX11_set : Cond) ∈ lw_tbl := List.mem_of_getElem? (i := 1012) (by decide +kernel)
theorem tw_897 : (.instanceMethod yX11_set : Cond) ∈ lw_tbl := List.mem_of_getElem? (i := 1011) (by decide +kernel)
theorem tw_898 : (.selects RX10 yX10_set yX10_set : Cond) ∈ lw_tbl := List.mem_of_getElem? (i := 348) (by decide +kernel)
theorem tw_899 : (.instanceMethod yX10_set : Cond) ∈ lw_tbl := List.mem_of_getElem? (i := 347) (by decide +kernel)
theorem tw_900 : (.selects RX11 yX11_value yX11_value : Cond) ∈ lw_tbl := List.mem_of_getElem? (i := 1004) (by decide +kernel)
theorem tw_901 : (.instanceMethod yX11_value : Cond) ∈ lw_tbl := List.mem_of_getElem? (i := 1003) (by decide +kernel)
theorem tw_902 : (.selects RX10 yX10_value yX10_value : Cond) ∈ lw_tbl := List.mem_of_getElem? (i := 336) (by decide +kernel)
theorem tw_903 : (.instanceMethod yX10_value : Cond) ∈ lw_tbl := List.mem_of_getElem? (i := 335) (by decide +kernel)
theorem tw_904 : (.selects RX11 yX11_drop yX11_drop : Cond) ∈ lw_tbl := List.mem_of_getElem? (i := 1000) (by decide +kernel)
theorem tw_905 : (.instanceMethod yX11_drop : Cond) ∈ lw_tbl := List.mem_of_getElem? (i := 999) (by decide +kernel)
theorem tw_906 : (.selects RX10 yX10_drop yX10_drop : Cond) ∈ lw_tbl := List.mem_of_getElem? (i := 324) (by decide +kernel)
theorem tw_907 : (.instanceMethod yX10_drop : Cond) ∈ lw_tbl := List.mem_of_getElem? (i := 323) (by decide +kernel)
theorem tw_908 : (.selects RX11 yX11_row yX11_row : Cond) ∈ lw_tbl := List.mem_of_getElem? (i := 992) (by decide +kernel)
theorem tw_909 : (.instanceMethod yX11_row : Cond) ∈ lw_tbl := List.mem_of_getElem? (i := 991) (by decide +kernel)
theorem tw_910 : (.selects RX10 yX10_row yX10_row : Cond) ∈ lw_tbl := List.mem_of_getElem? (i := 296) (by decide +kernel)
theorem tw_911 : (.instanceMethod yX10_row : Cond) ∈ lw_tbl := List.mem_of_getElem? (i := 295) (by decide +kernel)
theorem tw_912 : (.selects RX11 yX11_name yX11_name : Cond) ∈ lw_tbl := List.mem_of_getElem? (i := 988) (by decide +kernel)
theorem tw_913 : (.instanceMethod yX11_name : Cond) ∈ lw_tbl := List.mem_of_getElem? (i := 987) (by decide +kernel)
theorem tw_914 : (.selects RX10 yX10_name yX10_name : Cond) ∈ lw_tbl := List.mem_of_getElem? (i := 288) (by decide +kernel)
theorem tw_915 : (.instanceMethod yX10_name : Cond) ∈ lw_tbl := List.mem_of_getElem? (i := 287) (by decide +kernel)
theorem tw_916 : (.selects RX11 yX11_clear yX11_clear : Cond) ∈ lw_tbl := List.mem_of_getElem? (i := 980) (by decide +kernel)
theorem tw_917 : (.instanceMethod yX11_clear : Cond) ∈ lw_tbl := List.mem_of_getElem? (i := 979) (by decide +kernel)
theorem tw_918 : (.selects RX10 yX10_clear yX10_clear : Cond) ∈ lw_tbl := List.mem_of_getElem? (i := 267) (by decide +kernel)
theorem tw_919 : (.instanceMethod yX10_clear : Cond) ∈ lw_tbl := List.mem_of_getElem? (i := 266) (by decide +kernel)
theorem tw_920 : (.instanceMethod yX11_init : Cond) ∈ lw_tbl := List.mem_of_getElem? (i := 844) (by decide +kernel)
theorem tw_921 : (.instanceMethod yX10_init : Cond) ∈ lw_tbl := List.mem_of_getElem? (i := 85) (by decide +kernel)
theorem tw_922 : (.instantiable RX11 39 : Cond) ∈ lw_tbl := List.mem_of_getElem? (i := 842) (by decide +kernel)
theorem tw_923 : (.instantiable RX10 6 : Cond) ∈ lw_tbl := List.mem_of_getElem? (i := 83) (by decide +kernel)
theorem tw_924 : (.methodLink RL 101 yX11_test : Cond) ∈ lw_tbl := List.mem_of_getElem? (i := 1214) (by decide +kernel)
theorem tw_925 : (.methodLink RL 97 yX10_test : Cond) ∈ lw_tbl := List.mem_of_getElem? (i := 800) (by decide +kernel)
theorem tw_926 : (.methodLink RL 96 yX11_shareWord : Cond) ∈ lw_tbl := List.mem_of_getElem? (i := 1210) (by decide +kernel)
theorem tw_927 : (.methodLink RL 92 yX10_shareWord : Cond) ∈ lw_tbl := List.mem_of_getElem? (i := 795) (by decide +kernel)
theorem tw_928 : (.methodLink RL 91 yX11_shareSize : Cond) ∈ lw_tbl := List.mem_of_getElem? (i := 1183) (by decide +kernel)
theorem tw_929 : (.methodLink RL 87 yX10_shareSize : Cond) ∈ lw_tbl := List.mem_of_getElem? (i := 610) (by decide +kernel)
theorem tw_930 : (.methodLink RL 86 yX11_kin : Cond) ∈ lw_tbl := List.mem_of_getElem? (i := 1178) (by decide +kernel)
theorem tw_931 : (.methodLink RL 83 yX10_kin : Cond) ∈ lw_tbl := List.mem_of_getElem? (i := 567) (by decide +kernel)
theorem tw_932 : (.methodLink RL 82 yX11_alike : Cond) ∈ lw_tbl := List.mem_of_getElem? (i := 1165) (by decide +kernel)
theorem tw_933 : (.methodLink RL 79 yX10_alike : Cond) ∈ lw_tbl := List.mem_of_getElem? (i := 552) (by decide +kernel)
theorem tw_934 : (.methodLink RL 78 yX11_climb : Cond) ∈ lw_tbl := List.mem_of_getElem? (i := 1153) (by decide +kernel)
theorem tw_935 : (.methodLink RL 75 yX10_climb : Cond) ∈ lw_tbl := List.mem_of_getElem? (i := 526) (by decide +kernel)
theorem tw_936 : (.methodLink RL 74 yX11_best : Cond) ∈ lw_tbl := List.mem_of_getElem? (i := 1138) (by decide +kernel)
theorem tw_937 : (.methodLink RL 71 yX10_best : Cond) ∈ lw_tbl := List.mem_of_getElem? (i := 504) (by decide +kernel)
theorem tw_938 : (.methodLink RL 70 yX11_parents : Cond) ∈ lw_tbl := List.mem_of_getElem? (i := 1127) (by decide +kernel)
theorem tw_939 : (.methodLink RL 67 yX10_parents : Cond) ∈ lw_tbl := List.mem_of_getElem? (i := 487) (by decide +kernel)
theorem tw_940 : (.methodLink RL 66 yX11_compare : Cond) ∈ lw_tbl := List.mem_of_getElem? (i := 1115) (by decide +kernel)
theorem tw_941 : (.methodLink RL 63 yX10_compare : Cond) ∈ lw_tbl := List.mem_of_getElem? (i := 447) (by decide +kernel)
theorem tw_942 : (.methodLink RL 62 yX11_word : Cond) ∈ lw_tbl := List.mem_of_getElem? (i := 1106) (by decide +kernel)
theorem tw_943 : (.methodLink RL 58 yX10_word : Cond) ∈ lw_tbl := List.mem_of_getElem? (i := 435) (by decide +kernel)
theorem tw_944 : (.methodLink RL 57 yX11_size : Cond) ∈ lw_tbl := List.mem_of_getElem? (i := 1023) (by decide +kernel)
theorem tw_945 : (.methodLink RL 54 yX10_size : Cond) ∈ lw_tbl := List.mem_of_getElem? (i := 385) (by decide +kernel)
theorem tw_946 : (.methodLink RL 53 yX11_order : Cond) ∈ lw_tbl := List.mem_of_getElem? (i := 1018) (by decide +kernel)
theorem tw_947 : (.methodLink RL 50 yX10_order : Cond) ∈ lw_tbl := List.mem_of_getElem? (i := 379) (by decide +kernel)
theorem tw_948 : (.methodLink RL 49 yX11_isGraph : Cond) ∈ lw_tbl := List.mem_of_getElem? (i := 966) (by decide +kernel)
theorem tw_949 : (.methodLink RL 45 yX10_isGraph : Cond) ∈ lw_tbl := List.mem_of_getElem? (i := 354) (by decide +kernel)
theorem tw_950 : (.methodLink RL 44 yX11_about : Cond) ∈ lw_tbl := List.mem_of_getElem? (i := 1014) (by decide +kernel)
theorem tw_951 : (.methodLink RL 41 yX10_about : Cond) ∈ lw_tbl := List.mem_of_getElem? (i := 350) (by decide +kernel)
theorem tw_952 : (.methodLink RL 40 yX11_set : Cond) ∈ lw_tbl := List.mem_of_getElem? (i := 1010) (by decide +kernel)
theorem tw_953 : (.methodLink RL 37 yX10_set : Cond) ∈ lw_tbl := List.mem_of_getElem? (i := 346) (by decide +kernel)
theorem tw_954 : (.methodLink RL 36 yX11_value : Cond) ∈ lw_tbl := List.mem_of_getElem? (i := 1002) (by decide +kernel)
theorem tw_955 : (.methodLink RL 32 yX10_value : Cond) ∈ lw_tbl := List.mem_of_getElem? (i := 334) (by decide +kernel)
theorem tw_956 : (.methodLink RL 31 yX11_drop : Cond) ∈ lw_tbl := List.mem_of_getElem? (i := 998) (by decide +kernel)
theorem tw_957 : (.methodLink RL 28 yX10_drop : Cond) ∈ lw_tbl := List.mem_of_getElem? (i := 322) (by decide +kernel)
theorem tw_958 : (.methodLink RL 27 yX11_row : Cond) ∈ lw_tbl := List.mem_of_getElem? (i := 990) (by decide +kernel)
theorem tw_959 : (.methodLink RL 23 yX10_row : Cond) ∈ lw_tbl := List.mem_of_getElem? (i := 294) (by decide +kernel)
theorem tw_960 : (.methodLink RL 22 yX11_name : Cond) ∈ lw_tbl := List.mem_of_getElem? (i := 986) (by decide +kernel)
theorem tw_961 : (.methodLink RL 18 yX10_name : Cond) ∈ lw_tbl := List.mem_of_getElem? (i := 286) (by decide +kernel)
theorem tw_962 : (.methodLink RL 17 yX11_clear : Cond) ∈ lw_tbl := List.mem_of_getElem? (i := 978) (by decide +kernel)
theorem tw_963 : (.methodLink RL 13 yX10_clear : Cond) ∈ lw_tbl := List.mem_of_getElem? (i := 265) (by decide +kernel)
theorem tw_964 : (.methodLink RL 12 yX11_init : Cond) ∈ lw_tbl := List.mem_of_getElem? (i := 843) (by decide +kernel)
theorem tw_965 : (.methodLink RL 9 yX10_init : Cond) ∈ lw_tbl := List.mem_of_getElem? (i := 84) (by decide +kernel)
theorem tw_966 : (.classLink RL 10 RX11 : Cond) ∈ lw_tbl := List.mem_of_getElem? (i := 841) (by decide +kernel)
theorem tw_967 : (.classLink RL 7 RX10 : Cond) ∈ lw_tbl := List.mem_of_getElem? (i := 82) (by decide +kernel)
theorem tc_wsX100 : ∀ w ∈ wsX100, w ∈ lw_tbl := by decide +kernel
theorem tc_wsX80 : ∀ w ∈ wsX80, w ∈ lw_tbl := by decide +kernel
theorem tc_wsX10 : ∀ w ∈ wsX10, w ∈ lw_tbl := by decide +kernel
theorem tc_wsX30 : ∀ w ∈ wsX30, w ∈ lw_tbl := by decide +kernel
theorem tc_wsX50 : ∀ w ∈ wsX50, w ∈ lw_tbl := by decide +kernel
theorem tc_wsX20 : ∀ w ∈ wsX20, w ∈ lw_tbl := by decide +kernel
theorem tc_wsX60 : ∀ w ∈ wsX60, w ∈ lw_tbl := by decide +kernel
theorem tc_wsX70 : ∀ w ∈ wsX70, w ∈ lw_tbl := by decide +kernel
theorem tc_wsX90 : ∀ w ∈ wsX90, w ∈ lw_tbl := by decide +kernel
theorem tc_wsX40 : ∀ w ∈ wsX40, w ∈ lw_tbl := by decide +kernel
theorem tc_wsX110 : ∀ w ∈ wsX110, w ∈ lw_tbl := by decide +kernel
theorem t2_X10_isName : ∀ w ∈ w2t_X10_isName, w ∈ lw_tbl := List.forall_mem_cons.mpr ⟨tw_1, List.forall_mem_cons.mpr ⟨tw_0, fun _ h => absurd h List.not_mem_nil⟩⟩
theorem tl_X10_isName : ∀ w ∈ w2_X10_isName, w ∈ lw_tbl := List.forall_mem_cons.mpr ⟨tw_2, List.forall_mem_append.mpr ⟨t2_X10_isName, List.forall_mem_append.mpr ⟨tc_wsX100, tc_wsX80⟩⟩⟩
theorem t2_X8_valuesOf : ∀ w ∈ w2t_X8_valuesOf, w ∈ lw_tbl := List.forall_mem_cons.mpr ⟨tw_4, List.forall_mem_cons.mpr ⟨tw_3, fun _ h => absurd h List.not_mem_nil⟩⟩
theorem tl_X8_valuesOf : ∀ w ∈ w2_X8_valuesOf, w ∈ lw_tbl := List.forall_mem_cons.mpr ⟨tw_5, List.forall_mem_append.mpr ⟨t2_X8_valuesOf, tc_wsX80⟩⟩
theorem t2_X10_about : ∀ w ∈ w2t_X10_about, w ∈ lw_tbl := List.forall_mem_cons.mpr ⟨tw_1, List.forall_mem_cons.mpr ⟨tw_0, List.forall_mem_cons.mpr ⟨tw_16, List.forall_mem_cons.mpr ⟨tw_15, List.forall_mem_cons.mpr ⟨tw_14, List.forall_mem_cons.mpr ⟨tw_13, List.forall_mem_cons.mpr ⟨tw_12, List.forall_mem_cons.mpr ⟨tw_11, List.forall_mem_cons.mpr ⟨tw_10, List.forall_mem_cons.mpr ⟨tw_9, List.forall_mem_cons.mpr ⟨tw_8, List.forall_mem_cons.mpr ⟨tw_7, List.forall_mem_cons.mpr ⟨tw_6, fun _ h => absurd h List.not_mem_nil⟩⟩⟩⟩⟩⟩⟩⟩⟩⟩⟩⟩⟩
theorem tl_X10_about : ∀ w ∈ w2_X10_about, w ∈ lw_tbl := List.forall_mem_cons.mpr ⟨tw_17, List.forall_mem_append.mpr ⟨t2_X10_about, List.forall_mem_append.mpr ⟨tc_wsX100, List.forall_mem_append.mpr ⟨tc_wsX80, List.forall_mem_append.mpr ⟨tl_X10_isName, tl_X8_valuesOf⟩⟩⟩⟩⟩
theorem t2_X0_arc : ∀ w ∈ w2t_X0_arc, w ∈ lw_tbl := fun _ h => absurd h List.not_mem_nil
theorem tl_X0_arc : ∀ w ∈ w2_X0_arc, w ∈ lw_tbl := List.forall_mem_cons.mpr ⟨tw_18, t2_X0_arc⟩
theorem t2_X0_isIn : ∀ w ∈ w2t_X0_isIn, w ∈ lw_tbl := fun _ h => absurd h List.not_mem_nil
theorem tl_X0_isIn : ∀ w ∈ w2_X0_isIn, w ∈ lw_tbl := List.forall_mem_cons.mpr ⟨tw_19, t2_X0_isIn⟩
theorem t2_X0_fromAll : ∀ w ∈ w2t_X0_fromAll, w ∈ lw_tbl := List.forall_mem_cons.mpr ⟨tw_24, List.forall_mem_cons.mpr ⟨tw_23, List.forall_mem_cons.mpr ⟨tw_22, List.forall_mem_cons.mpr ⟨tw_21, List.forall_mem_cons.mpr ⟨tw_20, fun _ h => absurd h List.not_mem_nil⟩⟩⟩⟩⟩
theorem tl_X0_fromAll : ∀ w ∈ w2_X0_fromAll, w ∈ lw_tbl := List.forall_mem_cons.mpr ⟨tw_25, List.forall_mem_append.mpr ⟨t2_X0_fromAll, List.forall_mem_append.mpr ⟨tl_X0_arc, tl_X0_isIn⟩⟩⟩
theorem t2_X0_parentsIn : ∀ w ∈ w2t_X0_parentsIn, w ∈ lw_tbl := fun _ h => absurd h List.not_mem_nil
theorem tl_X0_parentsIn : ∀ w ∈ w2_X0_parentsIn, w ∈ lw_tbl := List.forall_mem_cons.mpr ⟨tw_26, t2_X0_parentsIn⟩
theorem t2_X0_nextAfter : ∀ w ∈ w2t_X0_nextAfter, w ∈ lw_tbl := List.forall_mem_cons.mpr ⟨tw_24, List.forall_mem_cons.mpr ⟨tw_28, List.forall_mem_cons.mpr ⟨tw_22, List.forall_mem_cons.mpr ⟨tw_21, List.forall_mem_cons.mpr ⟨tw_27, fun _ h => absurd h List.not_mem_nil⟩⟩⟩⟩⟩
theorem tl_X0_nextAfter : ∀ w ∈ w2_X0_nextAfter, w ∈ lw_tbl := List.forall_mem_cons.mpr ⟨tw_29, List.forall_mem_append.mpr ⟨t2_X0_nextAfter, List.forall_mem_append.mpr ⟨tl_X0_isIn, tl_X0_parentsIn⟩⟩⟩
theorem t2_X0_haveNoRound : ∀ w ∈ w2t_X0_haveNoRound, w ∈ lw_tbl := List.forall_mem_cons.mpr ⟨tw_31, List.forall_mem_cons.mpr ⟨tw_30, List.forall_mem_cons.mpr ⟨tw_21, fun _ h => absurd h List.not_mem_nil⟩⟩⟩
theorem tl_X0_haveNoRound : ∀ w ∈ w2_X0_haveNoRound, w ∈ lw_tbl := List.forall_mem_cons.mpr ⟨tw_32, List.forall_mem_append.mpr ⟨t2_X0_haveNoRound, tl_X0_nextAfter⟩⟩
theorem t2_X0_areGraph : ∀ w ∈ w2t_X0_areGraph, w ∈ lw_tbl := List.forall_mem_cons.mpr ⟨tw_36, List.forall_mem_cons.mpr ⟨tw_35, List.forall_mem_cons.mpr ⟨tw_34, List.forall_mem_cons.mpr ⟨tw_21, List.forall_mem_cons.mpr ⟨tw_33, fun _ h => absurd h List.not_mem_nil⟩⟩⟩⟩⟩
theorem tl_X0_areGraph : ∀ w ∈ w2_X0_areGraph, w ∈ lw_tbl := List.forall_mem_cons.mpr ⟨tw_37, List.forall_mem_append.mpr ⟨t2_X0_areGraph, List.forall_mem_append.mpr ⟨tl_X0_fromAll, tl_X0_haveNoRound⟩⟩⟩
theorem t2_X10_isGraph : ∀ w ∈ w2t_X10_isGraph, w ∈ lw_tbl := List.forall_mem_cons.mpr ⟨tw_1, List.forall_mem_cons.mpr ⟨tw_0, List.forall_mem_cons.mpr ⟨tw_39, List.forall_mem_cons.mpr ⟨tw_38, List.forall_mem_cons.mpr ⟨tw_21, fun _ h => absurd h List.not_mem_nil⟩⟩⟩⟩⟩
theorem tl_X10_isGraph : ∀ w ∈ w2_X10_isGraph, w ∈ lw_tbl := List.forall_mem_cons.mpr ⟨tw_40, List.forall_mem_append.mpr ⟨t2_X10_isGraph, List.forall_mem_append.mpr ⟨tc_wsX100, List.forall_mem_append.mpr ⟨tc_wsX80, tl_X0_areGraph⟩⟩⟩⟩
theorem t2_X0_has : ∀ w ∈ w2t_X0_has, w ∈ lw_tbl := List.forall_mem_cons.mpr ⟨tw_23, List.forall_mem_cons.mpr ⟨tw_20, List.forall_mem_cons.mpr ⟨tw_21, fun _ h => absurd h List.not_mem_nil⟩⟩⟩
theorem tl_X0_has : ∀ w ∈ w2_X0_has, w ∈ lw_tbl := List.forall_mem_cons.mpr ⟨tw_41, List.forall_mem_append.mpr ⟨t2_X0_has, tl_X0_arc⟩⟩
theorem t2_X4_ties : ∀ w ∈ w2t_X4_ties, w ∈ lw_tbl := List.forall_mem_cons.mpr ⟨tw_44, List.forall_mem_cons.mpr ⟨tw_43, List.forall_mem_cons.mpr ⟨tw_42, List.forall_mem_cons.mpr ⟨tw_21, List.forall_mem_cons.mpr ⟨tw_20, fun _ h => absurd h List.not_mem_nil⟩⟩⟩⟩⟩
theorem tl_X4_ties : ∀ w ∈ w2_X4_ties, w ∈ lw_tbl := List.forall_mem_cons.mpr ⟨tw_45, List.forall_mem_append.mpr ⟨t2_X4_ties, List.forall_mem_append.mpr ⟨tl_X0_arc, tl_X0_has⟩⟩⟩
theorem t2_X4_meetings : ∀ w ∈ w2t_X4_meetings, w ∈ lw_tbl := List.forall_mem_cons.mpr ⟨tw_50, List.forall_mem_cons.mpr ⟨tw_44, List.forall_mem_cons.mpr ⟨tw_49, List.forall_mem_cons.mpr ⟨tw_48, List.forall_mem_cons.mpr ⟨tw_47, List.forall_mem_cons.mpr ⟨tw_46, List.forall_mem_cons.mpr ⟨tw_42, List.forall_mem_cons.mpr ⟨tw_21, List.forall_mem_cons.mpr ⟨tw_27, List.forall_mem_cons.mpr ⟨tw_22, fun _ h => absurd h List.not_mem_nil⟩⟩⟩⟩⟩⟩⟩⟩⟩⟩
theorem tl_X4_meetings : ∀ w ∈ w2_X4_meetings, w ∈ lw_tbl := List.forall_mem_cons.mpr ⟨tw_51, List.forall_mem_append.mpr ⟨t2_X4_meetings, List.forall_mem_append.mpr ⟨tl_X0_has, List.forall_mem_append.mpr ⟨tl_X0_isIn, List.forall_mem_append.mpr ⟨tl_X0_parentsIn, tl_X4_ties⟩⟩⟩⟩⟩
theorem t2_X10_alike : ∀ w ∈ w2t_X10_alike, w ∈ lw_tbl := List.forall_mem_cons.mpr ⟨tw_57, List.forall_mem_cons.mpr ⟨tw_56, List.forall_mem_cons.mpr ⟨tw_55, List.forall_mem_cons.mpr ⟨tw_54, List.forall_mem_cons.mpr ⟨tw_53, List.forall_mem_cons.mpr ⟨tw_9, List.forall_mem_cons.mpr ⟨tw_47, List.forall_mem_cons.mpr ⟨tw_46, List.forall_mem_cons.mpr ⟨tw_52, fun _ h => absurd h List.not_mem_nil⟩⟩⟩⟩⟩⟩⟩⟩⟩
theorem tl_X10_alike : ∀ w ∈ w2_X10_alike, w ∈ lw_tbl := List.forall_mem_cons.mpr ⟨tw_58, List.forall_mem_append.mpr ⟨t2_X10_alike, List.forall_mem_append.mpr ⟨tl_X10_isGraph, List.forall_mem_append.mpr ⟨tl_X4_meetings, tl_X4_ties⟩⟩⟩⟩
theorem t2_J6_bitCount_0f7a4 : ∀ w ∈ w2t_J6_bitCount_0f7a4, w ∈ lw_tbl := List.forall_mem_cons.mpr ⟨tw_61, List.forall_mem_cons.mpr ⟨tw_60, List.forall_mem_cons.mpr ⟨tw_59, fun _ h => absurd h List.not_mem_nil⟩⟩⟩
theorem tl_J6_bitCount_0f7a4 : ∀ w ∈ w2_J6_bitCount_0f7a4, w ∈ lw_tbl := List.forall_mem_cons.mpr ⟨tw_62, t2_J6_bitCount_0f7a4⟩
theorem t2_X1_at : ∀ w ∈ w2t_X1_at, w ∈ lw_tbl := List.forall_mem_cons.mpr ⟨tw_64, List.forall_mem_cons.mpr ⟨tw_63, fun _ h => absurd h List.not_mem_nil⟩⟩
theorem tl_X1_at : ∀ w ∈ w2_X1_at, w ∈ lw_tbl := List.forall_mem_cons.mpr ⟨tw_65, List.forall_mem_append.mpr ⟨t2_X1_at, tc_wsX10⟩⟩
theorem t2_X1_against : ∀ w ∈ w2t_X1_against, w ∈ lw_tbl := List.forall_mem_cons.mpr ⟨tw_64, List.forall_mem_cons.mpr ⟨tw_69, List.forall_mem_cons.mpr ⟨tw_68, List.forall_mem_cons.mpr ⟨tw_67, List.forall_mem_cons.mpr ⟨tw_66, fun _ h => absurd h List.not_mem_nil⟩⟩⟩⟩⟩
theorem tl_X1_against : ∀ w ∈ w2_X1_against, w ∈ lw_tbl := List.forall_mem_cons.mpr ⟨tw_70, List.forall_mem_append.mpr ⟨t2_X1_against, List.forall_mem_append.mpr ⟨tc_wsX10, tl_X1_at⟩⟩⟩
theorem t2_X1_become : ∀ w ∈ w2t_X1_become, w ∈ lw_tbl := List.forall_mem_cons.mpr ⟨tw_64, List.forall_mem_cons.mpr ⟨tw_63, fun _ h => absurd h List.not_mem_nil⟩⟩
theorem tl_X1_become : ∀ w ∈ w2_X1_become, w ∈ lw_tbl := List.forall_mem_cons.mpr ⟨tw_71, List.forall_mem_append.mpr ⟨t2_X1_become, tc_wsX10⟩⟩
theorem t2_X1_addMultiple : ∀ w ∈ w2t_X1_addMultiple, w ∈ lw_tbl := List.forall_mem_cons.mpr ⟨tw_64, List.forall_mem_cons.mpr ⟨tw_63, List.forall_mem_cons.mpr ⟨tw_76, List.forall_mem_cons.mpr ⟨tw_75, List.forall_mem_cons.mpr ⟨tw_74, List.forall_mem_cons.mpr ⟨tw_73, List.forall_mem_cons.mpr ⟨tw_72, fun _ h => absurd h List.not_mem_nil⟩⟩⟩⟩⟩⟩⟩
theorem tl_X1_addMultiple : ∀ w ∈ w2_X1_addMultiple, w ∈ lw_tbl := List.forall_mem_cons.mpr ⟨tw_77, List.forall_mem_append.mpr ⟨t2_X1_addMultiple, tc_wsX10⟩⟩
theorem t2_X1_trim : ∀ w ∈ w2t_X1_trim, w ∈ lw_tbl := List.forall_mem_cons.mpr ⟨tw_64, List.forall_mem_cons.mpr ⟨tw_63, List.forall_mem_cons.mpr ⟨tw_76, List.forall_mem_cons.mpr ⟨tw_74, List.forall_mem_cons.mpr ⟨tw_73, List.forall_mem_cons.mpr ⟨tw_72, fun _ h => absurd h List.not_mem_nil⟩⟩⟩⟩⟩⟩
theorem tl_X1_trim : ∀ w ∈ w2_X1_trim, w ∈ lw_tbl := List.forall_mem_cons.mpr ⟨tw_78, List.forall_mem_append.mpr ⟨t2_X1_trim, tc_wsX10⟩⟩
theorem t2_X1_widen : ∀ w ∈ w2t_X1_widen, w ∈ lw_tbl := List.forall_mem_cons.mpr ⟨tw_63, List.forall_mem_cons.mpr ⟨tw_76, List.forall_mem_cons.mpr ⟨tw_64, List.forall_mem_cons.mpr ⟨tw_81, List.forall_mem_cons.mpr ⟨tw_74, List.forall_mem_cons.mpr ⟨tw_73, List.forall_mem_cons.mpr ⟨tw_72, List.forall_mem_cons.mpr ⟨tw_80, List.forall_mem_cons.mpr ⟨tw_79, fun _ h => absurd h List.not_mem_nil⟩⟩⟩⟩⟩⟩⟩⟩⟩
theorem tl_X1_widen : ∀ w ∈ w2_X1_widen, w ∈ lw_tbl := List.forall_mem_cons.mpr ⟨tw_82, List.forall_mem_append.mpr ⟨t2_X1_widen, tc_wsX10⟩⟩
theorem t2_X1_times : ∀ w ∈ w2t_X1_times, w ∈ lw_tbl := List.forall_mem_cons.mpr ⟨tw_64, List.forall_mem_cons.mpr ⟨tw_63, List.forall_mem_cons.mpr ⟨tw_76, List.forall_mem_cons.mpr ⟨tw_91, List.forall_mem_cons.mpr ⟨tw_90, List.forall_mem_cons.mpr ⟨tw_89, List.forall_mem_cons.mpr ⟨tw_74, List.forall_mem_cons.mpr ⟨tw_73, List.forall_mem_cons.mpr ⟨tw_72, List.forall_mem_cons.mpr ⟨tw_88, List.forall_mem_cons.mpr ⟨tw_87, List.forall_mem_cons.mpr ⟨tw_66, List.forall_mem_cons.mpr ⟨tw_86, List.forall_mem_cons.mpr ⟨tw_85, List.forall_mem_cons.mpr ⟨tw_84, List.forall_mem_cons.mpr ⟨tw_83, fun _ h => absurd h List.not_mem_nil⟩⟩⟩⟩⟩⟩⟩⟩⟩⟩⟩⟩⟩⟩⟩⟩
theorem tl_X1_times : ∀ w ∈ w2_X1_times, w ∈ lw_tbl := List.forall_mem_cons.mpr ⟨tw_92, List.forall_mem_append.mpr ⟨t2_X1_times, List.forall_mem_append.mpr ⟨tc_wsX10, List.forall_mem_append.mpr ⟨tl_X1_addMultiple, List.forall_mem_append.mpr ⟨tl_X1_trim, tl_X1_widen⟩⟩⟩⟩⟩
theorem t2_X1_init : ∀ w ∈ w2t_X1_init, w ∈ lw_tbl := List.forall_mem_cons.mpr ⟨tw_96, List.forall_mem_cons.mpr ⟨tw_63, List.forall_mem_cons.mpr ⟨tw_64, List.forall_mem_cons.mpr ⟨tw_95, List.forall_mem_cons.mpr ⟨tw_94, List.forall_mem_cons.mpr ⟨tw_93, fun _ h => absurd h List.not_mem_nil⟩⟩⟩⟩⟩⟩
theorem tl_X1_init : ∀ w ∈ w2_X1_init, w ∈ lw_tbl := List.forall_mem_cons.mpr ⟨tw_97, List.forall_mem_append.mpr ⟨t2_X1_init, tc_wsX10⟩⟩
theorem t2_X3_init : ∀ w ∈ w2t_X3_init, w ∈ lw_tbl := List.forall_mem_cons.mpr ⟨tw_101, List.forall_mem_cons.mpr ⟨tw_100, List.forall_mem_cons.mpr ⟨tw_99, List.forall_mem_cons.mpr ⟨tw_98, List.forall_mem_cons.mpr ⟨tw_95, List.forall_mem_cons.mpr ⟨tw_94, fun _ h => absurd h List.not_mem_nil⟩⟩⟩⟩⟩⟩
theorem tl_X3_init : ∀ w ∈ w2_X3_init, w ∈ lw_tbl := List.forall_mem_cons.mpr ⟨tw_102, List.forall_mem_append.mpr ⟨t2_X3_init, tc_wsX30⟩⟩
theorem t2_X5_forget : ∀ w ∈ w2t_X5_forget, w ∈ lw_tbl := List.forall_mem_cons.mpr ⟨tw_104, List.forall_mem_cons.mpr ⟨tw_103, fun _ h => absurd h List.not_mem_nil⟩⟩
theorem tl_X5_forget : ∀ w ∈ w2_X5_forget, w ∈ lw_tbl := List.forall_mem_cons.mpr ⟨tw_105, List.forall_mem_append.mpr ⟨t2_X5_forget, tc_wsX50⟩⟩
theorem t2_X1_timesSmall : ∀ w ∈ w2t_X1_timesSmall, w ∈ lw_tbl := List.forall_mem_cons.mpr ⟨tw_64, List.forall_mem_cons.mpr ⟨tw_63, List.forall_mem_cons.mpr ⟨tw_75, fun _ h => absurd h List.not_mem_nil⟩⟩⟩
theorem tl_X1_timesSmall : ∀ w ∈ w2_X1_timesSmall, w ∈ lw_tbl := List.forall_mem_cons.mpr ⟨tw_106, List.forall_mem_append.mpr ⟨t2_X1_timesSmall, tc_wsX10⟩⟩
theorem t2_X5_write : ∀ w ∈ w2t_X5_write, w ∈ lw_tbl := List.forall_mem_cons.mpr ⟨tw_104, List.forall_mem_cons.mpr ⟨tw_103, List.forall_mem_cons.mpr ⟨tw_113, List.forall_mem_cons.mpr ⟨tw_112, List.forall_mem_cons.mpr ⟨tw_111, List.forall_mem_cons.mpr ⟨tw_110, List.forall_mem_cons.mpr ⟨tw_109, List.forall_mem_cons.mpr ⟨tw_66, List.forall_mem_cons.mpr ⟨tw_108, List.forall_mem_cons.mpr ⟨tw_107, fun _ h => absurd h List.not_mem_nil⟩⟩⟩⟩⟩⟩⟩⟩⟩⟩
theorem tl_X5_write : ∀ w ∈ w2_X5_write, w ∈ lw_tbl := List.forall_mem_cons.mpr ⟨tw_114, List.forall_mem_append.mpr ⟨t2_X5_write, List.forall_mem_append.mpr ⟨tc_wsX50, List.forall_mem_append.mpr ⟨tl_X1_become, tl_X1_timesSmall⟩⟩⟩⟩
theorem t2_X5_multiply : ∀ w ∈ w2t_X5_multiply, w ∈ lw_tbl := List.forall_mem_cons.mpr ⟨tw_103, List.forall_mem_cons.mpr ⟨tw_115, List.forall_mem_cons.mpr ⟨tw_104, fun _ h => absurd h List.not_mem_nil⟩⟩⟩
theorem tl_X5_multiply : ∀ w ∈ w2_X5_multiply, w ∈ lw_tbl := List.forall_mem_cons.mpr ⟨tw_116, List.forall_mem_append.mpr ⟨t2_X5_multiply, tc_wsX50⟩⟩
theorem t2_X8_codeOf : ∀ w ∈ w2t_X8_codeOf, w ∈ lw_tbl := List.forall_mem_cons.mpr ⟨tw_118, List.forall_mem_cons.mpr ⟨tw_117, fun _ h => absurd h List.not_mem_nil⟩⟩
theorem tl_X8_codeOf : ∀ w ∈ w2_X8_codeOf, w ∈ lw_tbl := List.forall_mem_cons.mpr ⟨tw_119, List.forall_mem_append.mpr ⟨t2_X8_codeOf, tc_wsX80⟩⟩
theorem t2_X8_pourFit : ∀ w ∈ w2t_X8_pourFit, w ∈ lw_tbl := List.forall_mem_cons.mpr ⟨tw_4, List.forall_mem_cons.mpr ⟨tw_118, List.forall_mem_cons.mpr ⟨tw_129, List.forall_mem_cons.mpr ⟨tw_128, List.forall_mem_cons.mpr ⟨tw_127, List.forall_mem_cons.mpr ⟨tw_126, List.forall_mem_cons.mpr ⟨tw_125, List.forall_mem_cons.mpr ⟨tw_8, List.forall_mem_cons.mpr ⟨tw_7, List.forall_mem_cons.mpr ⟨tw_6, List.forall_mem_cons.mpr ⟨tw_22, List.forall_mem_cons.mpr ⟨tw_21, List.forall_mem_cons.mpr ⟨tw_124, List.forall_mem_cons.mpr ⟨tw_123, List.forall_mem_cons.mpr ⟨tw_122, List.forall_mem_cons.mpr ⟨tw_121, List.forall_mem_cons.mpr ⟨tw_120, fun _ h => absurd h List.not_mem_nil⟩⟩⟩⟩⟩⟩⟩⟩⟩⟩⟩⟩⟩⟩⟩⟩⟩
theorem tl_X8_pourFit : ∀ w ∈ w2_X8_pourFit, w ∈ lw_tbl := List.forall_mem_cons.mpr ⟨tw_130, List.forall_mem_append.mpr ⟨t2_X8_pourFit, List.forall_mem_append.mpr ⟨tc_wsX80, List.forall_mem_append.mpr ⟨tl_X0_isIn, List.forall_mem_append.mpr ⟨tl_X5_multiply, List.forall_mem_append.mpr ⟨tl_X8_codeOf, tl_X8_valuesOf⟩⟩⟩⟩⟩⟩
theorem t2_X2_ofName : ∀ w ∈ w2t_X2_ofName, w ∈ lw_tbl := List.forall_mem_cons.mpr ⟨tw_155, List.forall_mem_cons.mpr ⟨tw_154, List.forall_mem_cons.mpr ⟨tw_153, List.forall_mem_cons.mpr ⟨tw_152, List.forall_mem_cons.mpr ⟨tw_151, List.forall_mem_cons.mpr ⟨tw_150, List.forall_mem_cons.mpr ⟨tw_149, List.forall_mem_cons.mpr ⟨tw_148, List.forall_mem_cons.mpr ⟨tw_147, List.forall_mem_cons.mpr ⟨tw_146, List.forall_mem_cons.mpr ⟨tw_145, List.forall_mem_cons.mpr ⟨tw_144, List.forall_mem_cons.mpr ⟨tw_143, List.forall_mem_cons.mpr ⟨tw_142, List.forall_mem_cons.mpr ⟨tw_141, List.forall_mem_cons.mpr ⟨tw_140, List.forall_mem_cons.mpr ⟨tw_139, List.forall_mem_cons.mpr ⟨tw_66, List.forall_mem_cons.mpr ⟨tw_138, List.forall_mem_cons.mpr ⟨tw_137, List.forall_mem_cons.mpr ⟨tw_136, List.forall_mem_cons.mpr ⟨tw_135, List.forall_mem_cons.mpr ⟨tw_120, List.forall_mem_cons.mpr ⟨tw_134, List.forall_mem_cons.mpr ⟨tw_133, List.forall_mem_cons.mpr ⟨tw_6, List.forall_mem_cons.mpr ⟨tw_132, List.forall_mem_cons.mpr ⟨tw_131, fun _ h => absurd h List.not_mem_nil⟩⟩⟩⟩⟩⟩⟩⟩⟩⟩⟩⟩⟩⟩⟩⟩⟩⟩⟩⟩⟩⟩⟩⟩⟩⟩⟩⟩
theorem tl_X2_ofName : ∀ w ∈ w2_X2_ofName, w ∈ lw_tbl := List.forall_mem_cons.mpr ⟨tw_156, List.forall_mem_append.mpr ⟨t2_X2_ofName, List.forall_mem_append.mpr ⟨tc_wsX10, List.forall_mem_append.mpr ⟨tc_wsX20, List.forall_mem_append.mpr ⟨tc_wsX30, List.forall_mem_append.mpr ⟨tl_X1_init, List.forall_mem_append.mpr ⟨tl_X3_init, List.forall_mem_append.mpr ⟨tl_X5_forget, List.forall_mem_append.mpr ⟨tl_X5_write, tl_X8_pourFit⟩⟩⟩⟩⟩⟩⟩⟩⟩
theorem t2_X2_weigh : ∀ w ∈ w2t_X2_weigh, w ∈ lw_tbl := List.forall_mem_cons.mpr ⟨tw_171, List.forall_mem_cons.mpr ⟨tw_170, List.forall_mem_cons.mpr ⟨tw_149, List.forall_mem_cons.mpr ⟨tw_169, List.forall_mem_cons.mpr ⟨tw_148, List.forall_mem_cons.mpr ⟨tw_147, List.forall_mem_cons.mpr ⟨tw_168, List.forall_mem_cons.mpr ⟨tw_167, List.forall_mem_cons.mpr ⟨tw_166, List.forall_mem_cons.mpr ⟨tw_165, List.forall_mem_cons.mpr ⟨tw_164, List.forall_mem_cons.mpr ⟨tw_110, List.forall_mem_cons.mpr ⟨tw_109, List.forall_mem_cons.mpr ⟨tw_66, List.forall_mem_cons.mpr ⟨tw_27, List.forall_mem_cons.mpr ⟨tw_21, List.forall_mem_cons.mpr ⟨tw_163, List.forall_mem_cons.mpr ⟨tw_162, List.forall_mem_cons.mpr ⟨tw_161, List.forall_mem_cons.mpr ⟨tw_160, List.forall_mem_cons.mpr ⟨tw_159, List.forall_mem_cons.mpr ⟨tw_158, List.forall_mem_cons.mpr ⟨tw_157, fun _ h => absurd h List.not_mem_nil⟩⟩⟩⟩⟩⟩⟩⟩⟩⟩⟩⟩⟩⟩⟩⟩⟩⟩⟩⟩⟩⟩⟩
theorem tl_X2_weigh : ∀ w ∈ w2_X2_weigh, w ∈ lw_tbl := List.forall_mem_cons.mpr ⟨tw_172, List.forall_mem_append.mpr ⟨t2_X2_weigh, List.forall_mem_append.mpr ⟨tc_wsX20, List.forall_mem_append.mpr ⟨tc_wsX30, List.forall_mem_append.mpr ⟨tc_wsX80, List.forall_mem_append.mpr ⟨tl_X0_parentsIn, List.forall_mem_append.mpr ⟨tl_X1_against, List.forall_mem_append.mpr ⟨tl_X1_become, List.forall_mem_append.mpr ⟨tl_X1_times, tl_X2_ofName⟩⟩⟩⟩⟩⟩⟩⟩⟩
theorem t2_X6_bestParents : ∀ w ∈ w2t_X6_bestParents, w ∈ lw_tbl := List.forall_mem_cons.mpr ⟨tw_182, List.forall_mem_cons.mpr ⟨tw_181, List.forall_mem_cons.mpr ⟨tw_180, List.forall_mem_cons.mpr ⟨tw_179, List.forall_mem_cons.mpr ⟨tw_178, List.forall_mem_cons.mpr ⟨tw_177, List.forall_mem_cons.mpr ⟨tw_176, List.forall_mem_cons.mpr ⟨tw_175, List.forall_mem_cons.mpr ⟨tw_34, List.forall_mem_cons.mpr ⟨tw_21, List.forall_mem_cons.mpr ⟨tw_174, List.forall_mem_cons.mpr ⟨tw_173, List.forall_mem_cons.mpr ⟨tw_161, fun _ h => absurd h List.not_mem_nil⟩⟩⟩⟩⟩⟩⟩⟩⟩⟩⟩⟩⟩
theorem tl_X6_bestParents : ∀ w ∈ w2_X6_bestParents, w ∈ lw_tbl := List.forall_mem_cons.mpr ⟨tw_183, List.forall_mem_append.mpr ⟨t2_X6_bestParents, List.forall_mem_append.mpr ⟨tc_wsX60, List.forall_mem_append.mpr ⟨tc_wsX80, List.forall_mem_append.mpr ⟨tl_J6_bitCount_0f7a4, List.forall_mem_append.mpr ⟨tl_X0_fromAll, tl_X2_weigh⟩⟩⟩⟩⟩⟩
theorem t2_X6_better : ∀ w ∈ w2t_X6_better, w ∈ lw_tbl := List.forall_mem_cons.mpr ⟨tw_180, List.forall_mem_cons.mpr ⟨tw_177, List.forall_mem_cons.mpr ⟨tw_174, List.forall_mem_cons.mpr ⟨tw_173, List.forall_mem_cons.mpr ⟨tw_161, fun _ h => absurd h List.not_mem_nil⟩⟩⟩⟩⟩
theorem tl_X6_better : ∀ w ∈ w2_X6_better, w ∈ lw_tbl := List.forall_mem_cons.mpr ⟨tw_184, List.forall_mem_append.mpr ⟨t2_X6_better, List.forall_mem_append.mpr ⟨tc_wsX60, tl_X2_weigh⟩⟩⟩
theorem t2_X6_keep : ∀ w ∈ w2t_X6_keep, w ∈ lw_tbl := List.forall_mem_cons.mpr ⟨tw_185, fun _ h => absurd h List.not_mem_nil⟩
theorem tl_X6_keep : ∀ w ∈ w2_X6_keep, w ∈ lw_tbl := List.forall_mem_cons.mpr ⟨tw_186, List.forall_mem_append.mpr ⟨t2_X6_keep, tc_wsX60⟩⟩
theorem t2_X6_kept : ∀ w ∈ w2t_X6_kept, w ∈ lw_tbl := List.forall_mem_cons.mpr ⟨tw_185, fun _ h => absurd h List.not_mem_nil⟩
theorem tl_X6_kept : ∀ w ∈ w2_X6_kept, w ∈ lw_tbl := List.forall_mem_cons.mpr ⟨tw_187, List.forall_mem_append.mpr ⟨t2_X6_kept, tc_wsX60⟩⟩
theorem t2_X6_bestGraph : ∀ w ∈ w2t_X6_bestGraph, w ∈ lw_tbl := List.forall_mem_cons.mpr ⟨tw_182, List.forall_mem_cons.mpr ⟨tw_202, List.forall_mem_cons.mpr ⟨tw_201, List.forall_mem_cons.mpr ⟨tw_200, List.forall_mem_cons.mpr ⟨tw_199, List.forall_mem_cons.mpr ⟨tw_178, List.forall_mem_cons.mpr ⟨tw_198, List.forall_mem_cons.mpr ⟨tw_197, List.forall_mem_cons.mpr ⟨tw_22, List.forall_mem_cons.mpr ⟨tw_21, List.forall_mem_cons.mpr ⟨tw_196, List.forall_mem_cons.mpr ⟨tw_195, List.forall_mem_cons.mpr ⟨tw_194, List.forall_mem_cons.mpr ⟨tw_193, List.forall_mem_cons.mpr ⟨tw_192, List.forall_mem_cons.mpr ⟨tw_34, List.forall_mem_cons.mpr ⟨tw_191, List.forall_mem_cons.mpr ⟨tw_190, List.forall_mem_cons.mpr ⟨tw_189, List.forall_mem_cons.mpr ⟨tw_188, fun _ h => absurd h List.not_mem_nil⟩⟩⟩⟩⟩⟩⟩⟩⟩⟩⟩⟩⟩⟩⟩⟩⟩⟩⟩⟩
theorem tl_X6_bestGraph : ∀ w ∈ w2_X6_bestGraph, w ∈ lw_tbl := List.forall_mem_cons.mpr ⟨tw_203, List.forall_mem_append.mpr ⟨t2_X6_bestGraph, List.forall_mem_append.mpr ⟨tc_wsX60, List.forall_mem_append.mpr ⟨tc_wsX80, List.forall_mem_append.mpr ⟨tl_X0_fromAll, List.forall_mem_append.mpr ⟨tl_X0_isIn, List.forall_mem_append.mpr ⟨tl_X6_bestParents, List.forall_mem_append.mpr ⟨tl_X6_better, List.forall_mem_append.mpr ⟨tl_X6_keep, tl_X6_kept⟩⟩⟩⟩⟩⟩⟩⟩⟩
theorem t2_X10_best : ∀ w ∈ w2t_X10_best, w ∈ lw_tbl := List.forall_mem_cons.mpr ⟨tw_207, List.forall_mem_cons.mpr ⟨tw_206, List.forall_mem_cons.mpr ⟨tw_205, List.forall_mem_cons.mpr ⟨tw_204, List.forall_mem_cons.mpr ⟨tw_194, fun _ h => absurd h List.not_mem_nil⟩⟩⟩⟩⟩
theorem tl_X10_best : ∀ w ∈ w2_X10_best, w ∈ lw_tbl := List.forall_mem_cons.mpr ⟨tw_208, List.forall_mem_append.mpr ⟨t2_X10_best, List.forall_mem_append.mpr ⟨tc_wsX100, tl_X6_bestGraph⟩⟩⟩
theorem t2_X7_forget : ∀ w ∈ w2t_X7_forget, w ∈ lw_tbl := List.forall_mem_cons.mpr ⟨tw_210, List.forall_mem_cons.mpr ⟨tw_209, fun _ h => absurd h List.not_mem_nil⟩⟩
theorem tl_X7_forget : ∀ w ∈ w2_X7_forget, w ∈ lw_tbl := List.forall_mem_cons.mpr ⟨tw_211, List.forall_mem_append.mpr ⟨t2_X7_forget, List.forall_mem_append.mpr ⟨tc_wsX30, tc_wsX70⟩⟩⟩
theorem t2_X10_forgetShares : ∀ w ∈ w2t_X10_forgetShares, w ∈ lw_tbl := List.forall_mem_cons.mpr ⟨tw_216, List.forall_mem_cons.mpr ⟨tw_215, List.forall_mem_cons.mpr ⟨tw_214, List.forall_mem_cons.mpr ⟨tw_213, List.forall_mem_cons.mpr ⟨tw_212, fun _ h => absurd h List.not_mem_nil⟩⟩⟩⟩⟩
theorem tl_X10_forgetShares : ∀ w ∈ w2_X10_forgetShares, w ∈ lw_tbl := List.forall_mem_cons.mpr ⟨tw_217, List.forall_mem_append.mpr ⟨t2_X10_forgetShares, List.forall_mem_append.mpr ⟨tc_wsX100, tl_X7_forget⟩⟩⟩
theorem t2_X2_forget : ∀ w ∈ w2t_X2_forget, w ∈ lw_tbl := List.forall_mem_cons.mpr ⟨tw_218, List.forall_mem_cons.mpr ⟨tw_151, List.forall_mem_cons.mpr ⟨tw_155, fun _ h => absurd h List.not_mem_nil⟩⟩⟩
theorem tl_X2_forget : ∀ w ∈ w2_X2_forget, w ∈ lw_tbl := List.forall_mem_cons.mpr ⟨tw_219, List.forall_mem_append.mpr ⟨t2_X2_forget, List.forall_mem_append.mpr ⟨tc_wsX20, tc_wsX30⟩⟩⟩
theorem t2_X10_forgetFits : ∀ w ∈ w2t_X10_forgetFits, w ∈ lw_tbl := List.forall_mem_cons.mpr ⟨tw_226, List.forall_mem_cons.mpr ⟨tw_225, List.forall_mem_cons.mpr ⟨tw_224, List.forall_mem_cons.mpr ⟨tw_223, List.forall_mem_cons.mpr ⟨tw_222, List.forall_mem_cons.mpr ⟨tw_161, List.forall_mem_cons.mpr ⟨tw_221, List.forall_mem_cons.mpr ⟨tw_220, List.forall_mem_cons.mpr ⟨tw_9, fun _ h => absurd h List.not_mem_nil⟩⟩⟩⟩⟩⟩⟩⟩⟩
theorem tl_X10_forgetFits : ∀ w ∈ w2_X10_forgetFits, w ∈ lw_tbl := List.forall_mem_cons.mpr ⟨tw_227, List.forall_mem_append.mpr ⟨t2_X10_forgetFits, List.forall_mem_append.mpr ⟨tc_wsX100, List.forall_mem_append.mpr ⟨tl_X10_forgetShares, tl_X2_forget⟩⟩⟩⟩
theorem t2_X8_startAnew : ∀ w ∈ w2t_X8_startAnew, w ∈ lw_tbl := List.forall_mem_cons.mpr ⟨tw_4, List.forall_mem_cons.mpr ⟨tw_118, List.forall_mem_cons.mpr ⟨tw_129, List.forall_mem_cons.mpr ⟨tw_228, fun _ h => absurd h List.not_mem_nil⟩⟩⟩⟩
theorem tl_X8_startAnew : ∀ w ∈ w2_X8_startAnew, w ∈ lw_tbl := List.forall_mem_cons.mpr ⟨tw_229, List.forall_mem_append.mpr ⟨t2_X8_startAnew, tc_wsX80⟩⟩
theorem t2_X10_clear : ∀ w ∈ w2t_X10_clear, w ∈ lw_tbl := List.forall_mem_cons.mpr ⟨tw_1, List.forall_mem_cons.mpr ⟨tw_16, List.forall_mem_cons.mpr ⟨tw_235, List.forall_mem_cons.mpr ⟨tw_234, List.forall_mem_cons.mpr ⟨tw_233, List.forall_mem_cons.mpr ⟨tw_232, List.forall_mem_cons.mpr ⟨tw_6, List.forall_mem_cons.mpr ⟨tw_231, List.forall_mem_cons.mpr ⟨tw_230, List.forall_mem_cons.mpr ⟨tw_9, fun _ h => absurd h List.not_mem_nil⟩⟩⟩⟩⟩⟩⟩⟩⟩⟩
theorem tl_X10_clear : ∀ w ∈ w2_X10_clear, w ∈ lw_tbl := List.forall_mem_cons.mpr ⟨tw_236, List.forall_mem_append.mpr ⟨t2_X10_clear, List.forall_mem_append.mpr ⟨tc_wsX100, List.forall_mem_append.mpr ⟨tc_wsX80, List.forall_mem_append.mpr ⟨tl_X10_forgetFits, tl_X8_startAnew⟩⟩⟩⟩⟩
theorem t2_X0_areBounded : ∀ w ∈ w2t_X0_areBounded, w ∈ lw_tbl := List.forall_mem_cons.mpr ⟨tw_28, List.forall_mem_cons.mpr ⟨tw_237, List.forall_mem_cons.mpr ⟨tw_27, List.forall_mem_cons.mpr ⟨tw_21, List.forall_mem_cons.mpr ⟨tw_176, List.forall_mem_cons.mpr ⟨tw_175, fun _ h => absurd h List.not_mem_nil⟩⟩⟩⟩⟩⟩
theorem tl_X0_areBounded : ∀ w ∈ w2_X0_areBounded, w ∈ lw_tbl := List.forall_mem_cons.mpr ⟨tw_238, List.forall_mem_append.mpr ⟨t2_X0_areBounded, List.forall_mem_append.mpr ⟨tl_J6_bitCount_0f7a4, tl_X0_parentsIn⟩⟩⟩
theorem t2_X6_isOpen : ∀ w ∈ w2t_X6_isOpen, w ∈ lw_tbl := List.forall_mem_cons.mpr ⟨tw_182, List.forall_mem_cons.mpr ⟨tw_181, List.forall_mem_cons.mpr ⟨tw_202, List.forall_mem_cons.mpr ⟨tw_241, List.forall_mem_cons.mpr ⟨tw_240, List.forall_mem_cons.mpr ⟨tw_239, List.forall_mem_cons.mpr ⟨tw_21, List.forall_mem_cons.mpr ⟨tw_33, fun _ h => absurd h List.not_mem_nil⟩⟩⟩⟩⟩⟩⟩⟩
theorem tl_X6_isOpen : ∀ w ∈ w2_X6_isOpen, w ∈ lw_tbl := List.forall_mem_cons.mpr ⟨tw_242, List.forall_mem_append.mpr ⟨t2_X6_isOpen, List.forall_mem_append.mpr ⟨tc_wsX60, List.forall_mem_append.mpr ⟨tc_wsX80, List.forall_mem_append.mpr ⟨tl_X0_areBounded, tl_X0_haveNoRound⟩⟩⟩⟩⟩
theorem t2_X6_bestNear : ∀ w ∈ w2t_X6_bestNear, w ∈ lw_tbl := List.forall_mem_cons.mpr ⟨tw_182, List.forall_mem_cons.mpr ⟨tw_202, List.forall_mem_cons.mpr ⟨tw_247, List.forall_mem_cons.mpr ⟨tw_246, List.forall_mem_cons.mpr ⟨tw_245, List.forall_mem_cons.mpr ⟨tw_198, List.forall_mem_cons.mpr ⟨tw_20, List.forall_mem_cons.mpr ⟨tw_21, List.forall_mem_cons.mpr ⟨tw_42, List.forall_mem_cons.mpr ⟨tw_244, List.forall_mem_cons.mpr ⟨tw_243, List.forall_mem_cons.mpr ⟨tw_194, List.forall_mem_cons.mpr ⟨tw_191, List.forall_mem_cons.mpr ⟨tw_190, fun _ h => absurd h List.not_mem_nil⟩⟩⟩⟩⟩⟩⟩⟩⟩⟩⟩⟩⟩⟩
theorem tl_X6_bestNear : ∀ w ∈ w2_X6_bestNear, w ∈ lw_tbl := List.forall_mem_cons.mpr ⟨tw_248, List.forall_mem_append.mpr ⟨t2_X6_bestNear, List.forall_mem_append.mpr ⟨tc_wsX60, List.forall_mem_append.mpr ⟨tc_wsX80, List.forall_mem_append.mpr ⟨tl_X0_arc, List.forall_mem_append.mpr ⟨tl_X0_has, List.forall_mem_append.mpr ⟨tl_X6_better, tl_X6_isOpen⟩⟩⟩⟩⟩⟩⟩
theorem t2_X6_climbFrom : ∀ w ∈ w2t_X6_climbFrom, w ∈ lw_tbl := List.forall_mem_cons.mpr ⟨tw_180, List.forall_mem_cons.mpr ⟨tw_251, List.forall_mem_cons.mpr ⟨tw_177, List.forall_mem_cons.mpr ⟨tw_250, List.forall_mem_cons.mpr ⟨tw_249, List.forall_mem_cons.mpr ⟨tw_194, List.forall_mem_cons.mpr ⟨tw_174, List.forall_mem_cons.mpr ⟨tw_173, List.forall_mem_cons.mpr ⟨tw_161, fun _ h => absurd h List.not_mem_nil⟩⟩⟩⟩⟩⟩⟩⟩⟩
theorem tl_X6_climbFrom : ∀ w ∈ w2_X6_climbFrom, w ∈ lw_tbl := List.forall_mem_cons.mpr ⟨tw_252, List.forall_mem_append.mpr ⟨t2_X6_climbFrom, List.forall_mem_append.mpr ⟨tc_wsX60, List.forall_mem_append.mpr ⟨tl_X2_weigh, tl_X6_bestNear⟩⟩⟩⟩
theorem t2_X10_climb : ∀ w ∈ w2t_X10_climb, w ∈ lw_tbl := List.forall_mem_cons.mpr ⟨tw_1, List.forall_mem_cons.mpr ⟨tw_14, List.forall_mem_cons.mpr ⟨tw_207, List.forall_mem_cons.mpr ⟨tw_57, List.forall_mem_cons.mpr ⟨tw_256, List.forall_mem_cons.mpr ⟨tw_255, List.forall_mem_cons.mpr ⟨tw_54, List.forall_mem_cons.mpr ⟨tw_53, List.forall_mem_cons.mpr ⟨tw_9, List.forall_mem_cons.mpr ⟨tw_21, List.forall_mem_cons.mpr ⟨tw_239, List.forall_mem_cons.mpr ⟨tw_254, List.forall_mem_cons.mpr ⟨tw_253, List.forall_mem_cons.mpr ⟨tw_194, fun _ h => absurd h List.not_mem_nil⟩⟩⟩⟩⟩⟩⟩⟩⟩⟩⟩⟩⟩⟩
theorem tl_X10_climb : ∀ w ∈ w2_X10_climb, w ∈ lw_tbl := List.forall_mem_cons.mpr ⟨tw_257, List.forall_mem_append.mpr ⟨t2_X10_climb, List.forall_mem_append.mpr ⟨tc_wsX100, List.forall_mem_append.mpr ⟨tc_wsX80, List.forall_mem_append.mpr ⟨tl_X0_areBounded, List.forall_mem_append.mpr ⟨tl_X10_isGraph, tl_X6_climbFrom⟩⟩⟩⟩⟩⟩
theorem t2_X10_compare : ∀ w ∈ w2t_X10_compare, w ∈ lw_tbl := List.forall_mem_cons.mpr ⟨tw_226, List.forall_mem_cons.mpr ⟨tw_57, List.forall_mem_cons.mpr ⟨tw_258, List.forall_mem_cons.mpr ⟨tw_54, List.forall_mem_cons.mpr ⟨tw_53, List.forall_mem_cons.mpr ⟨tw_9, List.forall_mem_cons.mpr ⟨tw_174, List.forall_mem_cons.mpr ⟨tw_173, List.forall_mem_cons.mpr ⟨tw_161, fun _ h => absurd h List.not_mem_nil⟩⟩⟩⟩⟩⟩⟩⟩⟩
theorem tl_X10_compare : ∀ w ∈ w2_X10_compare, w ∈ lw_tbl := List.forall_mem_cons.mpr ⟨tw_259, List.forall_mem_append.mpr ⟨t2_X10_compare, List.forall_mem_append.mpr ⟨tc_wsX100, List.forall_mem_append.mpr ⟨tl_X10_isGraph, tl_X2_weigh⟩⟩⟩⟩
theorem t2_X10_isRow : ∀ w ∈ w2t_X10_isRow, w ∈ lw_tbl := List.forall_mem_cons.mpr ⟨tw_1, List.forall_mem_cons.mpr ⟨tw_16, fun _ h => absurd h List.not_mem_nil⟩⟩
theorem tl_X10_isRow : ∀ w ∈ w2_X10_isRow, w ∈ lw_tbl := List.forall_mem_cons.mpr ⟨tw_260, List.forall_mem_append.mpr ⟨t2_X10_isRow, List.forall_mem_append.mpr ⟨tc_wsX100, tc_wsX80⟩⟩⟩
theorem t2_X8_removeRow : ∀ w ∈ w2t_X8_removeRow, w ∈ lw_tbl := List.forall_mem_cons.mpr ⟨tw_118, List.forall_mem_cons.mpr ⟨tw_117, fun _ h => absurd h List.not_mem_nil⟩⟩
theorem tl_X8_removeRow : ∀ w ∈ w2_X8_removeRow, w ∈ lw_tbl := List.forall_mem_cons.mpr ⟨tw_261, List.forall_mem_append.mpr ⟨t2_X8_removeRow, tc_wsX80⟩⟩
theorem t2_X10_drop : ∀ w ∈ w2t_X10_drop, w ∈ lw_tbl := List.forall_mem_cons.mpr ⟨tw_1, List.forall_mem_cons.mpr ⟨tw_267, List.forall_mem_cons.mpr ⟨tw_234, List.forall_mem_cons.mpr ⟨tw_266, List.forall_mem_cons.mpr ⟨tw_265, List.forall_mem_cons.mpr ⟨tw_264, List.forall_mem_cons.mpr ⟨tw_9, List.forall_mem_cons.mpr ⟨tw_231, List.forall_mem_cons.mpr ⟨tw_230, List.forall_mem_cons.mpr ⟨tw_263, List.forall_mem_cons.mpr ⟨tw_262, List.forall_mem_cons.mpr ⟨tw_6, fun _ h => absurd h List.not_mem_nil⟩⟩⟩⟩⟩⟩⟩⟩⟩⟩⟩⟩
theorem tl_X10_drop : ∀ w ∈ w2_X10_drop, w ∈ lw_tbl := List.forall_mem_cons.mpr ⟨tw_268, List.forall_mem_append.mpr ⟨t2_X10_drop, List.forall_mem_append.mpr ⟨tc_wsX100, List.forall_mem_append.mpr ⟨tl_X10_forgetFits, List.forall_mem_append.mpr ⟨tl_X10_isRow, tl_X8_removeRow⟩⟩⟩⟩⟩
theorem t2_X2_init : ∀ w ∈ w2t_X2_init, w ∈ lw_tbl := List.forall_mem_cons.mpr ⟨tw_270, List.forall_mem_cons.mpr ⟨tw_149, List.forall_mem_cons.mpr ⟨tw_150, List.forall_mem_cons.mpr ⟨tw_153, List.forall_mem_cons.mpr ⟨tw_155, List.forall_mem_cons.mpr ⟨tw_152, List.forall_mem_cons.mpr ⟨tw_154, List.forall_mem_cons.mpr ⟨tw_218, List.forall_mem_cons.mpr ⟨tw_269, List.forall_mem_cons.mpr ⟨tw_171, List.forall_mem_cons.mpr ⟨tw_170, List.forall_mem_cons.mpr ⟨tw_146, List.forall_mem_cons.mpr ⟨tw_145, List.forall_mem_cons.mpr ⟨tw_95, List.forall_mem_cons.mpr ⟨tw_94, List.forall_mem_cons.mpr ⟨tw_141, List.forall_mem_cons.mpr ⟨tw_140, List.forall_mem_cons.mpr ⟨tw_139, List.forall_mem_cons.mpr ⟨tw_66, List.forall_mem_cons.mpr ⟨tw_138, List.forall_mem_cons.mpr ⟨tw_93, List.forall_mem_cons.mpr ⟨tw_137, fun _ h => absurd h List.not_mem_nil⟩⟩⟩⟩⟩⟩⟩⟩⟩⟩⟩⟩⟩⟩⟩⟩⟩⟩⟩⟩⟩⟩
theorem tl_X2_init : ∀ w ∈ w2_X2_init, w ∈ lw_tbl := List.forall_mem_cons.mpr ⟨tw_271, List.forall_mem_append.mpr ⟨t2_X2_init, List.forall_mem_append.mpr ⟨tc_wsX10, List.forall_mem_append.mpr ⟨tc_wsX20, List.forall_mem_append.mpr ⟨tc_wsX30, List.forall_mem_append.mpr ⟨tl_X1_init, tl_X3_init⟩⟩⟩⟩⟩⟩
theorem t2_X5_init : ∀ w ∈ w2t_X5_init, w ∈ lw_tbl := List.forall_mem_cons.mpr ⟨tw_273, List.forall_mem_cons.mpr ⟨tw_103, List.forall_mem_cons.mpr ⟨tw_104, List.forall_mem_cons.mpr ⟨tw_95, List.forall_mem_cons.mpr ⟨tw_94, List.forall_mem_cons.mpr ⟨tw_272, fun _ h => absurd h List.not_mem_nil⟩⟩⟩⟩⟩⟩
theorem tl_X5_init : ∀ w ∈ w2_X5_init, w ∈ lw_tbl := List.forall_mem_cons.mpr ⟨tw_274, List.forall_mem_append.mpr ⟨t2_X5_init, tc_wsX50⟩⟩
theorem t2_X6_init : ∀ w ∈ w2t_X6_init, w ∈ lw_tbl := List.forall_mem_cons.mpr ⟨tw_275, List.forall_mem_cons.mpr ⟨tw_182, List.forall_mem_cons.mpr ⟨tw_180, List.forall_mem_cons.mpr ⟨tw_185, List.forall_mem_cons.mpr ⟨tw_95, List.forall_mem_cons.mpr ⟨tw_94, List.forall_mem_cons.mpr ⟨tw_272, fun _ h => absurd h List.not_mem_nil⟩⟩⟩⟩⟩⟩⟩
theorem tl_X6_init : ∀ w ∈ w2_X6_init, w ∈ lw_tbl := List.forall_mem_cons.mpr ⟨tw_276, List.forall_mem_append.mpr ⟨t2_X6_init, tc_wsX60⟩⟩
theorem t2_X8_init : ∀ w ∈ w2t_X8_init, w ∈ lw_tbl := List.forall_mem_cons.mpr ⟨tw_278, List.forall_mem_cons.mpr ⟨tw_3, List.forall_mem_cons.mpr ⟨tw_117, List.forall_mem_cons.mpr ⟨tw_277, List.forall_mem_cons.mpr ⟨tw_95, List.forall_mem_cons.mpr ⟨tw_94, List.forall_mem_cons.mpr ⟨tw_272, List.forall_mem_cons.mpr ⟨tw_233, List.forall_mem_cons.mpr ⟨tw_232, List.forall_mem_cons.mpr ⟨tw_6, fun _ h => absurd h List.not_mem_nil⟩⟩⟩⟩⟩⟩⟩⟩⟩⟩
theorem tl_X8_init : ∀ w ∈ w2_X8_init, w ∈ lw_tbl := List.forall_mem_cons.mpr ⟨tw_279, List.forall_mem_append.mpr ⟨t2_X8_init, List.forall_mem_append.mpr ⟨tc_wsX80, tl_X8_startAnew⟩⟩⟩
theorem t2_X9_init : ∀ w ∈ w2t_X9_init, w ∈ lw_tbl := List.forall_mem_cons.mpr ⟨tw_284, List.forall_mem_cons.mpr ⟨tw_283, List.forall_mem_cons.mpr ⟨tw_282, List.forall_mem_cons.mpr ⟨tw_281, List.forall_mem_cons.mpr ⟨tw_280, List.forall_mem_cons.mpr ⟨tw_95, List.forall_mem_cons.mpr ⟨tw_94, List.forall_mem_cons.mpr ⟨tw_272, fun _ h => absurd h List.not_mem_nil⟩⟩⟩⟩⟩⟩⟩⟩
theorem tl_X9_init : ∀ w ∈ w2_X9_init, w ∈ lw_tbl := List.forall_mem_cons.mpr ⟨tw_285, List.forall_mem_append.mpr ⟨t2_X9_init, tc_wsX90⟩⟩
theorem t2_X10_init : ∀ w ∈ w2t_X10_init, w ∈ lw_tbl := List.forall_mem_cons.mpr ⟨tw_309, List.forall_mem_cons.mpr ⟨tw_308, List.forall_mem_cons.mpr ⟨tw_1, List.forall_mem_cons.mpr ⟨tw_307, List.forall_mem_cons.mpr ⟨tw_306, List.forall_mem_cons.mpr ⟨tw_305, List.forall_mem_cons.mpr ⟨tw_226, List.forall_mem_cons.mpr ⟨tw_304, List.forall_mem_cons.mpr ⟨tw_207, List.forall_mem_cons.mpr ⟨tw_303, List.forall_mem_cons.mpr ⟨tw_302, List.forall_mem_cons.mpr ⟨tw_216, List.forall_mem_cons.mpr ⟨tw_301, List.forall_mem_cons.mpr ⟨tw_300, List.forall_mem_cons.mpr ⟨tw_299, List.forall_mem_cons.mpr ⟨tw_298, List.forall_mem_cons.mpr ⟨tw_297, List.forall_mem_cons.mpr ⟨tw_95, List.forall_mem_cons.mpr ⟨tw_94, List.forall_mem_cons.mpr ⟨tw_296, List.forall_mem_cons.mpr ⟨tw_6, List.forall_mem_cons.mpr ⟨tw_295, List.forall_mem_cons.mpr ⟨tw_120, List.forall_mem_cons.mpr ⟨tw_294, List.forall_mem_cons.mpr ⟨tw_161, List.forall_mem_cons.mpr ⟨tw_293, List.forall_mem_cons.mpr ⟨tw_194, List.forall_mem_cons.mpr ⟨tw_292, List.forall_mem_cons.mpr ⟨tw_291, List.forall_mem_cons.mpr ⟨tw_290, List.forall_mem_cons.mpr ⟨tw_289, List.forall_mem_cons.mpr ⟨tw_288, List.forall_mem_cons.mpr ⟨tw_287, List.forall_mem_cons.mpr ⟨tw_286, fun _ h => absurd h List.not_mem_nil⟩⟩⟩⟩⟩⟩⟩⟩⟩⟩⟩⟩⟩⟩⟩⟩⟩⟩⟩⟩⟩⟩⟩⟩⟩⟩⟩⟩⟩⟩⟩⟩⟩⟩
theorem tl_X10_init : ∀ w ∈ w2_X10_init, w ∈ lw_tbl := List.forall_mem_cons.mpr ⟨tw_310, List.forall_mem_append.mpr ⟨t2_X10_init, List.forall_mem_append.mpr ⟨tc_wsX100, List.forall_mem_append.mpr ⟨tc_wsX20, List.forall_mem_append.mpr ⟨tc_wsX50, List.forall_mem_append.mpr ⟨tc_wsX60, List.forall_mem_append.mpr ⟨tc_wsX80, List.forall_mem_append.mpr ⟨tc_wsX90, List.forall_mem_append.mpr ⟨tl_X2_init, List.forall_mem_append.mpr ⟨tl_X5_init, List.forall_mem_append.mpr ⟨tl_X6_init, List.forall_mem_append.mpr ⟨tl_X8_init, tl_X9_init⟩⟩⟩⟩⟩⟩⟩⟩⟩⟩⟩⟩
theorem t2_X4_add : ∀ w ∈ w2t_X4_add, w ∈ lw_tbl := List.forall_mem_cons.mpr ⟨tw_316, List.forall_mem_cons.mpr ⟨tw_315, List.forall_mem_cons.mpr ⟨tw_314, List.forall_mem_cons.mpr ⟨tw_313, List.forall_mem_cons.mpr ⟨tw_312, List.forall_mem_cons.mpr ⟨tw_311, List.forall_mem_cons.mpr ⟨tw_74, List.forall_mem_cons.mpr ⟨tw_73, List.forall_mem_cons.mpr ⟨tw_72, List.forall_mem_cons.mpr ⟨tw_80, List.forall_mem_cons.mpr ⟨tw_79, fun _ h => absurd h List.not_mem_nil⟩⟩⟩⟩⟩⟩⟩⟩⟩⟩⟩
theorem tl_X4_add : ∀ w ∈ w2_X4_add, w ∈ lw_tbl := List.forall_mem_cons.mpr ⟨tw_317, List.forall_mem_append.mpr ⟨t2_X4_add, tc_wsX40⟩⟩
theorem t2_X4_directed : ∀ w ∈ w2t_X4_directed, w ∈ lw_tbl := List.forall_mem_cons.mpr ⟨tw_44, List.forall_mem_cons.mpr ⟨tw_43, List.forall_mem_cons.mpr ⟨tw_42, List.forall_mem_cons.mpr ⟨tw_21, List.forall_mem_cons.mpr ⟨tw_20, fun _ h => absurd h List.not_mem_nil⟩⟩⟩⟩⟩
theorem tl_X4_directed : ∀ w ∈ w2_X4_directed, w ∈ lw_tbl := List.forall_mem_cons.mpr ⟨tw_318, List.forall_mem_append.mpr ⟨t2_X4_directed, List.forall_mem_append.mpr ⟨tl_X0_arc, tl_X0_has⟩⟩⟩
theorem t2_X4_gather : ∀ w ∈ w2t_X4_gather, w ∈ lw_tbl := List.forall_mem_cons.mpr ⟨tw_50, List.forall_mem_cons.mpr ⟨tw_326, List.forall_mem_cons.mpr ⟨tw_325, List.forall_mem_cons.mpr ⟨tw_324, List.forall_mem_cons.mpr ⟨tw_323, List.forall_mem_cons.mpr ⟨tw_322, List.forall_mem_cons.mpr ⟨tw_47, List.forall_mem_cons.mpr ⟨tw_46, List.forall_mem_cons.mpr ⟨tw_21, List.forall_mem_cons.mpr ⟨tw_52, List.forall_mem_cons.mpr ⟨tw_176, List.forall_mem_cons.mpr ⟨tw_175, List.forall_mem_cons.mpr ⟨tw_321, List.forall_mem_cons.mpr ⟨tw_33, List.forall_mem_cons.mpr ⟨tw_320, List.forall_mem_cons.mpr ⟨tw_319, fun _ h => absurd h List.not_mem_nil⟩⟩⟩⟩⟩⟩⟩⟩⟩⟩⟩⟩⟩⟩⟩⟩
theorem tl_X4_gather : ∀ w ∈ w2_X4_gather, w ∈ lw_tbl := List.forall_mem_cons.mpr ⟨tw_327, List.forall_mem_append.mpr ⟨t2_X4_gather, List.forall_mem_append.mpr ⟨tl_J6_bitCount_0f7a4, List.forall_mem_append.mpr ⟨tl_X0_haveNoRound, List.forall_mem_append.mpr ⟨tl_X4_add, List.forall_mem_append.mpr ⟨tl_X4_directed, List.forall_mem_append.mpr ⟨tl_X4_meetings, tl_X4_ties⟩⟩⟩⟩⟩⟩⟩
theorem t2_X4_init : ∀ w ∈ w2t_X4_init, w ∈ lw_tbl := List.forall_mem_cons.mpr ⟨tw_328, List.forall_mem_cons.mpr ⟨tw_316, List.forall_mem_cons.mpr ⟨tw_315, List.forall_mem_cons.mpr ⟨tw_313, List.forall_mem_cons.mpr ⟨tw_311, List.forall_mem_cons.mpr ⟨tw_95, List.forall_mem_cons.mpr ⟨tw_94, fun _ h => absurd h List.not_mem_nil⟩⟩⟩⟩⟩⟩⟩
theorem tl_X4_init : ∀ w ∈ w2_X4_init, w ∈ lw_tbl := List.forall_mem_cons.mpr ⟨tw_329, List.forall_mem_append.mpr ⟨t2_X4_init, tc_wsX40⟩⟩
theorem t2_X10_kin : ∀ w ∈ w2t_X10_kin, w ∈ lw_tbl := List.forall_mem_cons.mpr ⟨tw_340, List.forall_mem_cons.mpr ⟨tw_1, List.forall_mem_cons.mpr ⟨tw_0, List.forall_mem_cons.mpr ⟨tw_339, List.forall_mem_cons.mpr ⟨tw_338, List.forall_mem_cons.mpr ⟨tw_337, List.forall_mem_cons.mpr ⟨tw_336, List.forall_mem_cons.mpr ⟨tw_57, List.forall_mem_cons.mpr ⟨tw_335, List.forall_mem_cons.mpr ⟨tw_334, List.forall_mem_cons.mpr ⟨tw_333, List.forall_mem_cons.mpr ⟨tw_46, List.forall_mem_cons.mpr ⟨tw_54, List.forall_mem_cons.mpr ⟨tw_53, List.forall_mem_cons.mpr ⟨tw_9, List.forall_mem_cons.mpr ⟨tw_332, List.forall_mem_cons.mpr ⟨tw_331, List.forall_mem_cons.mpr ⟨tw_330, fun _ h => absurd h List.not_mem_nil⟩⟩⟩⟩⟩⟩⟩⟩⟩⟩⟩⟩⟩⟩⟩⟩⟩⟩
theorem tl_X10_kin : ∀ w ∈ w2_X10_kin, w ∈ lw_tbl := List.forall_mem_cons.mpr ⟨tw_341, List.forall_mem_append.mpr ⟨t2_X10_kin, List.forall_mem_append.mpr ⟨tc_wsX100, List.forall_mem_append.mpr ⟨tc_wsX40, List.forall_mem_append.mpr ⟨tc_wsX80, List.forall_mem_append.mpr ⟨tl_X10_isGraph, List.forall_mem_append.mpr ⟨tl_X4_gather, tl_X4_init⟩⟩⟩⟩⟩⟩⟩
theorem t2_X8_addName : ∀ w ∈ w2t_X8_addName, w ∈ lw_tbl := List.forall_mem_cons.mpr ⟨tw_4, List.forall_mem_cons.mpr ⟨tw_3, fun _ h => absurd h List.not_mem_nil⟩⟩
theorem tl_X8_addName : ∀ w ∈ w2_X8_addName, w ∈ lw_tbl := List.forall_mem_cons.mpr ⟨tw_342, List.forall_mem_append.mpr ⟨t2_X8_addName, tc_wsX80⟩⟩
theorem t2_X10_name : ∀ w ∈ w2t_X10_name, w ∈ lw_tbl := List.forall_mem_cons.mpr ⟨tw_1, List.forall_mem_cons.mpr ⟨tw_16, List.forall_mem_cons.mpr ⟨tw_0, List.forall_mem_cons.mpr ⟨tw_234, List.forall_mem_cons.mpr ⟨tw_345, List.forall_mem_cons.mpr ⟨tw_231, List.forall_mem_cons.mpr ⟨tw_230, List.forall_mem_cons.mpr ⟨tw_9, List.forall_mem_cons.mpr ⟨tw_344, List.forall_mem_cons.mpr ⟨tw_343, List.forall_mem_cons.mpr ⟨tw_6, fun _ h => absurd h List.not_mem_nil⟩⟩⟩⟩⟩⟩⟩⟩⟩⟩⟩
theorem tl_X10_name : ∀ w ∈ w2_X10_name, w ∈ lw_tbl := List.forall_mem_cons.mpr ⟨tw_346, List.forall_mem_append.mpr ⟨t2_X10_name, List.forall_mem_append.mpr ⟨tc_wsX100, List.forall_mem_append.mpr ⟨tc_wsX80, List.forall_mem_append.mpr ⟨tl_X10_forgetFits, tl_X8_addName⟩⟩⟩⟩⟩
theorem t2_X10_order : ∀ w ∈ w2t_X10_order, w ∈ lw_tbl := List.forall_mem_cons.mpr ⟨tw_1, List.forall_mem_cons.mpr ⟨tw_0, List.forall_mem_cons.mpr ⟨tw_57, List.forall_mem_cons.mpr ⟨tw_13, List.forall_mem_cons.mpr ⟨tw_347, List.forall_mem_cons.mpr ⟨tw_54, List.forall_mem_cons.mpr ⟨tw_53, List.forall_mem_cons.mpr ⟨tw_9, List.forall_mem_cons.mpr ⟨tw_21, List.forall_mem_cons.mpr ⟨tw_30, List.forall_mem_cons.mpr ⟨tw_11, List.forall_mem_cons.mpr ⟨tw_10, fun _ h => absurd h List.not_mem_nil⟩⟩⟩⟩⟩⟩⟩⟩⟩⟩⟩⟩
theorem tl_X10_order : ∀ w ∈ w2_X10_order, w ∈ lw_tbl := List.forall_mem_cons.mpr ⟨tw_348, List.forall_mem_append.mpr ⟨t2_X10_order, List.forall_mem_append.mpr ⟨tc_wsX100, List.forall_mem_append.mpr ⟨tc_wsX80, List.forall_mem_append.mpr ⟨tl_X0_nextAfter, List.forall_mem_append.mpr ⟨tl_X10_isGraph, tl_X10_isName⟩⟩⟩⟩⟩⟩
theorem t2_X10_parents : ∀ w ∈ w2t_X10_parents, w ∈ lw_tbl := List.forall_mem_cons.mpr ⟨tw_1, List.forall_mem_cons.mpr ⟨tw_0, List.forall_mem_cons.mpr ⟨tw_207, List.forall_mem_cons.mpr ⟨tw_13, List.forall_mem_cons.mpr ⟨tw_350, List.forall_mem_cons.mpr ⟨tw_349, List.forall_mem_cons.mpr ⟨tw_11, List.forall_mem_cons.mpr ⟨tw_10, List.forall_mem_cons.mpr ⟨tw_9, List.forall_mem_cons.mpr ⟨tw_22, List.forall_mem_cons.mpr ⟨tw_21, List.forall_mem_cons.mpr ⟨tw_193, List.forall_mem_cons.mpr ⟨tw_192, List.forall_mem_cons.mpr ⟨tw_194, fun _ h => absurd h List.not_mem_nil⟩⟩⟩⟩⟩⟩⟩⟩⟩⟩⟩⟩⟩⟩
theorem tl_X10_parents : ∀ w ∈ w2_X10_parents, w ∈ lw_tbl := List.forall_mem_cons.mpr ⟨tw_351, List.forall_mem_append.mpr ⟨t2_X10_parents, List.forall_mem_append.mpr ⟨tc_wsX100, List.forall_mem_append.mpr ⟨tc_wsX80, List.forall_mem_append.mpr ⟨tl_X0_isIn, List.forall_mem_append.mpr ⟨tl_X10_isName, tl_X6_bestParents⟩⟩⟩⟩⟩⟩
theorem t2_X10_coded : ∀ w ∈ w2t_X10_coded, w ∈ lw_tbl := List.forall_mem_cons.mpr ⟨tw_13, List.forall_mem_cons.mpr ⟨tw_11, List.forall_mem_cons.mpr ⟨tw_10, List.forall_mem_cons.mpr ⟨tw_9, fun _ h => absurd h List.not_mem_nil⟩⟩⟩⟩
theorem tl_X10_coded : ∀ w ∈ w2_X10_coded, w ∈ lw_tbl := List.forall_mem_cons.mpr ⟨tw_352, List.forall_mem_append.mpr ⟨t2_X10_coded, tl_X10_isName⟩⟩
theorem t2_X10_isValue : ∀ w ∈ w2t_X10_isValue, w ∈ lw_tbl := List.forall_mem_cons.mpr ⟨tw_1, List.forall_mem_cons.mpr ⟨tw_12, List.forall_mem_cons.mpr ⟨tw_8, List.forall_mem_cons.mpr ⟨tw_7, List.forall_mem_cons.mpr ⟨tw_6, fun _ h => absurd h List.not_mem_nil⟩⟩⟩⟩⟩
theorem tl_X10_isValue : ∀ w ∈ w2_X10_isValue, w ∈ lw_tbl := List.forall_mem_cons.mpr ⟨tw_353, List.forall_mem_append.mpr ⟨t2_X10_isValue, List.forall_mem_append.mpr ⟨tc_wsX100, tl_X8_valuesOf⟩⟩⟩
theorem t2_X10_fitsName : ∀ w ∈ w2t_X10_fitsName, w ∈ lw_tbl := List.forall_mem_cons.mpr ⟨tw_13, List.forall_mem_cons.mpr ⟨tw_356, List.forall_mem_cons.mpr ⟨tw_11, List.forall_mem_cons.mpr ⟨tw_10, List.forall_mem_cons.mpr ⟨tw_9, List.forall_mem_cons.mpr ⟨tw_355, List.forall_mem_cons.mpr ⟨tw_354, fun _ h => absurd h List.not_mem_nil⟩⟩⟩⟩⟩⟩⟩
theorem tl_X10_fitsName : ∀ w ∈ w2_X10_fitsName, w ∈ lw_tbl := List.forall_mem_cons.mpr ⟨tw_357, List.forall_mem_append.mpr ⟨t2_X10_fitsName, List.forall_mem_append.mpr ⟨tl_X10_isName, tl_X10_isValue⟩⟩⟩
theorem t2_X8_addRow : ∀ w ∈ w2t_X8_addRow, w ∈ lw_tbl := List.forall_mem_cons.mpr ⟨tw_118, List.forall_mem_cons.mpr ⟨tw_117, fun _ h => absurd h List.not_mem_nil⟩⟩
theorem tl_X8_addRow : ∀ w ∈ w2_X8_addRow, w ∈ lw_tbl := List.forall_mem_cons.mpr ⟨tw_358, List.forall_mem_append.mpr ⟨t2_X8_addRow, tc_wsX80⟩⟩
theorem t2_X10_row : ∀ w ∈ w2t_X10_row, w ∈ lw_tbl := List.forall_mem_cons.mpr ⟨tw_1, List.forall_mem_cons.mpr ⟨tw_0, List.forall_mem_cons.mpr ⟨tw_16, List.forall_mem_cons.mpr ⟨tw_367, List.forall_mem_cons.mpr ⟨tw_234, List.forall_mem_cons.mpr ⟨tw_366, List.forall_mem_cons.mpr ⟨tw_365, List.forall_mem_cons.mpr ⟨tw_364, List.forall_mem_cons.mpr ⟨tw_363, List.forall_mem_cons.mpr ⟨tw_9, List.forall_mem_cons.mpr ⟨tw_6, List.forall_mem_cons.mpr ⟨tw_231, List.forall_mem_cons.mpr ⟨tw_230, List.forall_mem_cons.mpr ⟨tw_362, List.forall_mem_cons.mpr ⟨tw_361, List.forall_mem_cons.mpr ⟨tw_360, List.forall_mem_cons.mpr ⟨tw_359, fun _ h => absurd h List.not_mem_nil⟩⟩⟩⟩⟩⟩⟩⟩⟩⟩⟩⟩⟩⟩⟩⟩⟩
theorem tl_X10_row : ∀ w ∈ w2_X10_row, w ∈ lw_tbl := List.forall_mem_cons.mpr ⟨tw_368, List.forall_mem_append.mpr ⟨t2_X10_row, List.forall_mem_append.mpr ⟨tc_wsX100, List.forall_mem_append.mpr ⟨tc_wsX80, List.forall_mem_append.mpr ⟨tl_X10_coded, List.forall_mem_append.mpr ⟨tl_X10_fitsName, List.forall_mem_append.mpr ⟨tl_X10_forgetFits, tl_X8_addRow⟩⟩⟩⟩⟩⟩⟩
theorem t2_X10_set : ∀ w ∈ w2t_X10_set, w ∈ lw_tbl := List.forall_mem_cons.mpr ⟨tw_1, List.forall_mem_cons.mpr ⟨tw_15, List.forall_mem_cons.mpr ⟨tw_14, List.forall_mem_cons.mpr ⟨tw_234, List.forall_mem_cons.mpr ⟨tw_224, List.forall_mem_cons.mpr ⟨tw_231, List.forall_mem_cons.mpr ⟨tw_230, List.forall_mem_cons.mpr ⟨tw_9, List.forall_mem_cons.mpr ⟨tw_221, List.forall_mem_cons.mpr ⟨tw_220, fun _ h => absurd h List.not_mem_nil⟩⟩⟩⟩⟩⟩⟩⟩⟩⟩
theorem tl_X10_set : ∀ w ∈ w2_X10_set, w ∈ lw_tbl := List.forall_mem_cons.mpr ⟨tw_369, List.forall_mem_append.mpr ⟨t2_X10_set, List.forall_mem_append.mpr ⟨tc_wsX100, List.forall_mem_append.mpr ⟨tc_wsX80, List.forall_mem_append.mpr ⟨tl_X10_forgetFits, tl_X10_forgetShares⟩⟩⟩⟩⟩
theorem t2_X10_isPair : ∀ w ∈ w2t_X10_isPair, w ∈ lw_tbl := List.forall_mem_cons.mpr ⟨tw_13, List.forall_mem_cons.mpr ⟨tw_11, List.forall_mem_cons.mpr ⟨tw_10, List.forall_mem_cons.mpr ⟨tw_9, fun _ h => absurd h List.not_mem_nil⟩⟩⟩⟩
theorem tl_X10_isPair : ∀ w ∈ w2_X10_isPair, w ∈ lw_tbl := List.forall_mem_cons.mpr ⟨tw_370, List.forall_mem_append.mpr ⟨t2_X10_isPair, tl_X10_isName⟩⟩
theorem t2_X10_isPart : ∀ w ∈ w2t_X10_isPart, w ∈ lw_tbl := fun _ h => absurd h List.not_mem_nil
theorem tl_X10_isPart : ∀ w ∈ w2_X10_isPart, w ∈ lw_tbl := List.forall_mem_cons.mpr ⟨tw_371, t2_X10_isPart⟩
theorem t2_X7_init : ∀ w ∈ w2t_X7_init, w ∈ lw_tbl := List.forall_mem_cons.mpr ⟨tw_390, List.forall_mem_cons.mpr ⟨tw_389, List.forall_mem_cons.mpr ⟨tw_388, List.forall_mem_cons.mpr ⟨tw_387, List.forall_mem_cons.mpr ⟨tw_386, List.forall_mem_cons.mpr ⟨tw_385, List.forall_mem_cons.mpr ⟨tw_384, List.forall_mem_cons.mpr ⟨tw_383, List.forall_mem_cons.mpr ⟨tw_382, List.forall_mem_cons.mpr ⟨tw_381, List.forall_mem_cons.mpr ⟨tw_380, List.forall_mem_cons.mpr ⟨tw_379, List.forall_mem_cons.mpr ⟨tw_378, List.forall_mem_cons.mpr ⟨tw_210, List.forall_mem_cons.mpr ⟨tw_377, List.forall_mem_cons.mpr ⟨tw_376, List.forall_mem_cons.mpr ⟨tw_375, List.forall_mem_cons.mpr ⟨tw_374, List.forall_mem_cons.mpr ⟨tw_373, List.forall_mem_cons.mpr ⟨tw_372, List.forall_mem_cons.mpr ⟨tw_95, List.forall_mem_cons.mpr ⟨tw_94, List.forall_mem_cons.mpr ⟨tw_295, List.forall_mem_cons.mpr ⟨tw_120, List.forall_mem_cons.mpr ⟨tw_139, List.forall_mem_cons.mpr ⟨tw_66, List.forall_mem_cons.mpr ⟨tw_141, List.forall_mem_cons.mpr ⟨tw_140, List.forall_mem_cons.mpr ⟨tw_289, List.forall_mem_cons.mpr ⟨tw_272, List.forall_mem_cons.mpr ⟨tw_22, List.forall_mem_cons.mpr ⟨tw_21, List.forall_mem_cons.mpr ⟨tw_138, List.forall_mem_cons.mpr ⟨tw_93, List.forall_mem_cons.mpr ⟨tw_137, fun _ h => absurd h List.not_mem_nil⟩⟩⟩⟩⟩⟩⟩⟩⟩⟩⟩⟩⟩⟩⟩⟩⟩⟩⟩⟩⟩⟩⟩⟩⟩⟩⟩⟩⟩⟩⟩⟩⟩⟩⟩
theorem tl_X7_init : ∀ w ∈ w2_X7_init, w ∈ lw_tbl := List.forall_mem_cons.mpr ⟨tw_391, List.forall_mem_append.mpr ⟨t2_X7_init, List.forall_mem_append.mpr ⟨tc_wsX10, List.forall_mem_append.mpr ⟨tc_wsX30, List.forall_mem_append.mpr ⟨tc_wsX50, List.forall_mem_append.mpr ⟨tc_wsX70, List.forall_mem_append.mpr ⟨tl_X0_isIn, List.forall_mem_append.mpr ⟨tl_X1_init, List.forall_mem_append.mpr ⟨tl_X3_init, tl_X5_init⟩⟩⟩⟩⟩⟩⟩⟩⟩
theorem t2_X10_readyShares : ∀ w ∈ w2t_X10_readyShares, w ∈ lw_tbl := List.forall_mem_cons.mpr ⟨tw_216, List.forall_mem_cons.mpr ⟨tw_395, List.forall_mem_cons.mpr ⟨tw_1, List.forall_mem_cons.mpr ⟨tw_306, List.forall_mem_cons.mpr ⟨tw_394, List.forall_mem_cons.mpr ⟨tw_393, List.forall_mem_cons.mpr ⟨tw_212, List.forall_mem_cons.mpr ⟨tw_392, fun _ h => absurd h List.not_mem_nil⟩⟩⟩⟩⟩⟩⟩⟩
theorem tl_X10_readyShares : ∀ w ∈ w2_X10_readyShares, w ∈ lw_tbl := List.forall_mem_cons.mpr ⟨tw_396, List.forall_mem_append.mpr ⟨t2_X10_readyShares, List.forall_mem_append.mpr ⟨tc_wsX100, List.forall_mem_append.mpr ⟨tc_wsX70, tl_X7_init⟩⟩⟩⟩
theorem t2_X1_length : ∀ w ∈ w2t_X1_length, w ∈ lw_tbl := List.forall_mem_cons.mpr ⟨tw_64, fun _ h => absurd h List.not_mem_nil⟩
theorem tl_X1_length : ∀ w ∈ w2_X1_length, w ∈ lw_tbl := List.forall_mem_cons.mpr ⟨tw_397, List.forall_mem_append.mpr ⟨t2_X1_length, tc_wsX10⟩⟩
theorem t2_X3_side : ∀ w ∈ w2t_X3_side, w ∈ lw_tbl := List.forall_mem_cons.mpr ⟨tw_100, List.forall_mem_cons.mpr ⟨tw_99, fun _ h => absurd h List.not_mem_nil⟩⟩
theorem tl_X3_side : ∀ w ∈ w2_X3_side, w ∈ lw_tbl := List.forall_mem_cons.mpr ⟨tw_398, List.forall_mem_append.mpr ⟨t2_X3_side, tc_wsX30⟩⟩
theorem t2_X1_copy : ∀ w ∈ w2t_X1_copy, w ∈ lw_tbl := List.forall_mem_cons.mpr ⟨tw_64, List.forall_mem_cons.mpr ⟨tw_63, List.forall_mem_cons.mpr ⟨tw_76, List.forall_mem_cons.mpr ⟨tw_402, List.forall_mem_cons.mpr ⟨tw_74, List.forall_mem_cons.mpr ⟨tw_73, List.forall_mem_cons.mpr ⟨tw_72, List.forall_mem_cons.mpr ⟨tw_401, List.forall_mem_cons.mpr ⟨tw_400, List.forall_mem_cons.mpr ⟨tw_399, fun _ h => absurd h List.not_mem_nil⟩⟩⟩⟩⟩⟩⟩⟩⟩⟩
theorem tl_X1_copy : ∀ w ∈ w2_X1_copy, w ∈ lw_tbl := List.forall_mem_cons.mpr ⟨tw_403, List.forall_mem_append.mpr ⟨t2_X1_copy, tc_wsX10⟩⟩
theorem t2_X1_subtractMultiple : ∀ w ∈ w2t_X1_subtractMultiple, w ∈ lw_tbl := List.forall_mem_cons.mpr ⟨tw_64, List.forall_mem_cons.mpr ⟨tw_63, List.forall_mem_cons.mpr ⟨tw_76, List.forall_mem_cons.mpr ⟨tw_75, List.forall_mem_cons.mpr ⟨tw_89, List.forall_mem_cons.mpr ⟨tw_74, List.forall_mem_cons.mpr ⟨tw_73, List.forall_mem_cons.mpr ⟨tw_72, List.forall_mem_cons.mpr ⟨tw_84, List.forall_mem_cons.mpr ⟨tw_83, List.forall_mem_cons.mpr ⟨tw_66, fun _ h => absurd h List.not_mem_nil⟩⟩⟩⟩⟩⟩⟩⟩⟩⟩⟩
theorem tl_X1_subtractMultiple : ∀ w ∈ w2_X1_subtractMultiple, w ∈ lw_tbl := List.forall_mem_cons.mpr ⟨tw_404, List.forall_mem_append.mpr ⟨t2_X1_subtractMultiple, List.forall_mem_append.mpr ⟨tc_wsX10, tl_X1_trim⟩⟩⟩
theorem t2_X1_minus : ∀ w ∈ w2t_X1_minus, w ∈ lw_tbl := List.forall_mem_cons.mpr ⟨tw_407, List.forall_mem_cons.mpr ⟨tw_406, List.forall_mem_cons.mpr ⟨tw_405, List.forall_mem_cons.mpr ⟨tw_66, fun _ h => absurd h List.not_mem_nil⟩⟩⟩⟩
theorem tl_X1_minus : ∀ w ∈ w2_X1_minus, w ∈ lw_tbl := List.forall_mem_cons.mpr ⟨tw_408, List.forall_mem_append.mpr ⟨t2_X1_minus, tl_X1_subtractMultiple⟩⟩
theorem t2_X7_weight : ∀ w ∈ w2t_X7_weight, w ∈ lw_tbl := List.forall_mem_cons.mpr ⟨tw_384, List.forall_mem_cons.mpr ⟨tw_382, fun _ h => absurd h List.not_mem_nil⟩⟩
theorem tl_X7_weight : ∀ w ∈ w2_X7_weight, w ∈ lw_tbl := List.forall_mem_cons.mpr ⟨tw_409, List.forall_mem_append.mpr ⟨t2_X7_weight, tc_wsX70⟩⟩
theorem t2_X7_keepArc : ∀ w ∈ w2t_X7_keepArc, w ∈ lw_tbl := List.forall_mem_cons.mpr ⟨tw_389, List.forall_mem_cons.mpr ⟨tw_417, List.forall_mem_cons.mpr ⟨tw_374, List.forall_mem_cons.mpr ⟨tw_416, List.forall_mem_cons.mpr ⟨tw_415, List.forall_mem_cons.mpr ⟨tw_414, List.forall_mem_cons.mpr ⟨tw_22, List.forall_mem_cons.mpr ⟨tw_21, List.forall_mem_cons.mpr ⟨tw_413, List.forall_mem_cons.mpr ⟨tw_412, List.forall_mem_cons.mpr ⟨tw_212, List.forall_mem_cons.mpr ⟨tw_411, List.forall_mem_cons.mpr ⟨tw_410, List.forall_mem_cons.mpr ⟨tw_66, List.forall_mem_cons.mpr ⟨tw_110, List.forall_mem_cons.mpr ⟨tw_109, fun _ h => absurd h List.not_mem_nil⟩⟩⟩⟩⟩⟩⟩⟩⟩⟩⟩⟩⟩⟩⟩⟩
theorem tl_X7_keepArc : ∀ w ∈ w2_X7_keepArc, w ∈ lw_tbl := List.forall_mem_cons.mpr ⟨tw_418, List.forall_mem_append.mpr ⟨t2_X7_keepArc, List.forall_mem_append.mpr ⟨tc_wsX70, List.forall_mem_append.mpr ⟨tc_wsX80, List.forall_mem_append.mpr ⟨tl_X0_isIn, List.forall_mem_append.mpr ⟨tl_X1_become, List.forall_mem_append.mpr ⟨tl_X1_minus, tl_X7_weight⟩⟩⟩⟩⟩⟩⟩
theorem t2_X1_addDigit : ∀ w ∈ w2t_X1_addDigit, w ∈ lw_tbl := List.forall_mem_cons.mpr ⟨tw_64, List.forall_mem_cons.mpr ⟨tw_81, List.forall_mem_cons.mpr ⟨tw_63, List.forall_mem_cons.mpr ⟨tw_76, List.forall_mem_cons.mpr ⟨tw_75, List.forall_mem_cons.mpr ⟨tw_91, List.forall_mem_cons.mpr ⟨tw_89, List.forall_mem_cons.mpr ⟨tw_80, List.forall_mem_cons.mpr ⟨tw_73, List.forall_mem_cons.mpr ⟨tw_79, List.forall_mem_cons.mpr ⟨tw_74, List.forall_mem_cons.mpr ⟨tw_72, List.forall_mem_cons.mpr ⟨tw_88, List.forall_mem_cons.mpr ⟨tw_87, List.forall_mem_cons.mpr ⟨tw_66, List.forall_mem_cons.mpr ⟨tw_84, List.forall_mem_cons.mpr ⟨tw_83, fun _ h => absurd h List.not_mem_nil⟩⟩⟩⟩⟩⟩⟩⟩⟩⟩⟩⟩⟩⟩⟩⟩⟩
theorem tl_X1_addDigit : ∀ w ∈ w2_X1_addDigit, w ∈ lw_tbl := List.forall_mem_cons.mpr ⟨tw_419, List.forall_mem_append.mpr ⟨t2_X1_addDigit, List.forall_mem_append.mpr ⟨tc_wsX10, List.forall_mem_append.mpr ⟨tl_X1_trim, tl_X1_widen⟩⟩⟩⟩
theorem t2_J13_bitCount_95d88 : ∀ w ∈ w2t_J13_bitCount_95d88, w ∈ lw_tbl := List.forall_mem_cons.mpr ⟨tw_422, List.forall_mem_cons.mpr ⟨tw_421, List.forall_mem_cons.mpr ⟨tw_420, fun _ h => absurd h List.not_mem_nil⟩⟩⟩
theorem tl_J13_bitCount_95d88 : ∀ w ∈ w2_J13_bitCount_95d88, w ∈ lw_tbl := List.forall_mem_cons.mpr ⟨tw_423, t2_J13_bitCount_95d88⟩
theorem t2_X1_bits : ∀ w ∈ w2t_X1_bits, w ∈ lw_tbl := List.forall_mem_cons.mpr ⟨tw_64, List.forall_mem_cons.mpr ⟨tw_69, List.forall_mem_cons.mpr ⟨tw_426, List.forall_mem_cons.mpr ⟨tw_68, List.forall_mem_cons.mpr ⟨tw_67, List.forall_mem_cons.mpr ⟨tw_66, List.forall_mem_cons.mpr ⟨tw_425, List.forall_mem_cons.mpr ⟨tw_424, fun _ h => absurd h List.not_mem_nil⟩⟩⟩⟩⟩⟩⟩⟩
theorem tl_X1_bits : ∀ w ∈ w2_X1_bits, w ∈ lw_tbl := List.forall_mem_cons.mpr ⟨tw_427, List.forall_mem_append.mpr ⟨t2_X1_bits, List.forall_mem_append.mpr ⟨tc_wsX10, List.forall_mem_append.mpr ⟨tl_J13_bitCount_95d88, tl_X1_at⟩⟩⟩⟩
theorem t2_X1_from : ∀ w ∈ w2t_X1_from, w ∈ lw_tbl := List.forall_mem_cons.mpr ⟨tw_69, List.forall_mem_cons.mpr ⟨tw_68, List.forall_mem_cons.mpr ⟨tw_67, List.forall_mem_cons.mpr ⟨tw_66, fun _ h => absurd h List.not_mem_nil⟩⟩⟩⟩
theorem tl_X1_from : ∀ w ∈ w2_X1_from, w ∈ lw_tbl := List.forall_mem_cons.mpr ⟨tw_428, List.forall_mem_append.mpr ⟨t2_X1_from, tl_X1_at⟩⟩
theorem t2_X1_reduceBy : ∀ w ∈ w2t_X1_reduceBy, w ∈ lw_tbl := List.forall_mem_cons.mpr ⟨tw_64, List.forall_mem_cons.mpr ⟨tw_81, List.forall_mem_cons.mpr ⟨tw_445, List.forall_mem_cons.mpr ⟨tw_444, List.forall_mem_cons.mpr ⟨tw_75, List.forall_mem_cons.mpr ⟨tw_443, List.forall_mem_cons.mpr ⟨tw_442, List.forall_mem_cons.mpr ⟨tw_441, List.forall_mem_cons.mpr ⟨tw_440, List.forall_mem_cons.mpr ⟨tw_407, List.forall_mem_cons.mpr ⟨tw_439, List.forall_mem_cons.mpr ⟨tw_80, List.forall_mem_cons.mpr ⟨tw_73, List.forall_mem_cons.mpr ⟨tw_79, List.forall_mem_cons.mpr ⟨tw_438, List.forall_mem_cons.mpr ⟨tw_437, List.forall_mem_cons.mpr ⟨tw_436, List.forall_mem_cons.mpr ⟨tw_435, List.forall_mem_cons.mpr ⟨tw_434, List.forall_mem_cons.mpr ⟨tw_433, List.forall_mem_cons.mpr ⟨tw_66, List.forall_mem_cons.mpr ⟨tw_432, List.forall_mem_cons.mpr ⟨tw_431, List.forall_mem_cons.mpr ⟨tw_158, List.forall_mem_cons.mpr ⟨tw_157, List.forall_mem_cons.mpr ⟨tw_406, List.forall_mem_cons.mpr ⟨tw_405, List.forall_mem_cons.mpr ⟨tw_430, List.forall_mem_cons.mpr ⟨tw_429, fun _ h => absurd h List.not_mem_nil⟩⟩⟩⟩⟩⟩⟩⟩⟩⟩⟩⟩⟩⟩⟩⟩⟩⟩⟩⟩⟩⟩⟩⟩⟩⟩⟩⟩⟩
theorem tl_X1_reduceBy : ∀ w ∈ w2_X1_reduceBy, w ∈ lw_tbl := List.forall_mem_cons.mpr ⟨tw_446, List.forall_mem_append.mpr ⟨t2_X1_reduceBy, List.forall_mem_append.mpr ⟨tc_wsX10, List.forall_mem_append.mpr ⟨tl_X1_addDigit, List.forall_mem_append.mpr ⟨tl_X1_against, List.forall_mem_append.mpr ⟨tl_X1_bits, List.forall_mem_append.mpr ⟨tl_X1_from, tl_X1_subtractMultiple⟩⟩⟩⟩⟩⟩⟩
theorem t2_X1_commonDivisor : ∀ w ∈ w2t_X1_commonDivisor, w ∈ lw_tbl := List.forall_mem_cons.mpr ⟨tw_444, List.forall_mem_cons.mpr ⟨tw_64, List.forall_mem_cons.mpr ⟨tw_449, List.forall_mem_cons.mpr ⟨tw_448, List.forall_mem_cons.mpr ⟨tw_447, List.forall_mem_cons.mpr ⟨tw_66, fun _ h => absurd h List.not_mem_nil⟩⟩⟩⟩⟩⟩
theorem tl_X1_commonDivisor : ∀ w ∈ w2_X1_commonDivisor, w ∈ lw_tbl := List.forall_mem_cons.mpr ⟨tw_450, List.forall_mem_append.mpr ⟨t2_X1_commonDivisor, List.forall_mem_append.mpr ⟨tc_wsX10, tl_X1_reduceBy⟩⟩⟩
theorem t2_X7_divide : ∀ w ∈ w2t_X7_divide, w ∈ lw_tbl := List.forall_mem_cons.mpr ⟨tw_381, List.forall_mem_cons.mpr ⟨tw_379, List.forall_mem_cons.mpr ⟨tw_414, List.forall_mem_cons.mpr ⟨tw_454, List.forall_mem_cons.mpr ⟨tw_453, List.forall_mem_cons.mpr ⟨tw_110, List.forall_mem_cons.mpr ⟨tw_109, List.forall_mem_cons.mpr ⟨tw_66, List.forall_mem_cons.mpr ⟨tw_448, List.forall_mem_cons.mpr ⟨tw_447, List.forall_mem_cons.mpr ⟨tw_452, List.forall_mem_cons.mpr ⟨tw_451, fun _ h => absurd h List.not_mem_nil⟩⟩⟩⟩⟩⟩⟩⟩⟩⟩⟩⟩
theorem tl_X7_divide : ∀ w ∈ w2_X7_divide, w ∈ lw_tbl := List.forall_mem_cons.mpr ⟨tw_455, List.forall_mem_append.mpr ⟨t2_X7_divide, List.forall_mem_append.mpr ⟨tc_wsX70, List.forall_mem_append.mpr ⟨tl_X1_become, List.forall_mem_append.mpr ⟨tl_X1_copy, tl_X1_reduceBy⟩⟩⟩⟩⟩
theorem t2_X7_lower : ∀ w ∈ w2t_X7_lower, w ∈ lw_tbl := List.forall_mem_cons.mpr ⟨tw_381, List.forall_mem_cons.mpr ⟨tw_210, List.forall_mem_cons.mpr ⟨tw_462, List.forall_mem_cons.mpr ⟨tw_380, List.forall_mem_cons.mpr ⟨tw_461, List.forall_mem_cons.mpr ⟨tw_379, List.forall_mem_cons.mpr ⟨tw_453, List.forall_mem_cons.mpr ⟨tw_460, List.forall_mem_cons.mpr ⟨tw_459, List.forall_mem_cons.mpr ⟨tw_452, List.forall_mem_cons.mpr ⟨tw_451, List.forall_mem_cons.mpr ⟨tw_66, List.forall_mem_cons.mpr ⟨tw_458, List.forall_mem_cons.mpr ⟨tw_457, List.forall_mem_cons.mpr ⟨tw_456, List.forall_mem_cons.mpr ⟨tw_212, fun _ h => absurd h List.not_mem_nil⟩⟩⟩⟩⟩⟩⟩⟩⟩⟩⟩⟩⟩⟩⟩⟩
theorem tl_X7_lower : ∀ w ∈ w2_X7_lower, w ∈ lw_tbl := List.forall_mem_cons.mpr ⟨tw_463, List.forall_mem_append.mpr ⟨t2_X7_lower, List.forall_mem_append.mpr ⟨tc_wsX30, List.forall_mem_append.mpr ⟨tc_wsX70, List.forall_mem_append.mpr ⟨tl_X1_commonDivisor, List.forall_mem_append.mpr ⟨tl_X1_copy, tl_X7_divide⟩⟩⟩⟩⟩⟩
theorem t2_X7_sum : ∀ w ∈ w2t_X7_sum, w ∈ lw_tbl := List.forall_mem_cons.mpr ⟨tw_383, List.forall_mem_cons.mpr ⟨tw_382, fun _ h => absurd h List.not_mem_nil⟩⟩
theorem tl_X7_sum : ∀ w ∈ w2_X7_sum, w ∈ lw_tbl := List.forall_mem_cons.mpr ⟨tw_464, List.forall_mem_append.mpr ⟨t2_X7_sum, tc_wsX70⟩⟩
theorem t2_X1_plus : ∀ w ∈ w2t_X1_plus, w ∈ lw_tbl := List.forall_mem_cons.mpr ⟨tw_64, List.forall_mem_cons.mpr ⟨tw_81, List.forall_mem_cons.mpr ⟨tw_91, List.forall_mem_cons.mpr ⟨tw_90, List.forall_mem_cons.mpr ⟨tw_89, List.forall_mem_cons.mpr ⟨tw_80, List.forall_mem_cons.mpr ⟨tw_73, List.forall_mem_cons.mpr ⟨tw_79, List.forall_mem_cons.mpr ⟨tw_88, List.forall_mem_cons.mpr ⟨tw_87, List.forall_mem_cons.mpr ⟨tw_66, List.forall_mem_cons.mpr ⟨tw_86, List.forall_mem_cons.mpr ⟨tw_85, List.forall_mem_cons.mpr ⟨tw_84, List.forall_mem_cons.mpr ⟨tw_83, fun _ h => absurd h List.not_mem_nil⟩⟩⟩⟩⟩⟩⟩⟩⟩⟩⟩⟩⟩⟩⟩
theorem tl_X1_plus : ∀ w ∈ w2_X1_plus, w ∈ lw_tbl := List.forall_mem_cons.mpr ⟨tw_465, List.forall_mem_append.mpr ⟨t2_X1_plus, List.forall_mem_append.mpr ⟨tc_wsX10, List.forall_mem_append.mpr ⟨tl_X1_addMultiple, List.forall_mem_append.mpr ⟨tl_X1_trim, tl_X1_widen⟩⟩⟩⟩⟩
theorem t2_X7_multiplyOut : ∀ w ∈ w2t_X7_multiplyOut, w ∈ lw_tbl := List.forall_mem_cons.mpr ⟨tw_381, List.forall_mem_cons.mpr ⟨tw_389, List.forall_mem_cons.mpr ⟨tw_417, List.forall_mem_cons.mpr ⟨tw_469, List.forall_mem_cons.mpr ⟨tw_453, List.forall_mem_cons.mpr ⟨tw_374, List.forall_mem_cons.mpr ⟨tw_416, List.forall_mem_cons.mpr ⟨tw_468, List.forall_mem_cons.mpr ⟨tw_467, List.forall_mem_cons.mpr ⟨tw_466, List.forall_mem_cons.mpr ⟨tw_212, List.forall_mem_cons.mpr ⟨tw_452, List.forall_mem_cons.mpr ⟨tw_451, List.forall_mem_cons.mpr ⟨tw_66, List.forall_mem_cons.mpr ⟨tw_22, List.forall_mem_cons.mpr ⟨tw_21, List.forall_mem_cons.mpr ⟨tw_413, List.forall_mem_cons.mpr ⟨tw_412, List.forall_mem_cons.mpr ⟨tw_160, List.forall_mem_cons.mpr ⟨tw_159, fun _ h => absurd h List.not_mem_nil⟩⟩⟩⟩⟩⟩⟩⟩⟩⟩⟩⟩⟩⟩⟩⟩⟩⟩⟩⟩
theorem tl_X7_multiplyOut : ∀ w ∈ w2_X7_multiplyOut, w ∈ lw_tbl := List.forall_mem_cons.mpr ⟨tw_470, List.forall_mem_append.mpr ⟨t2_X7_multiplyOut, List.forall_mem_append.mpr ⟨tc_wsX70, List.forall_mem_append.mpr ⟨tc_wsX80, List.forall_mem_append.mpr ⟨tl_X0_isIn, List.forall_mem_append.mpr ⟨tl_X1_copy, List.forall_mem_append.mpr ⟨tl_X1_times, List.forall_mem_append.mpr ⟨tl_X7_sum, tl_X7_weight⟩⟩⟩⟩⟩⟩⟩⟩
theorem t2_X7_sumGraphsOf : ∀ w ∈ w2t_X7_sumGraphsOf, w ∈ lw_tbl := List.forall_mem_cons.mpr ⟨tw_381, List.forall_mem_cons.mpr ⟨tw_469, List.forall_mem_cons.mpr ⟨tw_414, List.forall_mem_cons.mpr ⟨tw_477, List.forall_mem_cons.mpr ⟨tw_476, List.forall_mem_cons.mpr ⟨tw_475, List.forall_mem_cons.mpr ⟨tw_415, List.forall_mem_cons.mpr ⟨tw_467, List.forall_mem_cons.mpr ⟨tw_466, List.forall_mem_cons.mpr ⟨tw_212, List.forall_mem_cons.mpr ⟨tw_110, List.forall_mem_cons.mpr ⟨tw_109, List.forall_mem_cons.mpr ⟨tw_66, List.forall_mem_cons.mpr ⟨tw_176, List.forall_mem_cons.mpr ⟨tw_175, List.forall_mem_cons.mpr ⟨tw_474, List.forall_mem_cons.mpr ⟨tw_473, List.forall_mem_cons.mpr ⟨tw_472, List.forall_mem_cons.mpr ⟨tw_471, List.forall_mem_cons.mpr ⟨tw_411, List.forall_mem_cons.mpr ⟨tw_410, fun _ h => absurd h List.not_mem_nil⟩⟩⟩⟩⟩⟩⟩⟩⟩⟩⟩⟩⟩⟩⟩⟩⟩⟩⟩⟩⟩
theorem tl_X7_sumGraphsOf : ∀ w ∈ w2_X7_sumGraphsOf, w ∈ lw_tbl := List.forall_mem_cons.mpr ⟨tw_478, List.forall_mem_append.mpr ⟨t2_X7_sumGraphsOf, List.forall_mem_append.mpr ⟨tc_wsX70, List.forall_mem_append.mpr ⟨tl_J6_bitCount_0f7a4, List.forall_mem_append.mpr ⟨tl_X1_become, List.forall_mem_append.mpr ⟨tl_X1_minus, List.forall_mem_append.mpr ⟨tl_X1_plus, List.forall_mem_append.mpr ⟨tl_X7_multiplyOut, tl_X7_sum⟩⟩⟩⟩⟩⟩⟩⟩
theorem t2_X7_sumGraphs : ∀ w ∈ w2t_X7_sumGraphs, w ∈ lw_tbl := List.forall_mem_cons.mpr ⟨tw_389, List.forall_mem_cons.mpr ⟨tw_417, List.forall_mem_cons.mpr ⟨tw_481, List.forall_mem_cons.mpr ⟨tw_480, List.forall_mem_cons.mpr ⟨tw_479, List.forall_mem_cons.mpr ⟨tw_212, fun _ h => absurd h List.not_mem_nil⟩⟩⟩⟩⟩⟩
theorem tl_X7_sumGraphs : ∀ w ∈ w2_X7_sumGraphs, w ∈ lw_tbl := List.forall_mem_cons.mpr ⟨tw_482, List.forall_mem_append.mpr ⟨t2_X7_sumGraphs, List.forall_mem_append.mpr ⟨tc_wsX70, List.forall_mem_append.mpr ⟨tc_wsX80, tl_X7_sumGraphsOf⟩⟩⟩⟩
theorem t2_X5_copy : ∀ w ∈ w2t_X5_copy, w ∈ lw_tbl := List.forall_mem_cons.mpr ⟨tw_104, List.forall_mem_cons.mpr ⟨tw_103, List.forall_mem_cons.mpr ⟨tw_483, List.forall_mem_cons.mpr ⟨tw_136, List.forall_mem_cons.mpr ⟨tw_135, List.forall_mem_cons.mpr ⟨tw_120, fun _ h => absurd h List.not_mem_nil⟩⟩⟩⟩⟩⟩
theorem tl_X5_copy : ∀ w ∈ w2_X5_copy, w ∈ lw_tbl := List.forall_mem_cons.mpr ⟨tw_484, List.forall_mem_append.mpr ⟨t2_X5_copy, List.forall_mem_append.mpr ⟨tc_wsX50, tl_X5_forget⟩⟩⟩
theorem t2_X5_divide : ∀ w ∈ w2t_X5_divide, w ∈ lw_tbl := List.forall_mem_cons.mpr ⟨tw_104, List.forall_mem_cons.mpr ⟨tw_485, List.forall_mem_cons.mpr ⟨tw_103, List.forall_mem_cons.mpr ⟨tw_80, List.forall_mem_cons.mpr ⟨tw_73, List.forall_mem_cons.mpr ⟨tw_79, fun _ h => absurd h List.not_mem_nil⟩⟩⟩⟩⟩⟩
theorem tl_X5_divide : ∀ w ∈ w2_X5_divide, w ∈ lw_tbl := List.forall_mem_cons.mpr ⟨tw_486, List.forall_mem_append.mpr ⟨t2_X5_divide, tc_wsX50⟩⟩
theorem t2_X5_lowerTo : ∀ w ∈ w2t_X5_lowerTo, w ∈ lw_tbl := List.forall_mem_cons.mpr ⟨tw_104, List.forall_mem_cons.mpr ⟨tw_485, List.forall_mem_cons.mpr ⟨tw_103, List.forall_mem_cons.mpr ⟨tw_487, List.forall_mem_cons.mpr ⟨tw_80, List.forall_mem_cons.mpr ⟨tw_73, List.forall_mem_cons.mpr ⟨tw_79, List.forall_mem_cons.mpr ⟨tw_74, List.forall_mem_cons.mpr ⟨tw_72, fun _ h => absurd h List.not_mem_nil⟩⟩⟩⟩⟩⟩⟩⟩⟩
theorem tl_X5_lowerTo : ∀ w ∈ w2_X5_lowerTo, w ∈ lw_tbl := List.forall_mem_cons.mpr ⟨tw_488, List.forall_mem_append.mpr ⟨t2_X5_lowerTo, tc_wsX50⟩⟩
theorem t2_X7_addSmaller : ∀ w ∈ w2t_X7_addSmaller, w ∈ lw_tbl := List.forall_mem_cons.mpr ⟨tw_389, List.forall_mem_cons.mpr ⟨tw_417, List.forall_mem_cons.mpr ⟨tw_374, List.forall_mem_cons.mpr ⟨tw_416, List.forall_mem_cons.mpr ⟨tw_475, List.forall_mem_cons.mpr ⟨tw_22, List.forall_mem_cons.mpr ⟨tw_21, List.forall_mem_cons.mpr ⟨tw_413, List.forall_mem_cons.mpr ⟨tw_412, List.forall_mem_cons.mpr ⟨tw_212, List.forall_mem_cons.mpr ⟨tw_472, List.forall_mem_cons.mpr ⟨tw_471, List.forall_mem_cons.mpr ⟨tw_66, fun _ h => absurd h List.not_mem_nil⟩⟩⟩⟩⟩⟩⟩⟩⟩⟩⟩⟩⟩
theorem tl_X7_addSmaller : ∀ w ∈ w2_X7_addSmaller, w ∈ lw_tbl := List.forall_mem_cons.mpr ⟨tw_489, List.forall_mem_append.mpr ⟨t2_X7_addSmaller, List.forall_mem_append.mpr ⟨tc_wsX70, List.forall_mem_append.mpr ⟨tc_wsX80, List.forall_mem_append.mpr ⟨tl_X0_isIn, List.forall_mem_append.mpr ⟨tl_X1_plus, tl_X7_weight⟩⟩⟩⟩⟩⟩
theorem t2_X7_isOpen : ∀ w ∈ w2t_X7_isOpen, w ∈ lw_tbl := List.forall_mem_cons.mpr ⟨tw_389, List.forall_mem_cons.mpr ⟨tw_490, List.forall_mem_cons.mpr ⟨tw_374, List.forall_mem_cons.mpr ⟨tw_477, List.forall_mem_cons.mpr ⟨tw_22, List.forall_mem_cons.mpr ⟨tw_21, List.forall_mem_cons.mpr ⟨tw_176, List.forall_mem_cons.mpr ⟨tw_175, fun _ h => absurd h List.not_mem_nil⟩⟩⟩⟩⟩⟩⟩⟩
theorem tl_X7_isOpen : ∀ w ∈ w2_X7_isOpen, w ∈ lw_tbl := List.forall_mem_cons.mpr ⟨tw_491, List.forall_mem_append.mpr ⟨t2_X7_isOpen, List.forall_mem_append.mpr ⟨tc_wsX70, List.forall_mem_append.mpr ⟨tc_wsX80, List.forall_mem_append.mpr ⟨tl_J6_bitCount_0f7a4, tl_X0_isIn⟩⟩⟩⟩⟩
theorem t2_X7_weigh : ∀ w ∈ w2t_X7_weigh, w ∈ lw_tbl := List.forall_mem_cons.mpr ⟨tw_389, List.forall_mem_cons.mpr ⟨tw_417, List.forall_mem_cons.mpr ⟨tw_388, List.forall_mem_cons.mpr ⟨tw_386, List.forall_mem_cons.mpr ⟨tw_509, List.forall_mem_cons.mpr ⟨tw_508, List.forall_mem_cons.mpr ⟨tw_507, List.forall_mem_cons.mpr ⟨tw_506, List.forall_mem_cons.mpr ⟨tw_505, List.forall_mem_cons.mpr ⟨tw_416, List.forall_mem_cons.mpr ⟨tw_414, List.forall_mem_cons.mpr ⟨tw_504, List.forall_mem_cons.mpr ⟨tw_503, List.forall_mem_cons.mpr ⟨tw_502, List.forall_mem_cons.mpr ⟨tw_501, List.forall_mem_cons.mpr ⟨tw_500, List.forall_mem_cons.mpr ⟨tw_212, List.forall_mem_cons.mpr ⟨tw_136, List.forall_mem_cons.mpr ⟨tw_135, List.forall_mem_cons.mpr ⟨tw_120, List.forall_mem_cons.mpr ⟨tw_134, List.forall_mem_cons.mpr ⟨tw_133, List.forall_mem_cons.mpr ⟨tw_6, List.forall_mem_cons.mpr ⟨tw_499, List.forall_mem_cons.mpr ⟨tw_498, List.forall_mem_cons.mpr ⟨tw_497, List.forall_mem_cons.mpr ⟨tw_496, List.forall_mem_cons.mpr ⟨tw_413, List.forall_mem_cons.mpr ⟨tw_412, List.forall_mem_cons.mpr ⟨tw_110, List.forall_mem_cons.mpr ⟨tw_109, List.forall_mem_cons.mpr ⟨tw_66, List.forall_mem_cons.mpr ⟨tw_495, List.forall_mem_cons.mpr ⟨tw_494, List.forall_mem_cons.mpr ⟨tw_132, List.forall_mem_cons.mpr ⟨tw_131, List.forall_mem_cons.mpr ⟨tw_493, List.forall_mem_cons.mpr ⟨tw_492, fun _ h => absurd h List.not_mem_nil⟩⟩⟩⟩⟩⟩⟩⟩⟩⟩⟩⟩⟩⟩⟩⟩⟩⟩⟩⟩⟩⟩⟩⟩⟩⟩⟩⟩⟩⟩⟩⟩⟩⟩⟩⟩⟩⟩
theorem tl_X7_weigh : ∀ w ∈ w2_X7_weigh, w ∈ lw_tbl := List.forall_mem_cons.mpr ⟨tw_510, List.forall_mem_append.mpr ⟨t2_X7_weigh, List.forall_mem_append.mpr ⟨tc_wsX70, List.forall_mem_append.mpr ⟨tc_wsX80, List.forall_mem_append.mpr ⟨tl_X1_become, List.forall_mem_append.mpr ⟨tl_X5_copy, List.forall_mem_append.mpr ⟨tl_X5_divide, List.forall_mem_append.mpr ⟨tl_X5_forget, List.forall_mem_append.mpr ⟨tl_X5_lowerTo, List.forall_mem_append.mpr ⟨tl_X5_write, List.forall_mem_append.mpr ⟨tl_X7_addSmaller, List.forall_mem_append.mpr ⟨tl_X7_isOpen, List.forall_mem_append.mpr ⟨tl_X7_weight, tl_X8_pourFit⟩⟩⟩⟩⟩⟩⟩⟩⟩⟩⟩⟩⟩
theorem t2_X7_of : ∀ w ∈ w2t_X7_of, w ∈ lw_tbl := List.forall_mem_cons.mpr ⟨tw_210, List.forall_mem_cons.mpr ⟨tw_209, List.forall_mem_cons.mpr ⟨tw_377, List.forall_mem_cons.mpr ⟨tw_376, List.forall_mem_cons.mpr ⟨tw_389, List.forall_mem_cons.mpr ⟨tw_417, List.forall_mem_cons.mpr ⟨tw_462, List.forall_mem_cons.mpr ⟨tw_461, List.forall_mem_cons.mpr ⟨tw_522, List.forall_mem_cons.mpr ⟨tw_521, List.forall_mem_cons.mpr ⟨tw_469, List.forall_mem_cons.mpr ⟨tw_453, List.forall_mem_cons.mpr ⟨tw_520, List.forall_mem_cons.mpr ⟨tw_519, List.forall_mem_cons.mpr ⟨tw_518, List.forall_mem_cons.mpr ⟨tw_517, List.forall_mem_cons.mpr ⟨tw_212, List.forall_mem_cons.mpr ⟨tw_66, List.forall_mem_cons.mpr ⟨tw_516, List.forall_mem_cons.mpr ⟨tw_515, List.forall_mem_cons.mpr ⟨tw_467, List.forall_mem_cons.mpr ⟨tw_466, List.forall_mem_cons.mpr ⟨tw_452, List.forall_mem_cons.mpr ⟨tw_451, List.forall_mem_cons.mpr ⟨tw_514, List.forall_mem_cons.mpr ⟨tw_513, List.forall_mem_cons.mpr ⟨tw_512, List.forall_mem_cons.mpr ⟨tw_511, fun _ h => absurd h List.not_mem_nil⟩⟩⟩⟩⟩⟩⟩⟩⟩⟩⟩⟩⟩⟩⟩⟩⟩⟩⟩⟩⟩⟩⟩⟩⟩⟩⟩⟩
theorem tl_X7_of : ∀ w ∈ w2_X7_of, w ∈ lw_tbl := List.forall_mem_cons.mpr ⟨tw_523, List.forall_mem_append.mpr ⟨t2_X7_of, List.forall_mem_append.mpr ⟨tc_wsX30, List.forall_mem_append.mpr ⟨tc_wsX70, List.forall_mem_append.mpr ⟨tc_wsX80, List.forall_mem_append.mpr ⟨tl_X1_copy, List.forall_mem_append.mpr ⟨tl_X7_keepArc, List.forall_mem_append.mpr ⟨tl_X7_lower, List.forall_mem_append.mpr ⟨tl_X7_sum, List.forall_mem_append.mpr ⟨tl_X7_sumGraphs, tl_X7_weigh⟩⟩⟩⟩⟩⟩⟩⟩⟩⟩
theorem t2_X10_shareSize : ∀ w ∈ w2t_X10_shareSize, w ∈ lw_tbl := List.forall_mem_cons.mpr ⟨tw_1, List.forall_mem_cons.mpr ⟨tw_0, List.forall_mem_cons.mpr ⟨tw_540, List.forall_mem_cons.mpr ⟨tw_539, List.forall_mem_cons.mpr ⟨tw_538, List.forall_mem_cons.mpr ⟨tw_537, List.forall_mem_cons.mpr ⟨tw_536, List.forall_mem_cons.mpr ⟨tw_535, List.forall_mem_cons.mpr ⟨tw_534, List.forall_mem_cons.mpr ⟨tw_533, List.forall_mem_cons.mpr ⟨tw_9, List.forall_mem_cons.mpr ⟨tw_532, List.forall_mem_cons.mpr ⟨tw_531, List.forall_mem_cons.mpr ⟨tw_530, List.forall_mem_cons.mpr ⟨tw_212, List.forall_mem_cons.mpr ⟨tw_66, List.forall_mem_cons.mpr ⟨tw_140, List.forall_mem_cons.mpr ⟨tw_529, List.forall_mem_cons.mpr ⟨tw_528, List.forall_mem_cons.mpr ⟨tw_527, List.forall_mem_cons.mpr ⟨tw_526, List.forall_mem_cons.mpr ⟨tw_525, List.forall_mem_cons.mpr ⟨tw_524, fun _ h => absurd h List.not_mem_nil⟩⟩⟩⟩⟩⟩⟩⟩⟩⟩⟩⟩⟩⟩⟩⟩⟩⟩⟩⟩⟩⟩⟩
theorem tl_X10_shareSize : ∀ w ∈ w2_X10_shareSize, w ∈ lw_tbl := List.forall_mem_cons.mpr ⟨tw_541, List.forall_mem_append.mpr ⟨t2_X10_shareSize, List.forall_mem_append.mpr ⟨tc_wsX100, List.forall_mem_append.mpr ⟨tc_wsX80, List.forall_mem_append.mpr ⟨tl_X10_isPair, List.forall_mem_append.mpr ⟨tl_X10_isPart, List.forall_mem_append.mpr ⟨tl_X10_readyShares, List.forall_mem_append.mpr ⟨tl_X1_length, List.forall_mem_append.mpr ⟨tl_X3_side, tl_X7_of⟩⟩⟩⟩⟩⟩⟩⟩⟩
theorem t2_X10_wordOf : ∀ w ∈ w2t_X10_wordOf, w ∈ lw_tbl := List.forall_mem_cons.mpr ⟨tw_543, List.forall_mem_cons.mpr ⟨tw_535, List.forall_mem_cons.mpr ⟨tw_542, List.forall_mem_cons.mpr ⟨tw_525, List.forall_mem_cons.mpr ⟨tw_524, List.forall_mem_cons.mpr ⟨tw_66, List.forall_mem_cons.mpr ⟨tw_68, List.forall_mem_cons.mpr ⟨tw_67, fun _ h => absurd h List.not_mem_nil⟩⟩⟩⟩⟩⟩⟩⟩
theorem tl_X10_wordOf : ∀ w ∈ w2_X10_wordOf, w ∈ lw_tbl := List.forall_mem_cons.mpr ⟨tw_544, List.forall_mem_append.mpr ⟨t2_X10_wordOf, List.forall_mem_append.mpr ⟨tl_X1_at, tl_X1_length⟩⟩⟩
theorem t2_X10_shareWord : ∀ w ∈ w2t_X10_shareWord, w ∈ lw_tbl := List.forall_mem_cons.mpr ⟨tw_543, List.forall_mem_cons.mpr ⟨tw_1, List.forall_mem_cons.mpr ⟨tw_0, List.forall_mem_cons.mpr ⟨tw_547, List.forall_mem_cons.mpr ⟨tw_540, List.forall_mem_cons.mpr ⟨tw_539, List.forall_mem_cons.mpr ⟨tw_538, List.forall_mem_cons.mpr ⟨tw_537, List.forall_mem_cons.mpr ⟨tw_536, List.forall_mem_cons.mpr ⟨tw_546, List.forall_mem_cons.mpr ⟨tw_534, List.forall_mem_cons.mpr ⟨tw_533, List.forall_mem_cons.mpr ⟨tw_9, List.forall_mem_cons.mpr ⟨tw_532, List.forall_mem_cons.mpr ⟨tw_531, List.forall_mem_cons.mpr ⟨tw_530, List.forall_mem_cons.mpr ⟨tw_212, List.forall_mem_cons.mpr ⟨tw_140, List.forall_mem_cons.mpr ⟨tw_529, List.forall_mem_cons.mpr ⟨tw_528, List.forall_mem_cons.mpr ⟨tw_527, List.forall_mem_cons.mpr ⟨tw_526, List.forall_mem_cons.mpr ⟨tw_545, fun _ h => absurd h List.not_mem_nil⟩⟩⟩⟩⟩⟩⟩⟩⟩⟩⟩⟩⟩⟩⟩⟩⟩⟩⟩⟩⟩⟩⟩
theorem tl_X10_shareWord : ∀ w ∈ w2_X10_shareWord, w ∈ lw_tbl := List.forall_mem_cons.mpr ⟨tw_548, List.forall_mem_append.mpr ⟨t2_X10_shareWord, List.forall_mem_append.mpr ⟨tc_wsX100, List.forall_mem_append.mpr ⟨tc_wsX80, List.forall_mem_append.mpr ⟨tl_X10_isPair, List.forall_mem_append.mpr ⟨tl_X10_isPart, List.forall_mem_append.mpr ⟨tl_X10_readyShares, List.forall_mem_append.mpr ⟨tl_X10_wordOf, List.forall_mem_append.mpr ⟨tl_X3_side, tl_X7_of⟩⟩⟩⟩⟩⟩⟩⟩⟩
theorem t2_X2_ofGraph : ∀ w ∈ w2t_X2_ofGraph, w ∈ lw_tbl := List.forall_mem_cons.mpr ⟨tw_218, List.forall_mem_cons.mpr ⟨tw_151, List.forall_mem_cons.mpr ⟨tw_269, List.forall_mem_cons.mpr ⟨tw_150, List.forall_mem_cons.mpr ⟨tw_149, List.forall_mem_cons.mpr ⟨tw_169, List.forall_mem_cons.mpr ⟨tw_148, List.forall_mem_cons.mpr ⟨tw_147, List.forall_mem_cons.mpr ⟨tw_144, List.forall_mem_cons.mpr ⟨tw_167, List.forall_mem_cons.mpr ⟨tw_143, List.forall_mem_cons.mpr ⟨tw_142, List.forall_mem_cons.mpr ⟨tw_136, List.forall_mem_cons.mpr ⟨tw_135, List.forall_mem_cons.mpr ⟨tw_120, List.forall_mem_cons.mpr ⟨tw_27, List.forall_mem_cons.mpr ⟨tw_21, List.forall_mem_cons.mpr ⟨tw_134, List.forall_mem_cons.mpr ⟨tw_133, List.forall_mem_cons.mpr ⟨tw_6, List.forall_mem_cons.mpr ⟨tw_132, List.forall_mem_cons.mpr ⟨tw_131, fun _ h => absurd h List.not_mem_nil⟩⟩⟩⟩⟩⟩⟩⟩⟩⟩⟩⟩⟩⟩⟩⟩⟩⟩⟩⟩⟩⟩
theorem tl_X2_ofGraph : ∀ w ∈ w2_X2_ofGraph, w ∈ lw_tbl := List.forall_mem_cons.mpr ⟨tw_549, List.forall_mem_append.mpr ⟨t2_X2_ofGraph, List.forall_mem_append.mpr ⟨tc_wsX20, List.forall_mem_append.mpr ⟨tc_wsX30, List.forall_mem_append.mpr ⟨tc_wsX80, List.forall_mem_append.mpr ⟨tl_X0_parentsIn, List.forall_mem_append.mpr ⟨tl_X5_forget, List.forall_mem_append.mpr ⟨tl_X5_write, tl_X8_pourFit⟩⟩⟩⟩⟩⟩⟩⟩
theorem t2_X10_size : ∀ w ∈ w2t_X10_size, w ∈ lw_tbl := List.forall_mem_cons.mpr ⟨tw_226, List.forall_mem_cons.mpr ⟨tw_57, List.forall_mem_cons.mpr ⟨tw_539, List.forall_mem_cons.mpr ⟨tw_552, List.forall_mem_cons.mpr ⟨tw_536, List.forall_mem_cons.mpr ⟨tw_535, List.forall_mem_cons.mpr ⟨tw_54, List.forall_mem_cons.mpr ⟨tw_53, List.forall_mem_cons.mpr ⟨tw_9, List.forall_mem_cons.mpr ⟨tw_532, List.forall_mem_cons.mpr ⟨tw_551, List.forall_mem_cons.mpr ⟨tw_550, List.forall_mem_cons.mpr ⟨tw_161, List.forall_mem_cons.mpr ⟨tw_66, List.forall_mem_cons.mpr ⟨tw_527, List.forall_mem_cons.mpr ⟨tw_526, List.forall_mem_cons.mpr ⟨tw_140, List.forall_mem_cons.mpr ⟨tw_525, List.forall_mem_cons.mpr ⟨tw_524, fun _ h => absurd h List.not_mem_nil⟩⟩⟩⟩⟩⟩⟩⟩⟩⟩⟩⟩⟩⟩⟩⟩⟩⟩⟩
theorem tl_X10_size : ∀ w ∈ w2_X10_size, w ∈ lw_tbl := List.forall_mem_cons.mpr ⟨tw_553, List.forall_mem_append.mpr ⟨t2_X10_size, List.forall_mem_append.mpr ⟨tc_wsX100, List.forall_mem_append.mpr ⟨tl_X10_isGraph, List.forall_mem_append.mpr ⟨tl_X10_isPart, List.forall_mem_append.mpr ⟨tl_X1_length, List.forall_mem_append.mpr ⟨tl_X2_ofGraph, tl_X3_side⟩⟩⟩⟩⟩⟩⟩
theorem t2_X9_factorial : ∀ w ∈ w2t_X9_factorial, w ∈ lw_tbl := List.forall_mem_cons.mpr ⟨tw_554, fun _ h => absurd h List.not_mem_nil⟩
theorem tl_X9_factorial : ∀ w ∈ w2_X9_factorial, w ∈ lw_tbl := List.forall_mem_cons.mpr ⟨tw_555, t2_X9_factorial⟩
theorem t2_X9_deals : ∀ w ∈ w2t_X9_deals, w ∈ lw_tbl := List.forall_mem_cons.mpr ⟨tw_554, List.forall_mem_cons.mpr ⟨tw_557, List.forall_mem_cons.mpr ⟨tw_556, List.forall_mem_cons.mpr ⟨tw_291, fun _ h => absurd h List.not_mem_nil⟩⟩⟩⟩
theorem tl_X9_deals : ∀ w ∈ w2_X9_deals, w ∈ lw_tbl := List.forall_mem_cons.mpr ⟨tw_558, List.forall_mem_append.mpr ⟨t2_X9_deals, tl_X9_factorial⟩⟩
theorem t2_X9_second : ∀ w ∈ w2t_X9_second, w ∈ lw_tbl := List.forall_mem_cons.mpr ⟨tw_280, fun _ h => absurd h List.not_mem_nil⟩
theorem tl_X9_second : ∀ w ∈ w2_X9_second, w ∈ lw_tbl := List.forall_mem_cons.mpr ⟨tw_559, List.forall_mem_append.mpr ⟨t2_X9_second, tc_wsX90⟩⟩
theorem t2_X9_allWays : ∀ w ∈ w2t_X9_allWays, w ∈ lw_tbl := List.forall_mem_cons.mpr ⟨tw_564, List.forall_mem_cons.mpr ⟨tw_563, List.forall_mem_cons.mpr ⟨tw_562, List.forall_mem_cons.mpr ⟨tw_561, List.forall_mem_cons.mpr ⟨tw_291, List.forall_mem_cons.mpr ⟨tw_560, fun _ h => absurd h List.not_mem_nil⟩⟩⟩⟩⟩⟩
theorem tl_X9_allWays : ∀ w ∈ w2_X9_allWays, w ∈ lw_tbl := List.forall_mem_cons.mpr ⟨tw_565, List.forall_mem_append.mpr ⟨t2_X9_allWays, List.forall_mem_append.mpr ⟨tl_X9_deals, tl_X9_second⟩⟩⟩
theorem t2_X8_valueIn : ∀ w ∈ w2t_X8_valueIn, w ∈ lw_tbl := List.forall_mem_cons.mpr ⟨tw_126, List.forall_mem_cons.mpr ⟨tw_124, List.forall_mem_cons.mpr ⟨tw_123, List.forall_mem_cons.mpr ⟨tw_6, fun _ h => absurd h List.not_mem_nil⟩⟩⟩⟩
theorem tl_X8_valueIn : ∀ w ∈ w2_X8_valueIn, w ∈ lw_tbl := List.forall_mem_cons.mpr ⟨tw_566, List.forall_mem_append.mpr ⟨t2_X8_valueIn, tl_X8_codeOf⟩⟩
theorem t2_X9_cell : ∀ w ∈ w2t_X9_cell, w ∈ lw_tbl := List.forall_mem_cons.mpr ⟨tw_282, fun _ h => absurd h List.not_mem_nil⟩
theorem tl_X9_cell : ∀ w ∈ w2_X9_cell, w ∈ lw_tbl := List.forall_mem_cons.mpr ⟨tw_567, List.forall_mem_append.mpr ⟨t2_X9_cell, tc_wsX90⟩⟩
theorem t2_X9_count : ∀ w ∈ w2t_X9_count, w ∈ lw_tbl := List.forall_mem_cons.mpr ⟨tw_282, List.forall_mem_cons.mpr ⟨tw_283, List.forall_mem_cons.mpr ⟨tw_574, List.forall_mem_cons.mpr ⟨tw_281, List.forall_mem_cons.mpr ⟨tw_280, List.forall_mem_cons.mpr ⟨tw_573, List.forall_mem_cons.mpr ⟨tw_572, List.forall_mem_cons.mpr ⟨tw_571, List.forall_mem_cons.mpr ⟨tw_570, List.forall_mem_cons.mpr ⟨tw_6, List.forall_mem_cons.mpr ⟨tw_569, List.forall_mem_cons.mpr ⟨tw_568, List.forall_mem_cons.mpr ⟨tw_291, fun _ h => absurd h List.not_mem_nil⟩⟩⟩⟩⟩⟩⟩⟩⟩⟩⟩⟩⟩
theorem tl_X9_count : ∀ w ∈ w2_X9_count, w ∈ lw_tbl := List.forall_mem_cons.mpr ⟨tw_575, List.forall_mem_append.mpr ⟨t2_X9_count, List.forall_mem_append.mpr ⟨tc_wsX80, List.forall_mem_append.mpr ⟨tc_wsX90, List.forall_mem_append.mpr ⟨tl_X8_valueIn, tl_X9_cell⟩⟩⟩⟩⟩
theorem t2_X9_first : ∀ w ∈ w2t_X9_first, w ∈ lw_tbl := List.forall_mem_cons.mpr ⟨tw_281, fun _ h => absurd h List.not_mem_nil⟩
theorem tl_X9_first : ∀ w ∈ w2_X9_first, w ∈ lw_tbl := List.forall_mem_cons.mpr ⟨tw_576, List.forall_mem_append.mpr ⟨t2_X9_first, tc_wsX90⟩⟩
theorem t2_X9_waysWith : ∀ w ∈ w2t_X9_waysWith, w ∈ lw_tbl := List.forall_mem_cons.mpr ⟨tw_564, List.forall_mem_cons.mpr ⟨tw_579, List.forall_mem_cons.mpr ⟨tw_563, List.forall_mem_cons.mpr ⟨tw_562, List.forall_mem_cons.mpr ⟨tw_561, List.forall_mem_cons.mpr ⟨tw_291, List.forall_mem_cons.mpr ⟨tw_578, List.forall_mem_cons.mpr ⟨tw_577, List.forall_mem_cons.mpr ⟨tw_560, fun _ h => absurd h List.not_mem_nil⟩⟩⟩⟩⟩⟩⟩⟩⟩
theorem tl_X9_waysWith : ∀ w ∈ w2_X9_waysWith, w ∈ lw_tbl := List.forall_mem_cons.mpr ⟨tw_580, List.forall_mem_append.mpr ⟨t2_X9_waysWith, List.forall_mem_append.mpr ⟨tl_X9_deals, List.forall_mem_append.mpr ⟨tl_X9_first, tl_X9_second⟩⟩⟩⟩
theorem t2_X9_waysNotAbove : ∀ w ∈ w2t_X9_waysNotAbove, w ∈ lw_tbl := List.forall_mem_cons.mpr ⟨tw_572, List.forall_mem_cons.mpr ⟨tw_563, List.forall_mem_cons.mpr ⟨tw_579, List.forall_mem_cons.mpr ⟨tw_583, List.forall_mem_cons.mpr ⟨tw_569, List.forall_mem_cons.mpr ⟨tw_568, List.forall_mem_cons.mpr ⟨tw_291, List.forall_mem_cons.mpr ⟨tw_560, List.forall_mem_cons.mpr ⟨tw_578, List.forall_mem_cons.mpr ⟨tw_577, List.forall_mem_cons.mpr ⟨tw_582, List.forall_mem_cons.mpr ⟨tw_581, fun _ h => absurd h List.not_mem_nil⟩⟩⟩⟩⟩⟩⟩⟩⟩⟩⟩⟩
theorem tl_X9_waysNotAbove : ∀ w ∈ w2_X9_waysNotAbove, w ∈ lw_tbl := List.forall_mem_cons.mpr ⟨tw_584, List.forall_mem_append.mpr ⟨t2_X9_waysNotAbove, List.forall_mem_append.mpr ⟨tl_X9_cell, List.forall_mem_append.mpr ⟨tl_X9_deals, List.forall_mem_append.mpr ⟨tl_X9_first, tl_X9_waysWith⟩⟩⟩⟩⟩
theorem t2_X10_test : ∀ w ∈ w2t_X10_test, w ∈ lw_tbl := List.forall_mem_cons.mpr ⟨tw_543, List.forall_mem_cons.mpr ⟨tw_302, List.forall_mem_cons.mpr ⟨tw_540, List.forall_mem_cons.mpr ⟨tw_539, List.forall_mem_cons.mpr ⟨tw_356, List.forall_mem_cons.mpr ⟨tw_593, List.forall_mem_cons.mpr ⟨tw_592, List.forall_mem_cons.mpr ⟨tw_591, List.forall_mem_cons.mpr ⟨tw_534, List.forall_mem_cons.mpr ⟨tw_533, List.forall_mem_cons.mpr ⟨tw_9, List.forall_mem_cons.mpr ⟨tw_532, List.forall_mem_cons.mpr ⟨tw_355, List.forall_mem_cons.mpr ⟨tw_354, List.forall_mem_cons.mpr ⟨tw_590, List.forall_mem_cons.mpr ⟨tw_589, List.forall_mem_cons.mpr ⟨tw_291, List.forall_mem_cons.mpr ⟨tw_588, List.forall_mem_cons.mpr ⟨tw_587, List.forall_mem_cons.mpr ⟨tw_586, List.forall_mem_cons.mpr ⟨tw_585, fun _ h => absurd h List.not_mem_nil⟩⟩⟩⟩⟩⟩⟩⟩⟩⟩⟩⟩⟩⟩⟩⟩⟩⟩⟩⟩⟩
theorem tl_X10_test : ∀ w ∈ w2_X10_test, w ∈ lw_tbl := List.forall_mem_cons.mpr ⟨tw_594, List.forall_mem_append.mpr ⟨t2_X10_test, List.forall_mem_append.mpr ⟨tc_wsX100, List.forall_mem_append.mpr ⟨tl_X10_isPair, List.forall_mem_append.mpr ⟨tl_X10_isPart, List.forall_mem_append.mpr ⟨tl_X10_isValue, List.forall_mem_append.mpr ⟨tl_X9_allWays, List.forall_mem_append.mpr ⟨tl_X9_count, tl_X9_waysNotAbove⟩⟩⟩⟩⟩⟩⟩⟩
theorem t2_X10_value : ∀ w ∈ w2t_X10_value, w ∈ lw_tbl := List.forall_mem_cons.mpr ⟨tw_1, List.forall_mem_cons.mpr ⟨tw_267, List.forall_mem_cons.mpr ⟨tw_13, List.forall_mem_cons.mpr ⟨tw_595, List.forall_mem_cons.mpr ⟨tw_265, List.forall_mem_cons.mpr ⟨tw_264, List.forall_mem_cons.mpr ⟨tw_9, List.forall_mem_cons.mpr ⟨tw_11, List.forall_mem_cons.mpr ⟨tw_10, List.forall_mem_cons.mpr ⟨tw_571, List.forall_mem_cons.mpr ⟨tw_570, List.forall_mem_cons.mpr ⟨tw_6, fun _ h => absurd h List.not_mem_nil⟩⟩⟩⟩⟩⟩⟩⟩⟩⟩⟩⟩
theorem tl_X10_value : ∀ w ∈ w2_X10_value, w ∈ lw_tbl := List.forall_mem_cons.mpr ⟨tw_596, List.forall_mem_append.mpr ⟨t2_X10_value, List.forall_mem_append.mpr ⟨tc_wsX100, List.forall_mem_append.mpr ⟨tl_X10_isName, List.forall_mem_append.mpr ⟨tl_X10_isRow, tl_X8_valueIn⟩⟩⟩⟩⟩
theorem t2_X10_word : ∀ w ∈ w2t_X10_word, w ∈ lw_tbl := List.forall_mem_cons.mpr ⟨tw_543, List.forall_mem_cons.mpr ⟨tw_226, List.forall_mem_cons.mpr ⟨tw_57, List.forall_mem_cons.mpr ⟨tw_539, List.forall_mem_cons.mpr ⟨tw_552, List.forall_mem_cons.mpr ⟨tw_536, List.forall_mem_cons.mpr ⟨tw_546, List.forall_mem_cons.mpr ⟨tw_54, List.forall_mem_cons.mpr ⟨tw_53, List.forall_mem_cons.mpr ⟨tw_9, List.forall_mem_cons.mpr ⟨tw_532, List.forall_mem_cons.mpr ⟨tw_551, List.forall_mem_cons.mpr ⟨tw_550, List.forall_mem_cons.mpr ⟨tw_161, List.forall_mem_cons.mpr ⟨tw_527, List.forall_mem_cons.mpr ⟨tw_526, List.forall_mem_cons.mpr ⟨tw_140, List.forall_mem_cons.mpr ⟨tw_545, fun _ h => absurd h List.not_mem_nil⟩⟩⟩⟩⟩⟩⟩⟩⟩⟩⟩⟩⟩⟩⟩⟩⟩⟩
theorem tl_X10_word : ∀ w ∈ w2_X10_word, w ∈ lw_tbl := List.forall_mem_cons.mpr ⟨tw_597, List.forall_mem_append.mpr ⟨t2_X10_word, List.forall_mem_append.mpr ⟨tc_wsX100, List.forall_mem_append.mpr ⟨tl_X10_isGraph, List.forall_mem_append.mpr ⟨tl_X10_isPart, List.forall_mem_append.mpr ⟨tl_X10_wordOf, List.forall_mem_append.mpr ⟨tl_X2_ofGraph, tl_X3_side⟩⟩⟩⟩⟩⟩⟩
theorem t2_X11_about : ∀ w ∈ w2t_X11_about, w ∈ lw_tbl := List.forall_mem_cons.mpr ⟨tw_602, List.forall_mem_cons.mpr ⟨tw_601, List.forall_mem_cons.mpr ⟨tw_600, List.forall_mem_cons.mpr ⟨tw_599, List.forall_mem_cons.mpr ⟨tw_598, fun _ h => absurd h List.not_mem_nil⟩⟩⟩⟩⟩
theorem tl_X11_about : ∀ w ∈ w2_X11_about, w ∈ lw_tbl := List.forall_mem_cons.mpr ⟨tw_603, List.forall_mem_append.mpr ⟨t2_X11_about, tc_wsX110⟩⟩
theorem t2_X11_has : ∀ w ∈ w2t_X11_has, w ∈ lw_tbl := fun _ h => absurd h List.not_mem_nil
theorem tl_X11_has : ∀ w ∈ w2_X11_has, w ∈ lw_tbl := List.forall_mem_cons.mpr ⟨tw_604, t2_X11_has⟩
theorem t2_X11_touch : ∀ w ∈ w2t_X11_touch, w ∈ lw_tbl := List.forall_mem_cons.mpr ⟨tw_607, List.forall_mem_cons.mpr ⟨tw_606, List.forall_mem_cons.mpr ⟨tw_605, fun _ h => absurd h List.not_mem_nil⟩⟩⟩
theorem tl_X11_touch : ∀ w ∈ w2_X11_touch, w ∈ lw_tbl := List.forall_mem_cons.mpr ⟨tw_608, List.forall_mem_append.mpr ⟨t2_X11_touch, tl_X11_has⟩⟩
theorem t2_X11_isAlike : ∀ w ∈ w2t_X11_isAlike, w ∈ lw_tbl := List.forall_mem_cons.mpr ⟨tw_610, List.forall_mem_cons.mpr ⟨tw_607, List.forall_mem_cons.mpr ⟨tw_609, List.forall_mem_cons.mpr ⟨tw_605, List.forall_mem_cons.mpr ⟨tw_606, fun _ h => absurd h List.not_mem_nil⟩⟩⟩⟩⟩
theorem tl_X11_isAlike : ∀ w ∈ w2_X11_isAlike, w ∈ lw_tbl := List.forall_mem_cons.mpr ⟨tw_611, List.forall_mem_append.mpr ⟨t2_X11_isAlike, List.forall_mem_append.mpr ⟨tl_X11_has, tl_X11_touch⟩⟩⟩
theorem t2_X11_isSet : ∀ w ∈ w2t_X11_isSet, w ∈ lw_tbl := List.forall_mem_cons.mpr ⟨tw_602, fun _ h => absurd h List.not_mem_nil⟩
theorem tl_X11_isSet : ∀ w ∈ w2_X11_isSet, w ∈ lw_tbl := List.forall_mem_cons.mpr ⟨tw_612, List.forall_mem_append.mpr ⟨t2_X11_isSet, tc_wsX110⟩⟩
theorem t2_X11_parentsOf : ∀ w ∈ w2t_X11_parentsOf, w ∈ lw_tbl := fun _ h => absurd h List.not_mem_nil
theorem tl_X11_parentsOf : ∀ w ∈ w2_X11_parentsOf, w ∈ lw_tbl := List.forall_mem_cons.mpr ⟨tw_613, t2_X11_parentsOf⟩
theorem t2_X11_isGraph : ∀ w ∈ w2t_X11_isGraph, w ∈ lw_tbl := List.forall_mem_cons.mpr ⟨tw_619, List.forall_mem_cons.mpr ⟨tw_602, List.forall_mem_cons.mpr ⟨tw_618, List.forall_mem_cons.mpr ⟨tw_617, List.forall_mem_cons.mpr ⟨tw_616, List.forall_mem_cons.mpr ⟨tw_615, List.forall_mem_cons.mpr ⟨tw_605, List.forall_mem_cons.mpr ⟨tw_614, fun _ h => absurd h List.not_mem_nil⟩⟩⟩⟩⟩⟩⟩⟩
theorem tl_X11_isGraph : ∀ w ∈ w2_X11_isGraph, w ∈ lw_tbl := List.forall_mem_cons.mpr ⟨tw_620, List.forall_mem_append.mpr ⟨t2_X11_isGraph, List.forall_mem_append.mpr ⟨tc_wsX110, List.forall_mem_append.mpr ⟨tl_X11_isSet, tl_X11_parentsOf⟩⟩⟩⟩
theorem t2_X11_alike : ∀ w ∈ w2t_X11_alike, w ∈ lw_tbl := List.forall_mem_cons.mpr ⟨tw_625, List.forall_mem_cons.mpr ⟨tw_624, List.forall_mem_cons.mpr ⟨tw_623, List.forall_mem_cons.mpr ⟨tw_622, List.forall_mem_cons.mpr ⟨tw_605, List.forall_mem_cons.mpr ⟨tw_621, fun _ h => absurd h List.not_mem_nil⟩⟩⟩⟩⟩⟩
theorem tl_X11_alike : ∀ w ∈ w2_X11_alike, w ∈ lw_tbl := List.forall_mem_cons.mpr ⟨tw_626, List.forall_mem_append.mpr ⟨t2_X11_alike, List.forall_mem_append.mpr ⟨tl_X11_isAlike, tl_X11_isGraph⟩⟩⟩
theorem t2_X11_arcs : ∀ w ∈ w2t_X11_arcs, w ∈ lw_tbl := fun _ h => absurd h List.not_mem_nil
theorem tl_X11_arcs : ∀ w ∈ w2_X11_arcs, w ∈ lw_tbl := List.forall_mem_cons.mpr ⟨tw_627, t2_X11_arcs⟩
theorem t2_X11_bits : ∀ w ∈ w2t_X11_bits, w ∈ lw_tbl := fun _ h => absurd h List.not_mem_nil
theorem tl_X11_bits : ∀ w ∈ w2_X11_bits, w ∈ lw_tbl := List.forall_mem_cons.mpr ⟨tw_628, t2_X11_bits⟩
theorem t2_X11_copy : ∀ w ∈ w2t_X11_copy, w ∈ lw_tbl := fun _ h => absurd h List.not_mem_nil
theorem tl_X11_copy : ∀ w ∈ w2_X11_copy, w ∈ lw_tbl := List.forall_mem_cons.mpr ⟨tw_629, t2_X11_copy⟩
theorem t2_X11_compareTo : ∀ w ∈ w2t_X11_compareTo, w ∈ lw_tbl := List.forall_mem_cons.mpr ⟨tw_630, fun _ h => absurd h List.not_mem_nil⟩
theorem tl_X11_compareTo : ∀ w ∈ w2_X11_compareTo, w ∈ lw_tbl := List.forall_mem_cons.mpr ⟨tw_631, t2_X11_compareTo⟩
theorem t2_X11_trim : ∀ w ∈ w2t_X11_trim, w ∈ lw_tbl := fun _ h => absurd h List.not_mem_nil
theorem tl_X11_trim : ∀ w ∈ w2_X11_trim, w ∈ lw_tbl := List.forall_mem_cons.mpr ⟨tw_632, t2_X11_trim⟩
theorem t2_X11_halve : ∀ w ∈ w2t_X11_halve, w ∈ lw_tbl := List.forall_mem_cons.mpr ⟨tw_634, List.forall_mem_cons.mpr ⟨tw_633, List.forall_mem_cons.mpr ⟨tw_605, fun _ h => absurd h List.not_mem_nil⟩⟩⟩
theorem tl_X11_halve : ∀ w ∈ w2_X11_halve, w ∈ lw_tbl := List.forall_mem_cons.mpr ⟨tw_635, List.forall_mem_append.mpr ⟨t2_X11_halve, tl_X11_trim⟩⟩
theorem t2_X11_isEven : ∀ w ∈ w2t_X11_isEven, w ∈ lw_tbl := fun _ h => absurd h List.not_mem_nil
theorem tl_X11_isEven : ∀ w ∈ w2_X11_isEven, w ∈ lw_tbl := List.forall_mem_cons.mpr ⟨tw_636, t2_X11_isEven⟩
theorem t2_X11_less : ∀ w ∈ w2t_X11_less, w ∈ lw_tbl := List.forall_mem_cons.mpr ⟨tw_630, List.forall_mem_cons.mpr ⟨tw_634, List.forall_mem_cons.mpr ⟨tw_633, List.forall_mem_cons.mpr ⟨tw_605, fun _ h => absurd h List.not_mem_nil⟩⟩⟩⟩
theorem tl_X11_less : ∀ w ∈ w2_X11_less, w ∈ lw_tbl := List.forall_mem_cons.mpr ⟨tw_637, List.forall_mem_append.mpr ⟨t2_X11_less, tl_X11_trim⟩⟩
theorem t2_X11_twice : ∀ w ∈ w2t_X11_twice, w ∈ lw_tbl := List.forall_mem_cons.mpr ⟨tw_634, List.forall_mem_cons.mpr ⟨tw_633, List.forall_mem_cons.mpr ⟨tw_605, fun _ h => absurd h List.not_mem_nil⟩⟩⟩
theorem tl_X11_twice : ∀ w ∈ w2_X11_twice, w ∈ lw_tbl := List.forall_mem_cons.mpr ⟨tw_638, List.forall_mem_append.mpr ⟨t2_X11_twice, tl_X11_trim⟩⟩
theorem t2_X11_common : ∀ w ∈ w2t_X11_common, w ∈ lw_tbl := List.forall_mem_cons.mpr ⟨tw_653, List.forall_mem_cons.mpr ⟨tw_652, List.forall_mem_cons.mpr ⟨tw_651, List.forall_mem_cons.mpr ⟨tw_650, List.forall_mem_cons.mpr ⟨tw_649, List.forall_mem_cons.mpr ⟨tw_648, List.forall_mem_cons.mpr ⟨tw_647, List.forall_mem_cons.mpr ⟨tw_646, List.forall_mem_cons.mpr ⟨tw_645, List.forall_mem_cons.mpr ⟨tw_644, List.forall_mem_cons.mpr ⟨tw_605, List.forall_mem_cons.mpr ⟨tw_643, List.forall_mem_cons.mpr ⟨tw_642, List.forall_mem_cons.mpr ⟨tw_641, List.forall_mem_cons.mpr ⟨tw_640, List.forall_mem_cons.mpr ⟨tw_639, fun _ h => absurd h List.not_mem_nil⟩⟩⟩⟩⟩⟩⟩⟩⟩⟩⟩⟩⟩⟩⟩⟩
theorem tl_X11_common : ∀ w ∈ w2_X11_common, w ∈ lw_tbl := List.forall_mem_cons.mpr ⟨tw_654, List.forall_mem_append.mpr ⟨t2_X11_common, List.forall_mem_append.mpr ⟨tc_wsX110, List.forall_mem_append.mpr ⟨tl_X11_compareTo, List.forall_mem_append.mpr ⟨tl_X11_copy, List.forall_mem_append.mpr ⟨tl_X11_halve, List.forall_mem_append.mpr ⟨tl_X11_isEven, List.forall_mem_append.mpr ⟨tl_X11_less, tl_X11_twice⟩⟩⟩⟩⟩⟩⟩⟩
theorem t2_X11_divide : ∀ w ∈ w2t_X11_divide, w ∈ lw_tbl := List.forall_mem_cons.mpr ⟨tw_651, List.forall_mem_cons.mpr ⟨tw_653, List.forall_mem_cons.mpr ⟨tw_645, List.forall_mem_cons.mpr ⟨tw_634, List.forall_mem_cons.mpr ⟨tw_647, List.forall_mem_cons.mpr ⟨tw_646, List.forall_mem_cons.mpr ⟨tw_639, List.forall_mem_cons.mpr ⟨tw_605, List.forall_mem_cons.mpr ⟨tw_633, List.forall_mem_cons.mpr ⟨tw_641, List.forall_mem_cons.mpr ⟨tw_640, fun _ h => absurd h List.not_mem_nil⟩⟩⟩⟩⟩⟩⟩⟩⟩⟩⟩
theorem tl_X11_divide : ∀ w ∈ w2_X11_divide, w ∈ lw_tbl := List.forall_mem_cons.mpr ⟨tw_655, List.forall_mem_append.mpr ⟨t2_X11_divide, List.forall_mem_append.mpr ⟨tc_wsX110, List.forall_mem_append.mpr ⟨tl_X11_compareTo, List.forall_mem_append.mpr ⟨tl_X11_less, List.forall_mem_append.mpr ⟨tl_X11_trim, tl_X11_twice⟩⟩⟩⟩⟩⟩
theorem t2_X11_load : ∀ w ∈ w2t_X11_load, w ∈ lw_tbl := fun _ h => absurd h List.not_mem_nil
theorem tl_X11_load : ∀ w ∈ w2_X11_load, w ∈ lw_tbl := List.forall_mem_cons.mpr ⟨tw_656, t2_X11_load⟩
theorem t2_X11_place : ∀ w ∈ w2t_X11_place, w ∈ lw_tbl := fun _ h => absurd h List.not_mem_nil
theorem tl_X11_place : ∀ w ∈ w2_X11_place, w ∈ lw_tbl := List.forall_mem_cons.mpr ⟨tw_657, t2_X11_place⟩
theorem t2_X11_store : ∀ w ∈ w2t_X11_store, w ∈ lw_tbl := fun _ h => absurd h List.not_mem_nil
theorem tl_X11_store : ∀ w ∈ w2_X11_store, w ∈ lw_tbl := List.forall_mem_cons.mpr ⟨tw_658, t2_X11_store⟩
theorem t2_X11_agree : ∀ w ∈ w2t_X11_agree, w ∈ lw_tbl := List.forall_mem_cons.mpr ⟨tw_602, List.forall_mem_cons.mpr ⟨tw_659, fun _ h => absurd h List.not_mem_nil⟩⟩
theorem tl_X11_agree : ∀ w ∈ w2_X11_agree, w ∈ lw_tbl := List.forall_mem_cons.mpr ⟨tw_660, List.forall_mem_append.mpr ⟨t2_X11_agree, tc_wsX110⟩⟩
theorem t2_X11_grow : ∀ w ∈ w2t_X11_grow, w ∈ lw_tbl := List.forall_mem_cons.mpr ⟨tw_630, fun _ h => absurd h List.not_mem_nil⟩
theorem tl_X11_grow : ∀ w ∈ w2_X11_grow, w ∈ lw_tbl := List.forall_mem_cons.mpr ⟨tw_661, t2_X11_grow⟩
theorem t2_X11_work : ∀ w ∈ w2t_X11_work, w ∈ lw_tbl := List.forall_mem_cons.mpr ⟨tw_670, List.forall_mem_cons.mpr ⟨tw_669, List.forall_mem_cons.mpr ⟨tw_598, List.forall_mem_cons.mpr ⟨tw_602, List.forall_mem_cons.mpr ⟨tw_601, List.forall_mem_cons.mpr ⟨tw_659, List.forall_mem_cons.mpr ⟨tw_600, List.forall_mem_cons.mpr ⟨tw_668, List.forall_mem_cons.mpr ⟨tw_667, List.forall_mem_cons.mpr ⟨tw_666, List.forall_mem_cons.mpr ⟨tw_665, List.forall_mem_cons.mpr ⟨tw_605, List.forall_mem_cons.mpr ⟨tw_664, List.forall_mem_cons.mpr ⟨tw_663, List.forall_mem_cons.mpr ⟨tw_662, fun _ h => absurd h List.not_mem_nil⟩⟩⟩⟩⟩⟩⟩⟩⟩⟩⟩⟩⟩⟩⟩
theorem tl_X11_work : ∀ w ∈ w2_X11_work, w ∈ lw_tbl := List.forall_mem_cons.mpr ⟨tw_671, List.forall_mem_append.mpr ⟨t2_X11_work, List.forall_mem_append.mpr ⟨tc_wsX110, List.forall_mem_append.mpr ⟨tl_X11_agree, List.forall_mem_append.mpr ⟨tl_X11_grow, tl_X11_place⟩⟩⟩⟩⟩
theorem t2_X11_family : ∀ w ∈ w2t_X11_family, w ∈ lw_tbl := List.forall_mem_cons.mpr ⟨tw_687, List.forall_mem_cons.mpr ⟨tw_670, List.forall_mem_cons.mpr ⟨tw_686, List.forall_mem_cons.mpr ⟨tw_669, List.forall_mem_cons.mpr ⟨tw_685, List.forall_mem_cons.mpr ⟨tw_668, List.forall_mem_cons.mpr ⟨tw_684, List.forall_mem_cons.mpr ⟨tw_683, List.forall_mem_cons.mpr ⟨tw_682, List.forall_mem_cons.mpr ⟨tw_681, List.forall_mem_cons.mpr ⟨tw_680, List.forall_mem_cons.mpr ⟨tw_665, List.forall_mem_cons.mpr ⟨tw_605, List.forall_mem_cons.mpr ⟨tw_679, List.forall_mem_cons.mpr ⟨tw_678, List.forall_mem_cons.mpr ⟨tw_677, List.forall_mem_cons.mpr ⟨tw_676, List.forall_mem_cons.mpr ⟨tw_675, List.forall_mem_cons.mpr ⟨tw_674, List.forall_mem_cons.mpr ⟨tw_673, List.forall_mem_cons.mpr ⟨tw_672, fun _ h => absurd h List.not_mem_nil⟩⟩⟩⟩⟩⟩⟩⟩⟩⟩⟩⟩⟩⟩⟩⟩⟩⟩⟩⟩⟩
theorem tl_X11_family : ∀ w ∈ w2_X11_family, w ∈ lw_tbl := List.forall_mem_cons.mpr ⟨tw_688, List.forall_mem_append.mpr ⟨t2_X11_family, List.forall_mem_append.mpr ⟨tc_wsX110, List.forall_mem_append.mpr ⟨tl_X11_common, List.forall_mem_append.mpr ⟨tl_X11_divide, List.forall_mem_append.mpr ⟨tl_X11_load, List.forall_mem_append.mpr ⟨tl_X11_place, List.forall_mem_append.mpr ⟨tl_X11_store, tl_X11_work⟩⟩⟩⟩⟩⟩⟩⟩
theorem t2_X11_times : ∀ w ∈ w2t_X11_times, w ∈ lw_tbl := List.forall_mem_cons.mpr ⟨tw_630, List.forall_mem_cons.mpr ⟨tw_634, List.forall_mem_cons.mpr ⟨tw_633, List.forall_mem_cons.mpr ⟨tw_605, fun _ h => absurd h List.not_mem_nil⟩⟩⟩⟩
theorem tl_X11_times : ∀ w ∈ w2_X11_times, w ∈ lw_tbl := List.forall_mem_cons.mpr ⟨tw_689, List.forall_mem_append.mpr ⟨t2_X11_times, tl_X11_trim⟩⟩
theorem t2_X11_sign : ∀ w ∈ w2t_X11_sign, w ∈ lw_tbl := List.forall_mem_cons.mpr ⟨tw_697, List.forall_mem_cons.mpr ⟨tw_696, List.forall_mem_cons.mpr ⟨tw_695, List.forall_mem_cons.mpr ⟨tw_694, List.forall_mem_cons.mpr ⟨tw_693, List.forall_mem_cons.mpr ⟨tw_692, List.forall_mem_cons.mpr ⟨tw_691, List.forall_mem_cons.mpr ⟨tw_647, List.forall_mem_cons.mpr ⟨tw_690, List.forall_mem_cons.mpr ⟨tw_605, List.forall_mem_cons.mpr ⟨tw_641, fun _ h => absurd h List.not_mem_nil⟩⟩⟩⟩⟩⟩⟩⟩⟩⟩⟩
theorem tl_X11_sign : ∀ w ∈ w2_X11_sign, w ∈ lw_tbl := List.forall_mem_cons.mpr ⟨tw_698, List.forall_mem_append.mpr ⟨t2_X11_sign, List.forall_mem_append.mpr ⟨tc_wsX110, List.forall_mem_append.mpr ⟨tl_X11_compareTo, tl_X11_times⟩⟩⟩⟩
theorem t2_X11_bestParents : ∀ w ∈ w2t_X11_bestParents, w ∈ lw_tbl := List.forall_mem_cons.mpr ⟨tw_670, List.forall_mem_cons.mpr ⟨tw_694, List.forall_mem_cons.mpr ⟨tw_669, List.forall_mem_cons.mpr ⟨tw_696, List.forall_mem_cons.mpr ⟨tw_599, List.forall_mem_cons.mpr ⟨tw_697, List.forall_mem_cons.mpr ⟨tw_693, List.forall_mem_cons.mpr ⟨tw_706, List.forall_mem_cons.mpr ⟨tw_683, List.forall_mem_cons.mpr ⟨tw_650, List.forall_mem_cons.mpr ⟨tw_705, List.forall_mem_cons.mpr ⟨tw_704, List.forall_mem_cons.mpr ⟨tw_703, List.forall_mem_cons.mpr ⟨tw_702, List.forall_mem_cons.mpr ⟨tw_605, List.forall_mem_cons.mpr ⟨tw_677, List.forall_mem_cons.mpr ⟨tw_644, List.forall_mem_cons.mpr ⟨tw_701, List.forall_mem_cons.mpr ⟨tw_700, List.forall_mem_cons.mpr ⟨tw_699, fun _ h => absurd h List.not_mem_nil⟩⟩⟩⟩⟩⟩⟩⟩⟩⟩⟩⟩⟩⟩⟩⟩⟩⟩⟩⟩
theorem tl_X11_bestParents : ∀ w ∈ w2_X11_bestParents, w ∈ lw_tbl := List.forall_mem_cons.mpr ⟨tw_707, List.forall_mem_append.mpr ⟨t2_X11_bestParents, List.forall_mem_append.mpr ⟨tc_wsX110, List.forall_mem_append.mpr ⟨tl_X11_bits, List.forall_mem_append.mpr ⟨tl_X11_copy, List.forall_mem_append.mpr ⟨tl_X11_family, List.forall_mem_append.mpr ⟨tl_X11_load, tl_X11_sign⟩⟩⟩⟩⟩⟩⟩
theorem t2_X11_multiply : ∀ w ∈ w2t_X11_multiply, w ∈ lw_tbl := List.forall_mem_cons.mpr ⟨tw_709, List.forall_mem_cons.mpr ⟨tw_708, List.forall_mem_cons.mpr ⟨tw_683, List.forall_mem_cons.mpr ⟨tw_691, List.forall_mem_cons.mpr ⟨tw_650, List.forall_mem_cons.mpr ⟨tw_677, List.forall_mem_cons.mpr ⟨tw_605, List.forall_mem_cons.mpr ⟨tw_690, List.forall_mem_cons.mpr ⟨tw_644, fun _ h => absurd h List.not_mem_nil⟩⟩⟩⟩⟩⟩⟩⟩⟩
theorem tl_X11_multiply : ∀ w ∈ w2_X11_multiply, w ∈ lw_tbl := List.forall_mem_cons.mpr ⟨tw_710, List.forall_mem_append.mpr ⟨t2_X11_multiply, List.forall_mem_append.mpr ⟨tc_wsX110, List.forall_mem_append.mpr ⟨tl_X11_copy, List.forall_mem_append.mpr ⟨tl_X11_load, tl_X11_times⟩⟩⟩⟩⟩
theorem t2_X11_put : ∀ w ∈ w2t_X11_put, w ∈ lw_tbl := fun _ h => absurd h List.not_mem_nil
theorem tl_X11_put : ∀ w ∈ w2_X11_put, w ∈ lw_tbl := List.forall_mem_cons.mpr ⟨tw_711, t2_X11_put⟩
theorem t2_X11_fitIn : ∀ w ∈ w2t_X11_fitIn, w ∈ lw_tbl := List.forall_mem_cons.mpr ⟨tw_602, List.forall_mem_cons.mpr ⟨tw_670, List.forall_mem_cons.mpr ⟨tw_669, List.forall_mem_cons.mpr ⟨tw_716, List.forall_mem_cons.mpr ⟨tw_617, List.forall_mem_cons.mpr ⟨tw_706, List.forall_mem_cons.mpr ⟨tw_715, List.forall_mem_cons.mpr ⟨tw_714, List.forall_mem_cons.mpr ⟨tw_605, List.forall_mem_cons.mpr ⟨tw_614, List.forall_mem_cons.mpr ⟨tw_703, List.forall_mem_cons.mpr ⟨tw_702, List.forall_mem_cons.mpr ⟨tw_713, List.forall_mem_cons.mpr ⟨tw_712, fun _ h => absurd h List.not_mem_nil⟩⟩⟩⟩⟩⟩⟩⟩⟩⟩⟩⟩⟩⟩
theorem tl_X11_fitIn : ∀ w ∈ w2_X11_fitIn, w ∈ lw_tbl := List.forall_mem_cons.mpr ⟨tw_717, List.forall_mem_append.mpr ⟨t2_X11_fitIn, List.forall_mem_append.mpr ⟨tc_wsX110, List.forall_mem_append.mpr ⟨tl_X11_family, List.forall_mem_append.mpr ⟨tl_X11_multiply, List.forall_mem_append.mpr ⟨tl_X11_parentsOf, tl_X11_put⟩⟩⟩⟩⟩⟩
theorem t2_X11_signIn : ∀ w ∈ w2t_X11_signIn, w ∈ lw_tbl := List.forall_mem_cons.mpr ⟨tw_697, List.forall_mem_cons.mpr ⟨tw_693, List.forall_mem_cons.mpr ⟨tw_694, List.forall_mem_cons.mpr ⟨tw_696, List.forall_mem_cons.mpr ⟨tw_720, List.forall_mem_cons.mpr ⟨tw_704, List.forall_mem_cons.mpr ⟨tw_719, List.forall_mem_cons.mpr ⟨tw_718, List.forall_mem_cons.mpr ⟨tw_605, List.forall_mem_cons.mpr ⟨tw_700, List.forall_mem_cons.mpr ⟨tw_699, fun _ h => absurd h List.not_mem_nil⟩⟩⟩⟩⟩⟩⟩⟩⟩⟩⟩
theorem tl_X11_signIn : ∀ w ∈ w2_X11_signIn, w ∈ lw_tbl := List.forall_mem_cons.mpr ⟨tw_721, List.forall_mem_append.mpr ⟨t2_X11_signIn, List.forall_mem_append.mpr ⟨tc_wsX110, List.forall_mem_append.mpr ⟨tl_X11_fitIn, tl_X11_sign⟩⟩⟩⟩
theorem t2_X11_best : ∀ w ∈ w2t_X11_best, w ∈ lw_tbl := List.forall_mem_cons.mpr ⟨tw_730, List.forall_mem_cons.mpr ⟨tw_602, List.forall_mem_cons.mpr ⟨tw_729, List.forall_mem_cons.mpr ⟨tw_728, List.forall_mem_cons.mpr ⟨tw_727, List.forall_mem_cons.mpr ⟨tw_726, List.forall_mem_cons.mpr ⟨tw_725, List.forall_mem_cons.mpr ⟨tw_605, List.forall_mem_cons.mpr ⟨tw_724, List.forall_mem_cons.mpr ⟨tw_723, List.forall_mem_cons.mpr ⟨tw_722, fun _ h => absurd h List.not_mem_nil⟩⟩⟩⟩⟩⟩⟩⟩⟩⟩⟩
theorem tl_X11_best : ∀ w ∈ w2_X11_best, w ∈ lw_tbl := List.forall_mem_cons.mpr ⟨tw_731, List.forall_mem_append.mpr ⟨t2_X11_best, List.forall_mem_append.mpr ⟨tc_wsX110, List.forall_mem_append.mpr ⟨tl_X11_arcs, List.forall_mem_append.mpr ⟨tl_X11_bestParents, tl_X11_signIn⟩⟩⟩⟩⟩
theorem t2_X11_change : ∀ w ∈ w2t_X11_change, w ∈ lw_tbl := List.forall_mem_cons.mpr ⟨tw_687, List.forall_mem_cons.mpr ⟨tw_733, List.forall_mem_cons.mpr ⟨tw_732, fun _ h => absurd h List.not_mem_nil⟩⟩⟩
theorem tl_X11_change : ∀ w ∈ w2_X11_change, w ∈ lw_tbl := List.forall_mem_cons.mpr ⟨tw_734, List.forall_mem_append.mpr ⟨t2_X11_change, tc_wsX110⟩⟩
theorem t2_X11_clear : ∀ w ∈ w2t_X11_clear, w ∈ lw_tbl := List.forall_mem_cons.mpr ⟨tw_601, List.forall_mem_cons.mpr ⟨tw_602, List.forall_mem_cons.mpr ⟨tw_600, List.forall_mem_cons.mpr ⟨tw_599, List.forall_mem_cons.mpr ⟨tw_737, List.forall_mem_cons.mpr ⟨tw_736, List.forall_mem_cons.mpr ⟨tw_735, List.forall_mem_cons.mpr ⟨tw_605, fun _ h => absurd h List.not_mem_nil⟩⟩⟩⟩⟩⟩⟩⟩
theorem tl_X11_clear : ∀ w ∈ w2_X11_clear, w ∈ lw_tbl := List.forall_mem_cons.mpr ⟨tw_738, List.forall_mem_append.mpr ⟨t2_X11_clear, List.forall_mem_append.mpr ⟨tc_wsX110, tl_X11_change⟩⟩⟩
theorem t2_X11_isBounded : ∀ w ∈ w2t_X11_isBounded, w ∈ lw_tbl := List.forall_mem_cons.mpr ⟨tw_602, List.forall_mem_cons.mpr ⟨tw_599, List.forall_mem_cons.mpr ⟨tw_617, List.forall_mem_cons.mpr ⟨tw_705, List.forall_mem_cons.mpr ⟨tw_614, List.forall_mem_cons.mpr ⟨tw_605, List.forall_mem_cons.mpr ⟨tw_701, fun _ h => absurd h List.not_mem_nil⟩⟩⟩⟩⟩⟩⟩
theorem tl_X11_isBounded : ∀ w ∈ w2_X11_isBounded, w ∈ lw_tbl := List.forall_mem_cons.mpr ⟨tw_739, List.forall_mem_append.mpr ⟨t2_X11_isBounded, List.forall_mem_append.mpr ⟨tc_wsX110, List.forall_mem_append.mpr ⟨tl_X11_bits, tl_X11_parentsOf⟩⟩⟩⟩
theorem t2_X11_fit : ∀ w ∈ w2t_X11_fit, w ∈ lw_tbl := List.forall_mem_cons.mpr ⟨tw_602, List.forall_mem_cons.mpr ⟨tw_670, List.forall_mem_cons.mpr ⟨tw_669, List.forall_mem_cons.mpr ⟨tw_716, List.forall_mem_cons.mpr ⟨tw_617, List.forall_mem_cons.mpr ⟨tw_706, List.forall_mem_cons.mpr ⟨tw_715, List.forall_mem_cons.mpr ⟨tw_714, List.forall_mem_cons.mpr ⟨tw_605, List.forall_mem_cons.mpr ⟨tw_614, List.forall_mem_cons.mpr ⟨tw_703, List.forall_mem_cons.mpr ⟨tw_702, List.forall_mem_cons.mpr ⟨tw_713, List.forall_mem_cons.mpr ⟨tw_712, fun _ h => absurd h List.not_mem_nil⟩⟩⟩⟩⟩⟩⟩⟩⟩⟩⟩⟩⟩⟩
theorem tl_X11_fit : ∀ w ∈ w2_X11_fit, w ∈ lw_tbl := List.forall_mem_cons.mpr ⟨tw_740, List.forall_mem_append.mpr ⟨t2_X11_fit, List.forall_mem_append.mpr ⟨tc_wsX110, List.forall_mem_append.mpr ⟨tl_X11_family, List.forall_mem_append.mpr ⟨tl_X11_multiply, List.forall_mem_append.mpr ⟨tl_X11_parentsOf, tl_X11_put⟩⟩⟩⟩⟩⟩
theorem t2_X11_signOf : ∀ w ∈ w2t_X11_signOf, w ∈ lw_tbl := List.forall_mem_cons.mpr ⟨tw_697, List.forall_mem_cons.mpr ⟨tw_693, List.forall_mem_cons.mpr ⟨tw_694, List.forall_mem_cons.mpr ⟨tw_696, List.forall_mem_cons.mpr ⟨tw_743, List.forall_mem_cons.mpr ⟨tw_704, List.forall_mem_cons.mpr ⟨tw_742, List.forall_mem_cons.mpr ⟨tw_741, List.forall_mem_cons.mpr ⟨tw_605, List.forall_mem_cons.mpr ⟨tw_700, List.forall_mem_cons.mpr ⟨tw_699, fun _ h => absurd h List.not_mem_nil⟩⟩⟩⟩⟩⟩⟩⟩⟩⟩⟩
theorem tl_X11_signOf : ∀ w ∈ w2_X11_signOf, w ∈ lw_tbl := List.forall_mem_cons.mpr ⟨tw_744, List.forall_mem_append.mpr ⟨t2_X11_signOf, List.forall_mem_append.mpr ⟨tc_wsX110, List.forall_mem_append.mpr ⟨tl_X11_fit, tl_X11_sign⟩⟩⟩⟩
theorem t2_X11_better : ∀ w ∈ w2t_X11_better, w ∈ lw_tbl := List.forall_mem_cons.mpr ⟨tw_625, List.forall_mem_cons.mpr ⟨tw_750, List.forall_mem_cons.mpr ⟨tw_749, List.forall_mem_cons.mpr ⟨tw_623, List.forall_mem_cons.mpr ⟨tw_622, List.forall_mem_cons.mpr ⟨tw_605, List.forall_mem_cons.mpr ⟨tw_748, List.forall_mem_cons.mpr ⟨tw_747, List.forall_mem_cons.mpr ⟨tw_746, List.forall_mem_cons.mpr ⟨tw_745, fun _ h => absurd h List.not_mem_nil⟩⟩⟩⟩⟩⟩⟩⟩⟩⟩
theorem tl_X11_better : ∀ w ∈ w2_X11_better, w ∈ lw_tbl := List.forall_mem_cons.mpr ⟨tw_751, List.forall_mem_append.mpr ⟨t2_X11_better, List.forall_mem_append.mpr ⟨tl_X11_isBounded, List.forall_mem_append.mpr ⟨tl_X11_isGraph, tl_X11_signOf⟩⟩⟩⟩
theorem t2_X11_climb : ∀ w ∈ w2t_X11_climb, w ∈ lw_tbl := List.forall_mem_cons.mpr ⟨tw_602, List.forall_mem_cons.mpr ⟨tw_625, List.forall_mem_cons.mpr ⟨tw_750, List.forall_mem_cons.mpr ⟨tw_754, List.forall_mem_cons.mpr ⟨tw_749, List.forall_mem_cons.mpr ⟨tw_623, List.forall_mem_cons.mpr ⟨tw_622, List.forall_mem_cons.mpr ⟨tw_605, List.forall_mem_cons.mpr ⟨tw_748, List.forall_mem_cons.mpr ⟨tw_747, List.forall_mem_cons.mpr ⟨tw_753, List.forall_mem_cons.mpr ⟨tw_752, List.forall_mem_cons.mpr ⟨tw_746, List.forall_mem_cons.mpr ⟨tw_745, fun _ h => absurd h List.not_mem_nil⟩⟩⟩⟩⟩⟩⟩⟩⟩⟩⟩⟩⟩⟩
theorem tl_X11_climb : ∀ w ∈ w2_X11_climb, w ∈ lw_tbl := List.forall_mem_cons.mpr ⟨tw_755, List.forall_mem_append.mpr ⟨t2_X11_climb, List.forall_mem_append.mpr ⟨tc_wsX110, List.forall_mem_append.mpr ⟨tl_X11_better, List.forall_mem_append.mpr ⟨tl_X11_isBounded, List.forall_mem_append.mpr ⟨tl_X11_isGraph, tl_X11_signOf⟩⟩⟩⟩⟩⟩
theorem t2_X11_compare : ∀ w ∈ w2t_X11_compare, w ∈ lw_tbl := List.forall_mem_cons.mpr ⟨tw_625, List.forall_mem_cons.mpr ⟨tw_749, List.forall_mem_cons.mpr ⟨tw_623, List.forall_mem_cons.mpr ⟨tw_622, List.forall_mem_cons.mpr ⟨tw_605, List.forall_mem_cons.mpr ⟨tw_746, List.forall_mem_cons.mpr ⟨tw_745, fun _ h => absurd h List.not_mem_nil⟩⟩⟩⟩⟩⟩⟩
theorem tl_X11_compare : ∀ w ∈ w2_X11_compare, w ∈ lw_tbl := List.forall_mem_cons.mpr ⟨tw_756, List.forall_mem_append.mpr ⟨t2_X11_compare, List.forall_mem_append.mpr ⟨tl_X11_isGraph, tl_X11_signOf⟩⟩⟩
theorem t2_X11_drop : ∀ w ∈ w2t_X11_drop, w ∈ lw_tbl := List.forall_mem_cons.mpr ⟨tw_601, List.forall_mem_cons.mpr ⟨tw_659, List.forall_mem_cons.mpr ⟨tw_737, List.forall_mem_cons.mpr ⟨tw_736, List.forall_mem_cons.mpr ⟨tw_735, List.forall_mem_cons.mpr ⟨tw_605, fun _ h => absurd h List.not_mem_nil⟩⟩⟩⟩⟩⟩
theorem tl_X11_drop : ∀ w ∈ w2_X11_drop, w ∈ lw_tbl := List.forall_mem_cons.mpr ⟨tw_757, List.forall_mem_append.mpr ⟨t2_X11_drop, List.forall_mem_append.mpr ⟨tc_wsX110, tl_X11_change⟩⟩⟩
theorem t2_X11_init : ∀ w ∈ w2t_X11_init, w ∈ lw_tbl := List.forall_mem_cons.mpr ⟨tw_773, List.forall_mem_cons.mpr ⟨tw_598, List.forall_mem_cons.mpr ⟨tw_659, List.forall_mem_cons.mpr ⟨tw_600, List.forall_mem_cons.mpr ⟨tw_599, List.forall_mem_cons.mpr ⟨tw_653, List.forall_mem_cons.mpr ⟨tw_652, List.forall_mem_cons.mpr ⟨tw_651, List.forall_mem_cons.mpr ⟨tw_772, List.forall_mem_cons.mpr ⟨tw_771, List.forall_mem_cons.mpr ⟨tw_687, List.forall_mem_cons.mpr ⟨tw_670, List.forall_mem_cons.mpr ⟨tw_669, List.forall_mem_cons.mpr ⟨tw_686, List.forall_mem_cons.mpr ⟨tw_685, List.forall_mem_cons.mpr ⟨tw_709, List.forall_mem_cons.mpr ⟨tw_708, List.forall_mem_cons.mpr ⟨tw_697, List.forall_mem_cons.mpr ⟨tw_693, List.forall_mem_cons.mpr ⟨tw_694, List.forall_mem_cons.mpr ⟨tw_696, List.forall_mem_cons.mpr ⟨tw_695, List.forall_mem_cons.mpr ⟨tw_692, List.forall_mem_cons.mpr ⟨tw_733, List.forall_mem_cons.mpr ⟨tw_732, List.forall_mem_cons.mpr ⟨tw_730, List.forall_mem_cons.mpr ⟨tw_770, List.forall_mem_cons.mpr ⟨tw_769, List.forall_mem_cons.mpr ⟨tw_768, List.forall_mem_cons.mpr ⟨tw_767, List.forall_mem_cons.mpr ⟨tw_766, List.forall_mem_cons.mpr ⟨tw_765, List.forall_mem_cons.mpr ⟨tw_764, List.forall_mem_cons.mpr ⟨tw_763, List.forall_mem_cons.mpr ⟨tw_762, List.forall_mem_cons.mpr ⟨tw_761, List.forall_mem_cons.mpr ⟨tw_760, List.forall_mem_cons.mpr ⟨tw_759, List.forall_mem_cons.mpr ⟨tw_95, List.forall_mem_cons.mpr ⟨tw_94, List.forall_mem_cons.mpr ⟨tw_272, List.forall_mem_cons.mpr ⟨tw_758, fun _ h => absurd h List.not_mem_nil⟩⟩⟩⟩⟩⟩⟩⟩⟩⟩⟩⟩⟩⟩⟩⟩⟩⟩⟩⟩⟩⟩⟩⟩⟩⟩⟩⟩⟩⟩⟩⟩⟩⟩⟩⟩⟩⟩⟩⟩⟩⟩
theorem tl_X11_init : ∀ w ∈ w2_X11_init, w ∈ lw_tbl := List.forall_mem_cons.mpr ⟨tw_774, List.forall_mem_append.mpr ⟨t2_X11_init, tc_wsX110⟩⟩
theorem t2_X11_kin : ∀ w ∈ w2t_X11_kin, w ∈ lw_tbl := List.forall_mem_cons.mpr ⟨tw_770, List.forall_mem_cons.mpr ⟨tw_769, List.forall_mem_cons.mpr ⟨tw_619, List.forall_mem_cons.mpr ⟨tw_775, List.forall_mem_cons.mpr ⟨tw_625, List.forall_mem_cons.mpr ⟨tw_610, List.forall_mem_cons.mpr ⟨tw_624, List.forall_mem_cons.mpr ⟨tw_623, List.forall_mem_cons.mpr ⟨tw_622, List.forall_mem_cons.mpr ⟨tw_605, List.forall_mem_cons.mpr ⟨tw_609, List.forall_mem_cons.mpr ⟨tw_621, fun _ h => absurd h List.not_mem_nil⟩⟩⟩⟩⟩⟩⟩⟩⟩⟩⟩⟩
theorem tl_X11_kin : ∀ w ∈ w2_X11_kin, w ∈ lw_tbl := List.forall_mem_cons.mpr ⟨tw_776, List.forall_mem_append.mpr ⟨t2_X11_kin, List.forall_mem_append.mpr ⟨tc_wsX110, List.forall_mem_append.mpr ⟨tl_X11_isAlike, List.forall_mem_append.mpr ⟨tl_X11_isGraph, tl_X11_touch⟩⟩⟩⟩⟩
theorem t2_X11_name : ∀ w ∈ w2t_X11_name, w ∈ lw_tbl := List.forall_mem_cons.mpr ⟨tw_601, List.forall_mem_cons.mpr ⟨tw_602, List.forall_mem_cons.mpr ⟨tw_598, List.forall_mem_cons.mpr ⟨tw_737, List.forall_mem_cons.mpr ⟨tw_736, List.forall_mem_cons.mpr ⟨tw_735, List.forall_mem_cons.mpr ⟨tw_605, fun _ h => absurd h List.not_mem_nil⟩⟩⟩⟩⟩⟩⟩
theorem tl_X11_name : ∀ w ∈ w2_X11_name, w ∈ lw_tbl := List.forall_mem_cons.mpr ⟨tw_777, List.forall_mem_append.mpr ⟨t2_X11_name, List.forall_mem_append.mpr ⟨tc_wsX110, tl_X11_change⟩⟩⟩
theorem t2_X11_isName : ∀ w ∈ w2t_X11_isName, w ∈ lw_tbl := List.forall_mem_cons.mpr ⟨tw_602, fun _ h => absurd h List.not_mem_nil⟩
theorem tl_X11_isName : ∀ w ∈ w2_X11_isName, w ∈ lw_tbl := List.forall_mem_cons.mpr ⟨tw_778, List.forall_mem_append.mpr ⟨t2_X11_isName, tc_wsX110⟩⟩
theorem t2_X11_order : ∀ w ∈ w2t_X11_order, w ∈ lw_tbl := List.forall_mem_cons.mpr ⟨tw_625, List.forall_mem_cons.mpr ⟨tw_617, List.forall_mem_cons.mpr ⟨tw_781, List.forall_mem_cons.mpr ⟨tw_623, List.forall_mem_cons.mpr ⟨tw_622, List.forall_mem_cons.mpr ⟨tw_605, List.forall_mem_cons.mpr ⟨tw_614, List.forall_mem_cons.mpr ⟨tw_780, List.forall_mem_cons.mpr ⟨tw_779, fun _ h => absurd h List.not_mem_nil⟩⟩⟩⟩⟩⟩⟩⟩⟩
theorem tl_X11_order : ∀ w ∈ w2_X11_order, w ∈ lw_tbl := List.forall_mem_cons.mpr ⟨tw_782, List.forall_mem_append.mpr ⟨t2_X11_order, List.forall_mem_append.mpr ⟨tl_X11_isGraph, List.forall_mem_append.mpr ⟨tl_X11_isName, tl_X11_parentsOf⟩⟩⟩⟩
theorem t2_X11_parents : ∀ w ∈ w2t_X11_parents, w ∈ lw_tbl := List.forall_mem_cons.mpr ⟨tw_781, List.forall_mem_cons.mpr ⟨tw_618, List.forall_mem_cons.mpr ⟨tw_729, List.forall_mem_cons.mpr ⟨tw_780, List.forall_mem_cons.mpr ⟨tw_779, List.forall_mem_cons.mpr ⟨tw_605, List.forall_mem_cons.mpr ⟨tw_616, List.forall_mem_cons.mpr ⟨tw_615, List.forall_mem_cons.mpr ⟨tw_726, List.forall_mem_cons.mpr ⟨tw_725, fun _ h => absurd h List.not_mem_nil⟩⟩⟩⟩⟩⟩⟩⟩⟩⟩
theorem tl_X11_parents : ∀ w ∈ w2_X11_parents, w ∈ lw_tbl := List.forall_mem_cons.mpr ⟨tw_783, List.forall_mem_append.mpr ⟨t2_X11_parents, List.forall_mem_append.mpr ⟨tl_X11_bestParents, List.forall_mem_append.mpr ⟨tl_X11_isName, tl_X11_isSet⟩⟩⟩⟩
theorem t2_X11_isValue : ∀ w ∈ w2t_X11_isValue, w ∈ lw_tbl := List.forall_mem_cons.mpr ⟨tw_602, List.forall_mem_cons.mpr ⟨tw_598, fun _ h => absurd h List.not_mem_nil⟩⟩
theorem tl_X11_isValue : ∀ w ∈ w2_X11_isValue, w ∈ lw_tbl := List.forall_mem_cons.mpr ⟨tw_784, List.forall_mem_append.mpr ⟨t2_X11_isValue, tc_wsX110⟩⟩
theorem t2_X11_row : ∀ w ∈ w2t_X11_row, w ∈ lw_tbl := List.forall_mem_cons.mpr ⟨tw_602, List.forall_mem_cons.mpr ⟨tw_601, List.forall_mem_cons.mpr ⟨tw_659, List.forall_mem_cons.mpr ⟨tw_787, List.forall_mem_cons.mpr ⟨tw_737, List.forall_mem_cons.mpr ⟨tw_786, List.forall_mem_cons.mpr ⟨tw_785, List.forall_mem_cons.mpr ⟨tw_605, List.forall_mem_cons.mpr ⟨tw_736, List.forall_mem_cons.mpr ⟨tw_735, fun _ h => absurd h List.not_mem_nil⟩⟩⟩⟩⟩⟩⟩⟩⟩⟩
theorem tl_X11_row : ∀ w ∈ w2_X11_row, w ∈ lw_tbl := List.forall_mem_cons.mpr ⟨tw_788, List.forall_mem_append.mpr ⟨t2_X11_row, List.forall_mem_append.mpr ⟨tc_wsX110, List.forall_mem_append.mpr ⟨tl_X11_change, tl_X11_isValue⟩⟩⟩⟩
theorem t2_X11_set : ∀ w ∈ w2t_X11_set, w ∈ lw_tbl := List.forall_mem_cons.mpr ⟨tw_600, List.forall_mem_cons.mpr ⟨tw_599, List.forall_mem_cons.mpr ⟨tw_737, List.forall_mem_cons.mpr ⟨tw_736, List.forall_mem_cons.mpr ⟨tw_735, List.forall_mem_cons.mpr ⟨tw_605, fun _ h => absurd h List.not_mem_nil⟩⟩⟩⟩⟩⟩
theorem tl_X11_set : ∀ w ∈ w2_X11_set, w ∈ lw_tbl := List.forall_mem_cons.mpr ⟨tw_789, List.forall_mem_append.mpr ⟨t2_X11_set, List.forall_mem_append.mpr ⟨tc_wsX110, tl_X11_change⟩⟩⟩
theorem t2_X11_isPart : ∀ w ∈ w2t_X11_isPart, w ∈ lw_tbl := fun _ h => absurd h List.not_mem_nil
theorem tl_X11_isPart : ∀ w ∈ w2_X11_isPart, w ∈ lw_tbl := List.forall_mem_cons.mpr ⟨tw_790, t2_X11_isPart⟩
theorem t2_X11_shareFault : ∀ w ∈ w2t_X11_shareFault, w ∈ lw_tbl := List.forall_mem_cons.mpr ⟨tw_602, List.forall_mem_cons.mpr ⟨tw_781, List.forall_mem_cons.mpr ⟨tw_792, List.forall_mem_cons.mpr ⟨tw_780, List.forall_mem_cons.mpr ⟨tw_779, List.forall_mem_cons.mpr ⟨tw_605, List.forall_mem_cons.mpr ⟨tw_791, fun _ h => absurd h List.not_mem_nil⟩⟩⟩⟩⟩⟩⟩
theorem tl_X11_shareFault : ∀ w ∈ w2_X11_shareFault, w ∈ lw_tbl := List.forall_mem_cons.mpr ⟨tw_793, List.forall_mem_append.mpr ⟨t2_X11_shareFault, List.forall_mem_append.mpr ⟨tc_wsX110, List.forall_mem_append.mpr ⟨tl_X11_isName, tl_X11_isPart⟩⟩⟩⟩
theorem t2_X11_least : ∀ w ∈ w2t_X11_least, w ∈ lw_tbl := List.forall_mem_cons.mpr ⟨tw_772, List.forall_mem_cons.mpr ⟨tw_771, List.forall_mem_cons.mpr ⟨tw_716, List.forall_mem_cons.mpr ⟨tw_682, List.forall_mem_cons.mpr ⟨tw_681, List.forall_mem_cons.mpr ⟨tw_714, List.forall_mem_cons.mpr ⟨tw_605, List.forall_mem_cons.mpr ⟨tw_676, List.forall_mem_cons.mpr ⟨tw_675, List.forall_mem_cons.mpr ⟨tw_674, List.forall_mem_cons.mpr ⟨tw_673, fun _ h => absurd h List.not_mem_nil⟩⟩⟩⟩⟩⟩⟩⟩⟩⟩⟩
theorem tl_X11_least : ∀ w ∈ w2_X11_least, w ∈ lw_tbl := List.forall_mem_cons.mpr ⟨tw_794, List.forall_mem_append.mpr ⟨t2_X11_least, List.forall_mem_append.mpr ⟨tc_wsX110, List.forall_mem_append.mpr ⟨tl_X11_common, List.forall_mem_append.mpr ⟨tl_X11_divide, tl_X11_put⟩⟩⟩⟩⟩
theorem t2_X11_plus : ∀ w ∈ w2t_X11_plus, w ∈ lw_tbl := List.forall_mem_cons.mpr ⟨tw_630, List.forall_mem_cons.mpr ⟨tw_634, List.forall_mem_cons.mpr ⟨tw_633, List.forall_mem_cons.mpr ⟨tw_605, fun _ h => absurd h List.not_mem_nil⟩⟩⟩⟩
theorem tl_X11_plus : ∀ w ∈ w2_X11_plus, w ∈ lw_tbl := List.forall_mem_cons.mpr ⟨tw_795, List.forall_mem_append.mpr ⟨t2_X11_plus, tl_X11_trim⟩⟩
theorem t2_X11_whole : ∀ w ∈ w2t_X11_whole, w ∈ lw_tbl := List.forall_mem_cons.mpr ⟨tw_670, List.forall_mem_cons.mpr ⟨tw_765, List.forall_mem_cons.mpr ⟨tw_602, List.forall_mem_cons.mpr ⟨tw_669, List.forall_mem_cons.mpr ⟨tw_767, List.forall_mem_cons.mpr ⟨tw_706, List.forall_mem_cons.mpr ⟨tw_683, List.forall_mem_cons.mpr ⟨tw_680, List.forall_mem_cons.mpr ⟨tw_715, List.forall_mem_cons.mpr ⟨tw_703, List.forall_mem_cons.mpr ⟨tw_702, List.forall_mem_cons.mpr ⟨tw_605, List.forall_mem_cons.mpr ⟨tw_677, List.forall_mem_cons.mpr ⟨tw_672, List.forall_mem_cons.mpr ⟨tw_713, List.forall_mem_cons.mpr ⟨tw_712, fun _ h => absurd h List.not_mem_nil⟩⟩⟩⟩⟩⟩⟩⟩⟩⟩⟩⟩⟩⟩⟩⟩
theorem tl_X11_whole : ∀ w ∈ w2_X11_whole, w ∈ lw_tbl := List.forall_mem_cons.mpr ⟨tw_796, List.forall_mem_append.mpr ⟨t2_X11_whole, List.forall_mem_append.mpr ⟨tc_wsX110, List.forall_mem_append.mpr ⟨tl_X11_family, List.forall_mem_append.mpr ⟨tl_X11_load, List.forall_mem_append.mpr ⟨tl_X11_multiply, tl_X11_store⟩⟩⟩⟩⟩⟩
theorem t2_X11_sumUp : ∀ w ∈ w2t_X11_sumUp, w ∈ lw_tbl := List.forall_mem_cons.mpr ⟨tw_602, List.forall_mem_cons.mpr ⟨tw_762, List.forall_mem_cons.mpr ⟨tw_599, List.forall_mem_cons.mpr ⟨tw_767, List.forall_mem_cons.mpr ⟨tw_765, List.forall_mem_cons.mpr ⟨tw_768, List.forall_mem_cons.mpr ⟨tw_801, List.forall_mem_cons.mpr ⟨tw_683, List.forall_mem_cons.mpr ⟨tw_716, List.forall_mem_cons.mpr ⟨tw_705, List.forall_mem_cons.mpr ⟨tw_800, List.forall_mem_cons.mpr ⟨tw_799, List.forall_mem_cons.mpr ⟨tw_798, List.forall_mem_cons.mpr ⟨tw_605, List.forall_mem_cons.mpr ⟨tw_677, List.forall_mem_cons.mpr ⟨tw_714, List.forall_mem_cons.mpr ⟨tw_701, List.forall_mem_cons.mpr ⟨tw_797, fun _ h => absurd h List.not_mem_nil⟩⟩⟩⟩⟩⟩⟩⟩⟩⟩⟩⟩⟩⟩⟩⟩⟩⟩
theorem tl_X11_sumUp : ∀ w ∈ w2_X11_sumUp, w ∈ lw_tbl := List.forall_mem_cons.mpr ⟨tw_802, List.forall_mem_append.mpr ⟨t2_X11_sumUp, List.forall_mem_append.mpr ⟨tc_wsX110, List.forall_mem_append.mpr ⟨tl_X11_bits, List.forall_mem_append.mpr ⟨tl_X11_load, List.forall_mem_append.mpr ⟨tl_X11_plus, List.forall_mem_append.mpr ⟨tl_X11_put, tl_X11_whole⟩⟩⟩⟩⟩⟩⟩
theorem t2_X11_total : ∀ w ∈ w2t_X11_total, w ∈ lw_tbl := List.forall_mem_cons.mpr ⟨tw_766, List.forall_mem_cons.mpr ⟨tw_602, List.forall_mem_cons.mpr ⟨tw_764, List.forall_mem_cons.mpr ⟨tw_763, List.forall_mem_cons.mpr ⟨tw_765, List.forall_mem_cons.mpr ⟨tw_768, List.forall_mem_cons.mpr ⟨tw_805, List.forall_mem_cons.mpr ⟨tw_683, List.forall_mem_cons.mpr ⟨tw_646, List.forall_mem_cons.mpr ⟨tw_715, List.forall_mem_cons.mpr ⟨tw_716, List.forall_mem_cons.mpr ⟨tw_705, List.forall_mem_cons.mpr ⟨tw_800, List.forall_mem_cons.mpr ⟨tw_804, List.forall_mem_cons.mpr ⟨tw_803, List.forall_mem_cons.mpr ⟨tw_605, List.forall_mem_cons.mpr ⟨tw_677, List.forall_mem_cons.mpr ⟨tw_640, List.forall_mem_cons.mpr ⟨tw_713, List.forall_mem_cons.mpr ⟨tw_712, List.forall_mem_cons.mpr ⟨tw_714, List.forall_mem_cons.mpr ⟨tw_701, List.forall_mem_cons.mpr ⟨tw_797, fun _ h => absurd h List.not_mem_nil⟩⟩⟩⟩⟩⟩⟩⟩⟩⟩⟩⟩⟩⟩⟩⟩⟩⟩⟩⟩⟩⟩⟩
theorem tl_X11_total : ∀ w ∈ w2_X11_total, w ∈ lw_tbl := List.forall_mem_cons.mpr ⟨tw_806, List.forall_mem_append.mpr ⟨t2_X11_total, List.forall_mem_append.mpr ⟨tc_wsX110, List.forall_mem_append.mpr ⟨tl_X11_bits, List.forall_mem_append.mpr ⟨tl_X11_less, List.forall_mem_append.mpr ⟨tl_X11_load, List.forall_mem_append.mpr ⟨tl_X11_multiply, List.forall_mem_append.mpr ⟨tl_X11_plus, List.forall_mem_append.mpr ⟨tl_X11_put, tl_X11_sumUp⟩⟩⟩⟩⟩⟩⟩⟩⟩
theorem t2_X11_tellShare : ∀ w ∈ w2t_X11_tellShare, w ∈ lw_tbl := List.forall_mem_cons.mpr ⟨tw_732, List.forall_mem_cons.mpr ⟨tw_772, List.forall_mem_cons.mpr ⟨tw_771, List.forall_mem_cons.mpr ⟨tw_733, List.forall_mem_cons.mpr ⟨tw_812, List.forall_mem_cons.mpr ⟨tw_811, List.forall_mem_cons.mpr ⟨tw_810, List.forall_mem_cons.mpr ⟨tw_809, List.forall_mem_cons.mpr ⟨tw_605, List.forall_mem_cons.mpr ⟨tw_808, List.forall_mem_cons.mpr ⟨tw_807, fun _ h => absurd h List.not_mem_nil⟩⟩⟩⟩⟩⟩⟩⟩⟩⟩⟩
theorem tl_X11_tellShare : ∀ w ∈ w2_X11_tellShare, w ∈ lw_tbl := List.forall_mem_cons.mpr ⟨tw_813, List.forall_mem_append.mpr ⟨t2_X11_tellShare, List.forall_mem_append.mpr ⟨tc_wsX110, List.forall_mem_append.mpr ⟨tl_X11_least, tl_X11_total⟩⟩⟩⟩
theorem t2_X11_shareSize : ∀ w ∈ w2t_X11_shareSize, w ∈ lw_tbl := List.forall_mem_cons.mpr ⟨tw_772, List.forall_mem_cons.mpr ⟨tw_771, List.forall_mem_cons.mpr ⟨tw_819, List.forall_mem_cons.mpr ⟨tw_818, List.forall_mem_cons.mpr ⟨tw_817, List.forall_mem_cons.mpr ⟨tw_816, List.forall_mem_cons.mpr ⟨tw_605, List.forall_mem_cons.mpr ⟨tw_815, List.forall_mem_cons.mpr ⟨tw_814, fun _ h => absurd h List.not_mem_nil⟩⟩⟩⟩⟩⟩⟩⟩⟩
theorem tl_X11_shareSize : ∀ w ∈ w2_X11_shareSize, w ∈ lw_tbl := List.forall_mem_cons.mpr ⟨tw_820, List.forall_mem_append.mpr ⟨t2_X11_shareSize, List.forall_mem_append.mpr ⟨tc_wsX110, List.forall_mem_append.mpr ⟨tl_X11_shareFault, tl_X11_tellShare⟩⟩⟩⟩
theorem t2_X11_wordOf : ∀ w ∈ w2t_X11_wordOf, w ∈ lw_tbl := List.forall_mem_cons.mpr ⟨tw_772, List.forall_mem_cons.mpr ⟨tw_771, List.forall_mem_cons.mpr ⟨tw_821, List.forall_mem_cons.mpr ⟨tw_630, fun _ h => absurd h List.not_mem_nil⟩⟩⟩⟩
theorem tl_X11_wordOf : ∀ w ∈ w2_X11_wordOf, w ∈ lw_tbl := List.forall_mem_cons.mpr ⟨tw_822, List.forall_mem_append.mpr ⟨t2_X11_wordOf, tc_wsX110⟩⟩
theorem t2_X11_shareWord : ∀ w ∈ w2t_X11_shareWord, w ∈ lw_tbl := List.forall_mem_cons.mpr ⟨tw_819, List.forall_mem_cons.mpr ⟨tw_818, List.forall_mem_cons.mpr ⟨tw_825, List.forall_mem_cons.mpr ⟨tw_817, List.forall_mem_cons.mpr ⟨tw_816, List.forall_mem_cons.mpr ⟨tw_605, List.forall_mem_cons.mpr ⟨tw_815, List.forall_mem_cons.mpr ⟨tw_814, List.forall_mem_cons.mpr ⟨tw_824, List.forall_mem_cons.mpr ⟨tw_823, fun _ h => absurd h List.not_mem_nil⟩⟩⟩⟩⟩⟩⟩⟩⟩⟩
theorem tl_X11_shareWord : ∀ w ∈ w2_X11_shareWord, w ∈ lw_tbl := List.forall_mem_cons.mpr ⟨tw_826, List.forall_mem_append.mpr ⟨t2_X11_shareWord, List.forall_mem_append.mpr ⟨tl_X11_shareFault, List.forall_mem_append.mpr ⟨tl_X11_tellShare, tl_X11_wordOf⟩⟩⟩⟩
theorem t2_X11_tell : ∀ w ∈ w2t_X11_tell, w ∈ lw_tbl := List.forall_mem_cons.mpr ⟨tw_733, List.forall_mem_cons.mpr ⟨tw_772, List.forall_mem_cons.mpr ⟨tw_771, List.forall_mem_cons.mpr ⟨tw_732, List.forall_mem_cons.mpr ⟨tw_743, List.forall_mem_cons.mpr ⟨tw_811, List.forall_mem_cons.mpr ⟨tw_742, List.forall_mem_cons.mpr ⟨tw_741, List.forall_mem_cons.mpr ⟨tw_605, List.forall_mem_cons.mpr ⟨tw_808, List.forall_mem_cons.mpr ⟨tw_807, fun _ h => absurd h List.not_mem_nil⟩⟩⟩⟩⟩⟩⟩⟩⟩⟩⟩
theorem tl_X11_tell : ∀ w ∈ w2_X11_tell, w ∈ lw_tbl := List.forall_mem_cons.mpr ⟨tw_827, List.forall_mem_append.mpr ⟨t2_X11_tell, List.forall_mem_append.mpr ⟨tc_wsX110, List.forall_mem_append.mpr ⟨tl_X11_fit, tl_X11_least⟩⟩⟩⟩
theorem t2_X11_size : ∀ w ∈ w2t_X11_size, w ∈ lw_tbl := List.forall_mem_cons.mpr ⟨tw_772, List.forall_mem_cons.mpr ⟨tw_771, List.forall_mem_cons.mpr ⟨tw_625, List.forall_mem_cons.mpr ⟨tw_792, List.forall_mem_cons.mpr ⟨tw_830, List.forall_mem_cons.mpr ⟨tw_623, List.forall_mem_cons.mpr ⟨tw_622, List.forall_mem_cons.mpr ⟨tw_605, List.forall_mem_cons.mpr ⟨tw_791, List.forall_mem_cons.mpr ⟨tw_829, List.forall_mem_cons.mpr ⟨tw_828, fun _ h => absurd h List.not_mem_nil⟩⟩⟩⟩⟩⟩⟩⟩⟩⟩⟩
theorem tl_X11_size : ∀ w ∈ w2_X11_size, w ∈ lw_tbl := List.forall_mem_cons.mpr ⟨tw_831, List.forall_mem_append.mpr ⟨t2_X11_size, List.forall_mem_append.mpr ⟨tc_wsX110, List.forall_mem_append.mpr ⟨tl_X11_isGraph, List.forall_mem_append.mpr ⟨tl_X11_isPart, tl_X11_tell⟩⟩⟩⟩⟩
theorem t2_X11_lesser : ∀ w ∈ w2t_X11_lesser, w ∈ lw_tbl := fun _ h => absurd h List.not_mem_nil
theorem tl_X11_lesser : ∀ w ∈ w2_X11_lesser, w ∈ lw_tbl := List.forall_mem_cons.mpr ⟨tw_832, t2_X11_lesser⟩
theorem t2_X11_choose : ∀ w ∈ w2t_X11_choose, w ∈ lw_tbl := fun _ h => absurd h List.not_mem_nil
theorem tl_X11_choose : ∀ w ∈ w2_X11_choose, w ∈ lw_tbl := List.forall_mem_cons.mpr ⟨tw_833, t2_X11_choose⟩
theorem t2_X11_ways : ∀ w ∈ w2t_X11_ways, w ∈ lw_tbl := List.forall_mem_cons.mpr ⟨tw_835, List.forall_mem_cons.mpr ⟨tw_834, List.forall_mem_cons.mpr ⟨tw_605, fun _ h => absurd h List.not_mem_nil⟩⟩⟩
theorem tl_X11_ways : ∀ w ∈ w2_X11_ways, w ∈ lw_tbl := List.forall_mem_cons.mpr ⟨tw_836, List.forall_mem_append.mpr ⟨t2_X11_ways, tl_X11_choose⟩⟩
theorem t2_X11_test : ∀ w ∈ w2t_X11_test, w ∈ lw_tbl := List.forall_mem_cons.mpr ⟨tw_821, List.forall_mem_cons.mpr ⟨tw_598, List.forall_mem_cons.mpr ⟨tw_761, List.forall_mem_cons.mpr ⟨tw_760, List.forall_mem_cons.mpr ⟨tw_759, List.forall_mem_cons.mpr ⟨tw_601, List.forall_mem_cons.mpr ⟨tw_659, List.forall_mem_cons.mpr ⟨tw_781, List.forall_mem_cons.mpr ⟨tw_792, List.forall_mem_cons.mpr ⟨tw_840, List.forall_mem_cons.mpr ⟨tw_839, List.forall_mem_cons.mpr ⟨tw_780, List.forall_mem_cons.mpr ⟨tw_779, List.forall_mem_cons.mpr ⟨tw_605, List.forall_mem_cons.mpr ⟨tw_791, List.forall_mem_cons.mpr ⟨tw_838, List.forall_mem_cons.mpr ⟨tw_837, fun _ h => absurd h List.not_mem_nil⟩⟩⟩⟩⟩⟩⟩⟩⟩⟩⟩⟩⟩⟩⟩⟩⟩
theorem tl_X11_test : ∀ w ∈ w2_X11_test, w ∈ lw_tbl := List.forall_mem_cons.mpr ⟨tw_841, List.forall_mem_append.mpr ⟨t2_X11_test, List.forall_mem_append.mpr ⟨tc_wsX110, List.forall_mem_append.mpr ⟨tl_X11_isName, List.forall_mem_append.mpr ⟨tl_X11_isPart, List.forall_mem_append.mpr ⟨tl_X11_lesser, tl_X11_ways⟩⟩⟩⟩⟩⟩
theorem t2_X11_value : ∀ w ∈ w2t_X11_value, w ∈ lw_tbl := List.forall_mem_cons.mpr ⟨tw_601, List.forall_mem_cons.mpr ⟨tw_659, List.forall_mem_cons.mpr ⟨tw_781, List.forall_mem_cons.mpr ⟨tw_780, List.forall_mem_cons.mpr ⟨tw_779, List.forall_mem_cons.mpr ⟨tw_605, fun _ h => absurd h List.not_mem_nil⟩⟩⟩⟩⟩⟩
theorem tl_X11_value : ∀ w ∈ w2_X11_value, w ∈ lw_tbl := List.forall_mem_cons.mpr ⟨tw_842, List.forall_mem_append.mpr ⟨t2_X11_value, List.forall_mem_append.mpr ⟨tc_wsX110, tl_X11_isName⟩⟩⟩
theorem t2_X11_word : ∀ w ∈ w2t_X11_word, w ∈ lw_tbl := List.forall_mem_cons.mpr ⟨tw_821, List.forall_mem_cons.mpr ⟨tw_625, List.forall_mem_cons.mpr ⟨tw_792, List.forall_mem_cons.mpr ⟨tw_830, List.forall_mem_cons.mpr ⟨tw_825, List.forall_mem_cons.mpr ⟨tw_623, List.forall_mem_cons.mpr ⟨tw_622, List.forall_mem_cons.mpr ⟨tw_605, List.forall_mem_cons.mpr ⟨tw_791, List.forall_mem_cons.mpr ⟨tw_829, List.forall_mem_cons.mpr ⟨tw_828, List.forall_mem_cons.mpr ⟨tw_824, List.forall_mem_cons.mpr ⟨tw_823, fun _ h => absurd h List.not_mem_nil⟩⟩⟩⟩⟩⟩⟩⟩⟩⟩⟩⟩⟩
theorem tl_X11_word : ∀ w ∈ w2_X11_word, w ∈ lw_tbl := List.forall_mem_cons.mpr ⟨tw_843, List.forall_mem_append.mpr ⟨t2_X11_word, List.forall_mem_append.mpr ⟨tl_X11_isGraph, List.forall_mem_append.mpr ⟨tl_X11_isPart, List.forall_mem_append.mpr ⟨tl_X11_tell, tl_X11_wordOf⟩⟩⟩⟩⟩
theorem t2_L_law : ∀ w ∈ w2t_L_law, w ∈ lw_tbl := List.forall_mem_cons.mpr ⟨tw_967, List.forall_mem_cons.mpr ⟨tw_966, List.forall_mem_cons.mpr ⟨tw_965, List.forall_mem_cons.mpr ⟨tw_964, List.forall_mem_cons.mpr ⟨tw_963, List.forall_mem_cons.mpr ⟨tw_962, List.forall_mem_cons.mpr ⟨tw_961, List.forall_mem_cons.mpr ⟨tw_960, List.forall_mem_cons.mpr ⟨tw_959, List.forall_mem_cons.mpr ⟨tw_958, List.forall_mem_cons.mpr ⟨tw_957, List.forall_mem_cons.mpr ⟨tw_956, List.forall_mem_cons.mpr ⟨tw_955, List.forall_mem_cons.mpr ⟨tw_954, List.forall_mem_cons.mpr ⟨tw_953, List.forall_mem_cons.mpr ⟨tw_952, List.forall_mem_cons.mpr ⟨tw_951, List.forall_mem_cons.mpr ⟨tw_950, List.forall_mem_cons.mpr ⟨tw_949, List.forall_mem_cons.mpr ⟨tw_948, List.forall_mem_cons.mpr ⟨tw_947, List.forall_mem_cons.mpr ⟨tw_946, List.forall_mem_cons.mpr ⟨tw_945, List.forall_mem_cons.mpr ⟨tw_944, List.forall_mem_cons.mpr ⟨tw_943, List.forall_mem_cons.mpr ⟨tw_942, List.forall_mem_cons.mpr ⟨tw_941, List.forall_mem_cons.mpr ⟨tw_940, List.forall_mem_cons.mpr ⟨tw_939, List.forall_mem_cons.mpr ⟨tw_938, List.forall_mem_cons.mpr ⟨tw_937, List.forall_mem_cons.mpr ⟨tw_936, List.forall_mem_cons.mpr ⟨tw_935, List.forall_mem_cons.mpr ⟨tw_934, List.forall_mem_cons.mpr ⟨tw_933, List.forall_mem_cons.mpr ⟨tw_932, List.forall_mem_cons.mpr ⟨tw_931, List.forall_mem_cons.mpr ⟨tw_930, List.forall_mem_cons.mpr ⟨tw_929, List.forall_mem_cons.mpr ⟨tw_928, List.forall_mem_cons.mpr ⟨tw_927, List.forall_mem_cons.mpr ⟨tw_926, List.forall_mem_cons.mpr ⟨tw_925, List.forall_mem_cons.mpr ⟨tw_924, List.forall_mem_cons.mpr ⟨tw_923, List.forall_mem_cons.mpr ⟨tw_9, List.forall_mem_cons.mpr ⟨tw_922, List.forall_mem_cons.mpr ⟨tw_605, List.forall_mem_cons.mpr ⟨tw_921, List.forall_mem_cons.mpr ⟨tw_920, List.forall_mem_cons.mpr ⟨tw_919, List.forall_mem_cons.mpr ⟨tw_918, List.forall_mem_cons.mpr ⟨tw_917, List.forall_mem_cons.mpr ⟨tw_916, List.forall_mem_cons.mpr ⟨tw_915, List.forall_mem_cons.mpr ⟨tw_914, List.forall_mem_cons.mpr ⟨tw_913, List.forall_mem_cons.mpr ⟨tw_912, List.forall_mem_cons.mpr ⟨tw_911, List.forall_mem_cons.mpr ⟨tw_910, List.forall_mem_cons.mpr ⟨tw_909, List.forall_mem_cons.mpr ⟨tw_908, List.forall_mem_cons.mpr ⟨tw_907, List.forall_mem_cons.mpr ⟨tw_906, List.forall_mem_cons.mpr ⟨tw_905, List.forall_mem_cons.mpr ⟨tw_904, List.forall_mem_cons.mpr ⟨tw_903, List.forall_mem_cons.mpr ⟨tw_902, List.forall_mem_cons.mpr ⟨tw_901, List.forall_mem_cons.mpr ⟨tw_900, List.forall_mem_cons.mpr ⟨tw_899, List.forall_mem_cons.mpr ⟨tw_898, List.forall_mem_cons.mpr ⟨tw_897, List.forall_mem_cons.mpr ⟨tw_896, List.forall_mem_cons.mpr ⟨tw_895, List.forall_mem_cons.mpr ⟨tw_894, List.forall_mem_cons.mpr ⟨tw_893, List.forall_mem_cons.mpr ⟨tw_892, List.forall_mem_cons.mpr ⟨tw_54, List.forall_mem_cons.mpr ⟨tw_53, List.forall_mem_cons.mpr ⟨tw_623, List.forall_mem_cons.mpr ⟨tw_622, List.forall_mem_cons.mpr ⟨tw_891, List.forall_mem_cons.mpr ⟨tw_890, List.forall_mem_cons.mpr ⟨tw_889, List.forall_mem_cons.mpr ⟨tw_888, List.forall_mem_cons.mpr ⟨tw_887, List.forall_mem_cons.mpr ⟨tw_886, List.forall_mem_cons.mpr ⟨tw_885, List.forall_mem_cons.mpr ⟨tw_884, List.forall_mem_cons.mpr ⟨tw_883, List.forall_mem_cons.mpr ⟨tw_882, List.forall_mem_cons.mpr ⟨tw_881, List.forall_mem_cons.mpr ⟨tw_880, List.forall_mem_cons.mpr ⟨tw_879, List.forall_mem_cons.mpr ⟨tw_878, List.forall_mem_cons.mpr ⟨tw_877, List.forall_mem_cons.mpr ⟨tw_876, List.forall_mem_cons.mpr ⟨tw_875, List.forall_mem_cons.mpr ⟨tw_874, List.forall_mem_cons.mpr ⟨tw_873, List.forall_mem_cons.mpr ⟨tw_872, List.forall_mem_cons.mpr ⟨tw_871, List.forall_mem_cons.mpr ⟨tw_870, List.forall_mem_cons.mpr ⟨tw_869, List.forall_mem_cons.mpr ⟨tw_868, List.forall_mem_cons.mpr ⟨tw_867, List.forall_mem_cons.mpr ⟨tw_866, List.forall_mem_cons.mpr ⟨tw_865, List.forall_mem_cons.mpr ⟨tw_864, List.forall_mem_cons.mpr ⟨tw_863, List.forall_mem_cons.mpr ⟨tw_862, List.forall_mem_cons.mpr ⟨tw_861, List.forall_mem_cons.mpr ⟨tw_860, List.forall_mem_cons.mpr ⟨tw_859, List.forall_mem_cons.mpr ⟨tw_858, List.forall_mem_cons.mpr ⟨tw_857, List.forall_mem_cons.mpr ⟨tw_856, List.forall_mem_cons.mpr ⟨tw_855, List.forall_mem_cons.mpr ⟨tw_854, List.forall_mem_cons.mpr ⟨tw_853, List.forall_mem_cons.mpr ⟨tw_852, List.forall_mem_cons.mpr ⟨tw_851, List.forall_mem_cons.mpr ⟨tw_850, List.forall_mem_cons.mpr ⟨tw_849, List.forall_mem_cons.mpr ⟨tw_848, List.forall_mem_cons.mpr ⟨tw_847, List.forall_mem_cons.mpr ⟨tw_846, List.forall_mem_cons.mpr ⟨tw_845, List.forall_mem_cons.mpr ⟨tw_844, fun _ h => absurd h List.not_mem_nil⟩⟩⟩⟩⟩⟩⟩⟩⟩⟩⟩⟩⟩⟩⟩⟩⟩⟩⟩⟩⟩⟩⟩⟩⟩⟩⟩⟩⟩⟩⟩⟩⟩⟩⟩⟩⟩⟩⟩⟩⟩⟩⟩⟩⟩⟩⟩⟩⟩⟩⟩⟩⟩⟩⟩⟩⟩⟩⟩⟩⟩⟩⟩⟩⟩⟩⟩⟩⟩⟩⟩⟩⟩⟩⟩⟩⟩⟩⟩⟩⟩⟩⟩⟩⟩⟩⟩⟩⟩⟩⟩⟩⟩⟩⟩⟩⟩⟩⟩⟩⟩⟩⟩⟩⟩⟩⟩⟩⟩⟩⟩⟩⟩⟩⟩⟩⟩⟩⟩⟩⟩⟩⟩⟩⟩⟩⟩⟩⟩⟩
theorem tl_L_law : ∀ w ∈ w2_L_law, w ∈ lw_tbl := List.forall_mem_append.mpr ⟨t2_L_law, List.forall_mem_append.mpr ⟨tc_wsX100, List.forall_mem_append.mpr ⟨tc_wsX110, List.forall_mem_append.mpr ⟨tl_X10_about, List.forall_mem_append.mpr ⟨tl_X10_alike, List.forall_mem_append.mpr ⟨tl_X10_best, List.forall_mem_append.mpr ⟨tl_X10_clear, List.forall_mem_append.mpr ⟨tl_X10_climb, List.forall_mem_append.mpr ⟨tl_X10_compare, List.forall_mem_append.mpr ⟨tl_X10_drop, List.forall_mem_append.mpr ⟨tl_X10_init, List.forall_mem_append.mpr ⟨tl_X10_isGraph, List.forall_mem_append.mpr ⟨tl_X10_kin, List.forall_mem_append.mpr ⟨tl_X10_name, List.forall_mem_append.mpr ⟨tl_X10_order, List.forall_mem_append.mpr ⟨tl_X10_parents, List.forall_mem_append.mpr ⟨tl_X10_row, List.forall_mem_append.mpr ⟨tl_X10_set, List.forall_mem_append.mpr ⟨tl_X10_shareSize, List.forall_mem_append.mpr ⟨tl_X10_shareWord, List.forall_mem_append.mpr ⟨tl_X10_size, List.forall_mem_append.mpr ⟨tl_X10_test, List.forall_mem_append.mpr ⟨tl_X10_value, List.forall_mem_append.mpr ⟨tl_X10_word, List.forall_mem_append.mpr ⟨tl_X11_about, List.forall_mem_append.mpr ⟨tl_X11_alike, List.forall_mem_append.mpr ⟨tl_X11_best, List.forall_mem_append.mpr ⟨tl_X11_clear, List.forall_mem_append.mpr ⟨tl_X11_climb, List.forall_mem_append.mpr ⟨tl_X11_compare, List.forall_mem_append.mpr ⟨tl_X11_drop, List.forall_mem_append.mpr ⟨tl_X11_init, List.forall_mem_append.mpr ⟨tl_X11_isGraph, List.forall_mem_append.mpr ⟨tl_X11_kin, List.forall_mem_append.mpr ⟨tl_X11_name, List.forall_mem_append.mpr ⟨tl_X11_order, List.forall_mem_append.mpr ⟨tl_X11_parents, List.forall_mem_append.mpr ⟨tl_X11_row, List.forall_mem_append.mpr ⟨tl_X11_set, List.forall_mem_append.mpr ⟨tl_X11_shareSize, List.forall_mem_append.mpr ⟨tl_X11_shareWord, List.forall_mem_append.mpr ⟨tl_X11_size, List.forall_mem_append.mpr ⟨tl_X11_test, List.forall_mem_append.mpr ⟨tl_X11_value, tl_X11_word⟩⟩⟩⟩⟩⟩⟩⟩⟩⟩⟩⟩⟩⟩⟩⟩⟩⟩⟩⟩⟩⟩⟩⟩⟩⟩⟩⟩⟩⟩⟩⟩⟩⟩⟩⟩⟩⟩⟩⟩⟩⟩⟩⟩
