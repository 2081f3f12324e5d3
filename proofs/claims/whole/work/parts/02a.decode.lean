theorem dX0_init_0 : decode cX0_init 0 = .ok (.aload_n 0, 1) := by decide +kernel
theorem dX0_init_1 : decode cX0_init 1 = .ok (.invokespecial 3, 3) := by decide +kernel
theorem dX0_init_4 : decode cX0_init 4 = .ok (.aload_n 0, 1) := by decide +kernel
theorem dX0_init_5 : decode cX0_init 5 = .ok (.bipush 8, 2) := by decide +kernel
theorem dX0_init_7 : decode cX0_init 7 = .ok (.newarray .int, 2) := by decide +kernel
theorem dX0_init_9 : decode cX0_init 9 = .ok (.putfield 9, 3) := by decide +kernel
theorem dX0_init_12 : decode cX0_init 12 = .ok (.aload_n 0, 1) := by decide +kernel
theorem dX0_init_13 : decode cX0_init 13 = .ok (.bipush 8, 2) := by decide +kernel
theorem dX0_init_15 : decode cX0_init 15 = .ok (.newarray .int, 2) := by decide +kernel
theorem dX0_init_17 : decode cX0_init 17 = .ok (.putfield 15, 3) := by decide +kernel
theorem dX0_init_20 : decode cX0_init 20 = .ok (.aload_n 0, 1) := by decide +kernel
theorem dX0_init_21 : decode cX0_init 21 = .ok (.bipush 8, 2) := by decide +kernel
theorem dX0_init_23 : decode cX0_init 23 = .ok (.newarray .int, 2) := by decide +kernel
theorem dX0_init_25 : decode cX0_init 25 = .ok (.putfield 18, 3) := by decide +kernel
theorem dX0_init_28 : decode cX0_init 28 = .ok (.aload_n 0, 1) := by decide +kernel
theorem dX0_init_29 : decode cX0_init 29 = .ok (.bipush 24, 2) := by decide +kernel
theorem dX0_init_31 : decode cX0_init 31 = .ok (.newarray .int, 2) := by decide +kernel
theorem dX0_init_33 : decode cX0_init 33 = .ok (.putfield 21, 3) := by decide +kernel
theorem dX0_init_36 : decode cX0_init 36 = .ok (.aload_n 0, 1) := by decide +kernel
theorem dX0_init_37 : decode cX0_init 37 = .ok (.bipush 9, 2) := by decide +kernel
theorem dX0_init_39 : decode cX0_init 39 = .ok (.newarray .int, 2) := by decide +kernel
theorem dX0_init_41 : decode cX0_init 41 = .ok (.putfield 24, 3) := by decide +kernel
theorem dX0_init_44 : decode cX0_init 44 = .ok (.aload_n 0, 1) := by decide +kernel
theorem dX0_init_45 : decode cX0_init 45 = .ok (.bipush 9, 2) := by decide +kernel
theorem dX0_init_47 : decode cX0_init 47 = .ok (.newarray .int, 2) := by decide +kernel
theorem dX0_init_49 : decode cX0_init 49 = .ok (.putfield 27, 3) := by decide +kernel
theorem dX0_init_52 : decode cX0_init 52 = .ok (.aload_n 0, 1) := by decide +kernel
theorem dX0_init_53 : decode cX0_init 53 = .ok (.iconst 0, 1) := by decide +kernel
theorem dX0_init_54 : decode cX0_init 54 = .ok (.putfield 30, 3) := by decide +kernel
theorem dX0_init_57 : decode cX0_init 57 = .ok (.aload_n 0, 1) := by decide +kernel
theorem dX0_init_58 : decode cX0_init 58 = .ok (.iconst 0, 1) := by decide +kernel
theorem dX0_init_59 : decode cX0_init 59 = .ok (.putfield 34, 3) := by decide +kernel
theorem dX0_init_62 : decode cX0_init 62 = .ok (.aload_n 0, 1) := by decide +kernel
theorem dX0_init_63 : decode cX0_init 63 = .ok (.iconst 0, 1) := by decide +kernel
theorem dX0_init_64 : decode cX0_init 64 = .ok (.putfield 37, 3) := by decide +kernel
theorem dX0_init_67 : decode cX0_init 67 = .ok (.aload_n 0, 1) := by decide +kernel
theorem dX0_init_68 : decode cX0_init 68 = .ok (.iconst 0, 1) := by decide +kernel
theorem dX0_init_69 : decode cX0_init 69 = .ok (.putfield 40, 3) := by decide +kernel
theorem dX0_init_72 : decode cX0_init 72 = .ok (.return_, 1) := by decide +kernel
theorem dX0_run_0 : decode cX0_run 0 = .ok (.aload_n 0, 1) := by decide +kernel
theorem dX0_run_1 : decode cX0_run 1 = .ok (.invokevirtual 43, 3) := by decide +kernel
theorem dX0_run_4 : decode cX0_run 4 = .ok (.iconst 0, 1) := by decide +kernel
theorem dX0_run_5 : decode cX0_run 5 = .ok (.istore 5, 2) := by decide +kernel
theorem dX0_run_7 : decode cX0_run 7 = .ok (.iload 5, 2) := by decide +kernel
theorem dX0_run_9 : decode cX0_run 9 = .ok (.aload_n 3, 1) := by decide +kernel
theorem dX0_run_10 : decode cX0_run 10 = .ok (.getfield 46, 3) := by decide +kernel
theorem dX0_run_13 : decode cX0_run 13 = .ok (.if_icmp .ge 101, 3) := by decide +kernel
theorem dX0_run_16 : decode cX0_run 16 = .ok (.aload_n 3, 1) := by decide +kernel
theorem dX0_run_17 : decode cX0_run 17 = .ok (.getfield 51, 3) := by decide +kernel
theorem dX0_run_20 : decode cX0_run 20 = .ok (.iload 5, 2) := by decide +kernel
theorem dX0_run_22 : decode cX0_run 22 = .ok (.iaload, 1) := by decide +kernel
theorem dX0_run_23 : decode cX0_run 23 = .ok (.istore 6, 2) := by decide +kernel
theorem dX0_run_25 : decode cX0_run 25 = .ok (.iload 4, 2) := by decide +kernel
theorem dX0_run_27 : decode cX0_run 27 = .ok (.iload 6, 2) := by decide +kernel
theorem dX0_run_29 : decode cX0_run 29 = .ok (.ishr, 1) := by decide +kernel
theorem dX0_run_30 : decode cX0_run 30 = .ok (.iconst 1, 1) := by decide +kernel
theorem dX0_run_31 : decode cX0_run 31 = .ok (.iand, 1) := by decide +kernel
theorem dX0_run_32 : decode cX0_run 32 = .ok (.ifCond .eq 76, 3) := by decide +kernel
theorem dX0_run_35 : decode cX0_run 35 = .ok (.aload_n 0, 1) := by decide +kernel
theorem dX0_run_36 : decode cX0_run 36 = .ok (.aload_n 3, 1) := by decide +kernel
theorem dX0_run_37 : decode cX0_run 37 = .ok (.getfield 54, 3) := by decide +kernel
theorem dX0_run_40 : decode cX0_run 40 = .ok (.iload 6, 2) := by decide +kernel
theorem dX0_run_42 : decode cX0_run 42 = .ok (.iaload, 1) := by decide +kernel
theorem dX0_run_43 : decode cX0_run 43 = .ok (.invokevirtual 57, 3) := by decide +kernel
theorem dX0_run_46 : decode cX0_run 46 = .ok (.aload_n 3, 1) := by decide +kernel
theorem dX0_run_47 : decode cX0_run 47 = .ok (.getfield 61, 3) := by decide +kernel
theorem dX0_run_50 : decode cX0_run 50 = .ok (.iload 6, 2) := by decide +kernel
theorem dX0_run_52 : decode cX0_run 52 = .ok (.iaload, 1) := by decide +kernel
theorem dX0_run_53 : decode cX0_run 53 = .ok (.iconst 1, 1) := by decide +kernel
theorem dX0_run_54 : decode cX0_run 54 = .ok (.if_icmp .ne 18, 3) := by decide +kernel
theorem dX0_run_57 : decode cX0_run 57 = .ok (.aload_n 0, 1) := by decide +kernel
theorem dX0_run_58 : decode cX0_run 58 = .ok (.aload_n 1, 1) := by decide +kernel
theorem dX0_run_59 : decode cX0_run 59 = .ok (.aload_n 3, 1) := by decide +kernel
theorem dX0_run_60 : decode cX0_run 60 = .ok (.getfield 64, 3) := by decide +kernel
theorem dX0_run_63 : decode cX0_run 63 = .ok (.iload 6, 2) := by decide +kernel
theorem dX0_run_65 : decode cX0_run 65 = .ok (.iaload, 1) := by decide +kernel
theorem dX0_run_66 : decode cX0_run 66 = .ok (.invokevirtual 67, 3) := by decide +kernel
theorem dX0_run_69 : decode cX0_run 69 = .ok (.goto 39, 3) := by decide +kernel
theorem dX0_run_72 : decode cX0_run 72 = .ok (.aload_n 0, 1) := by decide +kernel
theorem dX0_run_73 : decode cX0_run 73 = .ok (.aload_n 2, 1) := by decide +kernel
theorem dX0_run_74 : decode cX0_run 74 = .ok (.aload_n 3, 1) := by decide +kernel
theorem dX0_run_75 : decode cX0_run 75 = .ok (.getfield 54, 3) := by decide +kernel
theorem dX0_run_78 : decode cX0_run 78 = .ok (.iload 6, 2) := by decide +kernel
theorem dX0_run_80 : decode cX0_run 80 = .ok (.iaload, 1) := by decide +kernel
theorem dX0_run_81 : decode cX0_run 81 = .ok (.invokevirtual 71, 3) := by decide +kernel
theorem dX0_run_84 : decode cX0_run 84 = .ok (.aload_n 0, 1) := by decide +kernel
theorem dX0_run_85 : decode cX0_run 85 = .ok (.aload_n 0, 1) := by decide +kernel
theorem dX0_run_86 : decode cX0_run 86 = .ok (.aload_n 1, 1) := by decide +kernel
theorem dX0_run_87 : decode cX0_run 87 = .ok (.aload_n 3, 1) := by decide +kernel
theorem dX0_run_88 : decode cX0_run 88 = .ok (.getfield 64, 3) := by decide +kernel
theorem dX0_run_91 : decode cX0_run 91 = .ok (.iload 6, 2) := by decide +kernel
theorem dX0_run_93 : decode cX0_run 93 = .ok (.iaload, 1) := by decide +kernel
theorem dX0_run_94 : decode cX0_run 94 = .ok (.invokevirtual 75, 3) := by decide +kernel
theorem dX0_run_97 : decode cX0_run 97 = .ok (.aload_n 2, 1) := by decide +kernel
theorem dX0_run_98 : decode cX0_run 98 = .ok (.aload_n 3, 1) := by decide +kernel
theorem dX0_run_99 : decode cX0_run 99 = .ok (.getfield 54, 3) := by decide +kernel
theorem dX0_run_102 : decode cX0_run 102 = .ok (.iload 6, 2) := by decide +kernel
theorem dX0_run_104 : decode cX0_run 104 = .ok (.iaload, 1) := by decide +kernel
theorem dX0_run_105 : decode cX0_run 105 = .ok (.invokevirtual 79, 3) := by decide +kernel
theorem dX0_run_108 : decode cX0_run 108 = .ok (.iinc 5 1, 3) := by decide +kernel
theorem dX0_run_111 : decode cX0_run 111 = .ok (.goto (-104), 3) := by decide +kernel
theorem dX0_run_114 : decode cX0_run 114 = .ok (.aload_n 0, 1) := by decide +kernel
theorem dX0_run_115 : decode cX0_run 115 = .ok (.bipush 24, 2) := by decide +kernel
theorem dX0_run_117 : decode cX0_run 117 = .ok (.invokevirtual 57, 3) := by decide +kernel
theorem dX0_run_120 : decode cX0_run 120 = .ok (.return_, 1) := by decide +kernel
theorem dX0_startAnew_0 : decode cX0_startAnew 0 = .ok (.iconst 0, 1) := by decide +kernel
theorem dX0_startAnew_1 : decode cX0_startAnew 1 = .ok (.istore_n 1, 1) := by decide +kernel
theorem dX0_startAnew_2 : decode cX0_startAnew 2 = .ok (.iload_n 1, 1) := by decide +kernel
theorem dX0_startAnew_3 : decode cX0_startAnew 3 = .ok (.bipush 8, 2) := by decide +kernel
theorem dX0_startAnew_5 : decode cX0_startAnew 5 = .ok (.if_icmp .ge 23, 3) := by decide +kernel
theorem dX0_startAnew_8 : decode cX0_startAnew 8 = .ok (.aload_n 0, 1) := by decide +kernel
theorem dX0_startAnew_9 : decode cX0_startAnew 9 = .ok (.getfield 9, 3) := by decide +kernel
theorem dX0_startAnew_12 : decode cX0_startAnew 12 = .ok (.iload_n 1, 1) := by decide +kernel
theorem dX0_startAnew_13 : decode cX0_startAnew 13 = .ok (.iconst (-1), 1) := by decide +kernel
theorem dX0_startAnew_14 : decode cX0_startAnew 14 = .ok (.iastore, 1) := by decide +kernel
theorem dX0_startAnew_15 : decode cX0_startAnew 15 = .ok (.aload_n 0, 1) := by decide +kernel
theorem dX0_startAnew_16 : decode cX0_startAnew 16 = .ok (.getfield 18, 3) := by decide +kernel
theorem dX0_startAnew_19 : decode cX0_startAnew 19 = .ok (.iload_n 1, 1) := by decide +kernel
theorem dX0_startAnew_20 : decode cX0_startAnew 20 = .ok (.iconst 0, 1) := by decide +kernel
theorem dX0_startAnew_21 : decode cX0_startAnew 21 = .ok (.iastore, 1) := by decide +kernel
theorem dX0_startAnew_22 : decode cX0_startAnew 22 = .ok (.iinc 1 1, 3) := by decide +kernel
theorem dX0_startAnew_25 : decode cX0_startAnew 25 = .ok (.goto (-23), 3) := by decide +kernel
theorem dX0_startAnew_28 : decode cX0_startAnew 28 = .ok (.aload_n 0, 1) := by decide +kernel
theorem dX0_startAnew_29 : decode cX0_startAnew 29 = .ok (.iconst 0, 1) := by decide +kernel
theorem dX0_startAnew_30 : decode cX0_startAnew 30 = .ok (.putfield 30, 3) := by decide +kernel
theorem dX0_startAnew_33 : decode cX0_startAnew 33 = .ok (.aload_n 0, 1) := by decide +kernel
theorem dX0_startAnew_34 : decode cX0_startAnew 34 = .ok (.iconst 0, 1) := by decide +kernel
theorem dX0_startAnew_35 : decode cX0_startAnew 35 = .ok (.putfield 34, 3) := by decide +kernel
theorem dX0_startAnew_38 : decode cX0_startAnew 38 = .ok (.aload_n 0, 1) := by decide +kernel
theorem dX0_startAnew_39 : decode cX0_startAnew 39 = .ok (.iconst 0, 1) := by decide +kernel
theorem dX0_startAnew_40 : decode cX0_startAnew 40 = .ok (.putfield 37, 3) := by decide +kernel
theorem dX0_startAnew_43 : decode cX0_startAnew 43 = .ok (.aload_n 0, 1) := by decide +kernel
theorem dX0_startAnew_44 : decode cX0_startAnew 44 = .ok (.iconst 0, 1) := by decide +kernel
theorem dX0_startAnew_45 : decode cX0_startAnew 45 = .ok (.putfield 40, 3) := by decide +kernel
theorem dX0_startAnew_48 : decode cX0_startAnew 48 = .ok (.return_, 1) := by decide +kernel
theorem dX0_endNightsTo_0 : decode cX0_endNightsTo 0 = .ok (.aload_n 0, 1) := by decide +kernel
theorem dX0_endNightsTo_1 : decode cX0_endNightsTo 1 = .ok (.getfield 40, 3) := by decide +kernel
theorem dX0_endNightsTo_4 : decode cX0_endNightsTo 4 = .ok (.istore_n 2, 1) := by decide +kernel
theorem dX0_endNightsTo_5 : decode cX0_endNightsTo 5 = .ok (.iload_n 2, 1) := by decide +kernel
theorem dX0_endNightsTo_6 : decode cX0_endNightsTo 6 = .ok (.iload_n 1, 1) := by decide +kernel
theorem dX0_endNightsTo_7 : decode cX0_endNightsTo 7 = .ok (.if_icmp .ge 19, 3) := by decide +kernel
theorem dX0_endNightsTo_10 : decode cX0_endNightsTo 10 = .ok (.aload_n 0, 1) := by decide +kernel
theorem dX0_endNightsTo_11 : decode cX0_endNightsTo 11 = .ok (.getfield 21, 3) := by decide +kernel
theorem dX0_endNightsTo_14 : decode cX0_endNightsTo 14 = .ok (.iload_n 2, 1) := by decide +kernel
theorem dX0_endNightsTo_15 : decode cX0_endNightsTo 15 = .ok (.aload_n 0, 1) := by decide +kernel
theorem dX0_endNightsTo_16 : decode cX0_endNightsTo 16 = .ok (.getfield 37, 3) := by decide +kernel
theorem dX0_endNightsTo_19 : decode cX0_endNightsTo 19 = .ok (.iastore, 1) := by decide +kernel
theorem dX0_endNightsTo_20 : decode cX0_endNightsTo 20 = .ok (.iinc 2 1, 3) := by decide +kernel
theorem dX0_endNightsTo_23 : decode cX0_endNightsTo 23 = .ok (.goto (-18), 3) := by decide +kernel
theorem dX0_endNightsTo_26 : decode cX0_endNightsTo 26 = .ok (.aload_n 0, 1) := by decide +kernel
theorem dX0_endNightsTo_27 : decode cX0_endNightsTo 27 = .ok (.iload_n 1, 1) := by decide +kernel
theorem dX0_endNightsTo_28 : decode cX0_endNightsTo 28 = .ok (.putfield 40, 3) := by decide +kernel
theorem dX0_endNightsTo_31 : decode cX0_endNightsTo 31 = .ok (.return_, 1) := by decide +kernel
theorem dX0_layDown_0 : decode cX0_layDown 0 = .ok (.iconst 0, 1) := by decide +kernel
theorem dX0_layDown_1 : decode cX0_layDown 1 = .ok (.istore_n 3, 1) := by decide +kernel
theorem dX0_layDown_2 : decode cX0_layDown 2 = .ok (.iload_n 3, 1) := by decide +kernel
theorem dX0_layDown_3 : decode cX0_layDown 3 = .ok (.aload_n 1, 1) := by decide +kernel
theorem dX0_layDown_4 : decode cX0_layDown 4 = .ok (.getfield 83, 3) := by decide +kernel
theorem dX0_layDown_7 : decode cX0_layDown 7 = .ok (.if_icmp .ge 33, 3) := by decide +kernel
theorem dX0_layDown_10 : decode cX0_layDown 10 = .ok (.aload_n 1, 1) := by decide +kernel
theorem dX0_layDown_11 : decode cX0_layDown 11 = .ok (.getfield 86, 3) := by decide +kernel
theorem dX0_layDown_14 : decode cX0_layDown 14 = .ok (.iload_n 3, 1) := by decide +kernel
theorem dX0_layDown_15 : decode cX0_layDown 15 = .ok (.iaload, 1) := by decide +kernel
theorem dX0_layDown_16 : decode cX0_layDown 16 = .ok (.iload_n 2, 1) := by decide +kernel
theorem dX0_layDown_17 : decode cX0_layDown 17 = .ok (.if_icmp .ne 17, 3) := by decide +kernel
theorem dX0_layDown_20 : decode cX0_layDown 20 = .ok (.aload_n 0, 1) := by decide +kernel
theorem dX0_layDown_21 : decode cX0_layDown 21 = .ok (.dup, 1) := by decide +kernel
theorem dX0_layDown_22 : decode cX0_layDown 22 = .ok (.getfield 37, 3) := by decide +kernel
theorem dX0_layDown_25 : decode cX0_layDown 25 = .ok (.iconst 1, 1) := by decide +kernel
theorem dX0_layDown_26 : decode cX0_layDown 26 = .ok (.iload_n 3, 1) := by decide +kernel
theorem dX0_layDown_27 : decode cX0_layDown 27 = .ok (.ishl, 1) := by decide +kernel
theorem dX0_layDown_28 : decode cX0_layDown 28 = .ok (.iconst (-1), 1) := by decide +kernel
theorem dX0_layDown_29 : decode cX0_layDown 29 = .ok (.ixor, 1) := by decide +kernel
theorem dX0_layDown_30 : decode cX0_layDown 30 = .ok (.iand, 1) := by decide +kernel
theorem dX0_layDown_31 : decode cX0_layDown 31 = .ok (.putfield 37, 3) := by decide +kernel
theorem dX0_layDown_34 : decode cX0_layDown 34 = .ok (.iinc 3 1, 3) := by decide +kernel
theorem dX0_layDown_37 : decode cX0_layDown 37 = .ok (.goto (-35), 3) := by decide +kernel
theorem dX0_layDown_40 : decode cX0_layDown 40 = .ok (.return_, 1) := by decide +kernel
theorem dX0_weighNeeds_0 : decode cX0_weighNeeds 0 = .ok (.iconst 0, 1) := by decide +kernel
theorem dX0_weighNeeds_1 : decode cX0_weighNeeds 1 = .ok (.istore_n 3, 1) := by decide +kernel
theorem dX0_weighNeeds_2 : decode cX0_weighNeeds 2 = .ok (.iload_n 3, 1) := by decide +kernel
theorem dX0_weighNeeds_3 : decode cX0_weighNeeds 3 = .ok (.bipush 8, 2) := by decide +kernel
theorem dX0_weighNeeds_5 : decode cX0_weighNeeds 5 = .ok (.if_icmp .ge 16, 3) := by decide +kernel
theorem dX0_weighNeeds_8 : decode cX0_weighNeeds 8 = .ok (.aload_n 0, 1) := by decide +kernel
theorem dX0_weighNeeds_9 : decode cX0_weighNeeds 9 = .ok (.getfield 15, 3) := by decide +kernel
theorem dX0_weighNeeds_12 : decode cX0_weighNeeds 12 = .ok (.iload_n 3, 1) := by decide +kernel
theorem dX0_weighNeeds_13 : decode cX0_weighNeeds 13 = .ok (.iconst 0, 1) := by decide +kernel
theorem dX0_weighNeeds_14 : decode cX0_weighNeeds 14 = .ok (.iastore, 1) := by decide +kernel
theorem dX0_weighNeeds_15 : decode cX0_weighNeeds 15 = .ok (.iinc 3 1, 3) := by decide +kernel
theorem dX0_weighNeeds_18 : decode cX0_weighNeeds 18 = .ok (.goto (-16), 3) := by decide +kernel
theorem dX0_weighNeeds_21 : decode cX0_weighNeeds 21 = .ok (.iconst 0, 1) := by decide +kernel
theorem dX0_weighNeeds_22 : decode cX0_weighNeeds 22 = .ok (.istore_n 3, 1) := by decide +kernel
theorem dX0_weighNeeds_23 : decode cX0_weighNeeds 23 = .ok (.iload_n 3, 1) := by decide +kernel
theorem dX0_weighNeeds_24 : decode cX0_weighNeeds 24 = .ok (.aload_n 1, 1) := by decide +kernel
theorem dX0_weighNeeds_25 : decode cX0_weighNeeds 25 = .ok (.getfield 89, 3) := by decide +kernel
theorem dX0_weighNeeds_28 : decode cX0_weighNeeds 28 = .ok (.if_icmp .ge 49, 3) := by decide +kernel
theorem dX0_weighNeeds_31 : decode cX0_weighNeeds 31 = .ok (.aload_n 0, 1) := by decide +kernel
theorem dX0_weighNeeds_32 : decode cX0_weighNeeds 32 = .ok (.getfield 9, 3) := by decide +kernel
theorem dX0_weighNeeds_35 : decode cX0_weighNeeds 35 = .ok (.iload_n 3, 1) := by decide +kernel
theorem dX0_weighNeeds_36 : decode cX0_weighNeeds 36 = .ok (.iaload, 1) := by decide +kernel
theorem dX0_weighNeeds_37 : decode cX0_weighNeeds 37 = .ok (.iconst (-1), 1) := by decide +kernel
theorem dX0_weighNeeds_38 : decode cX0_weighNeeds 38 = .ok (.if_icmp .ne 33, 3) := by decide +kernel
theorem dX0_weighNeeds_41 : decode cX0_weighNeeds 41 = .ok (.aload_n 1, 1) := by decide +kernel
theorem dX0_weighNeeds_42 : decode cX0_weighNeeds 42 = .ok (.getfield 92, 3) := by decide +kernel
theorem dX0_weighNeeds_45 : decode cX0_weighNeeds 45 = .ok (.iload_n 3, 1) := by decide +kernel
theorem dX0_weighNeeds_46 : decode cX0_weighNeeds 46 = .ok (.iaload, 1) := by decide +kernel
theorem dX0_weighNeeds_47 : decode cX0_weighNeeds 47 = .ok (.iload_n 2, 1) := by decide +kernel
theorem dX0_weighNeeds_48 : decode cX0_weighNeeds 48 = .ok (.if_icmp .gt 23, 3) := by decide +kernel
theorem dX0_weighNeeds_51 : decode cX0_weighNeeds 51 = .ok (.aload_n 0, 1) := by decide +kernel
theorem dX0_weighNeeds_52 : decode cX0_weighNeeds 52 = .ok (.getfield 15, 3) := by decide +kernel
theorem dX0_weighNeeds_55 : decode cX0_weighNeeds 55 = .ok (.aload_n 1, 1) := by decide +kernel
theorem dX0_weighNeeds_56 : decode cX0_weighNeeds 56 = .ok (.getfield 93, 3) := by decide +kernel
theorem dX0_weighNeeds_59 : decode cX0_weighNeeds 59 = .ok (.iload_n 3, 1) := by decide +kernel
theorem dX0_weighNeeds_60 : decode cX0_weighNeeds 60 = .ok (.iaload, 1) := by decide +kernel
theorem dX0_weighNeeds_61 : decode cX0_weighNeeds 61 = .ok (.dup2, 1) := by decide +kernel
theorem dX0_weighNeeds_62 : decode cX0_weighNeeds 62 = .ok (.iaload, 1) := by decide +kernel
theorem dX0_weighNeeds_63 : decode cX0_weighNeeds 63 = .ok (.aload_n 1, 1) := by decide +kernel
theorem dX0_weighNeeds_64 : decode cX0_weighNeeds 64 = .ok (.iload_n 3, 1) := by decide +kernel
theorem dX0_weighNeeds_65 : decode cX0_weighNeeds 65 = .ok (.iload_n 2, 1) := by decide +kernel
theorem dX0_weighNeeds_66 : decode cX0_weighNeeds 66 = .ok (.invokevirtual 96, 3) := by decide +kernel
theorem dX0_weighNeeds_69 : decode cX0_weighNeeds 69 = .ok (.iadd, 1) := by decide +kernel
theorem dX0_weighNeeds_70 : decode cX0_weighNeeds 70 = .ok (.iastore, 1) := by decide +kernel
theorem dX0_weighNeeds_71 : decode cX0_weighNeeds 71 = .ok (.iinc 3 1, 3) := by decide +kernel
theorem dX0_weighNeeds_74 : decode cX0_weighNeeds 74 = .ok (.goto (-51), 3) := by decide +kernel
theorem dX0_weighNeeds_77 : decode cX0_weighNeeds 77 = .ok (.return_, 1) := by decide +kernel
theorem dX0_strongestIn_0 : decode cX0_strongestIn 0 = .ok (.iconst (-1), 1) := by decide +kernel
theorem dX0_strongestIn_1 : decode cX0_strongestIn 1 = .ok (.istore_n 3, 1) := by decide +kernel
theorem dX0_strongestIn_2 : decode cX0_strongestIn 2 = .ok (.iconst 0, 1) := by decide +kernel
theorem dX0_strongestIn_3 : decode cX0_strongestIn 3 = .ok (.istore 4, 2) := by decide +kernel
theorem dX0_strongestIn_5 : decode cX0_strongestIn 5 = .ok (.iconst 0, 1) := by decide +kernel
theorem dX0_strongestIn_6 : decode cX0_strongestIn 6 = .ok (.istore 5, 2) := by decide +kernel
theorem dX0_strongestIn_8 : decode cX0_strongestIn 8 = .ok (.iload 5, 2) := by decide +kernel
theorem dX0_strongestIn_10 : decode cX0_strongestIn 10 = .ok (.aload_n 1, 1) := by decide +kernel
theorem dX0_strongestIn_11 : decode cX0_strongestIn 11 = .ok (.getfield 83, 3) := by decide +kernel
theorem dX0_strongestIn_14 : decode cX0_strongestIn 14 = .ok (.if_icmp .ge 108, 3) := by decide +kernel
theorem dX0_strongestIn_17 : decode cX0_strongestIn 17 = .ok (.aload_n 1, 1) := by decide +kernel
theorem dX0_strongestIn_18 : decode cX0_strongestIn 18 = .ok (.getfield 86, 3) := by decide +kernel
theorem dX0_strongestIn_21 : decode cX0_strongestIn 21 = .ok (.iload 5, 2) := by decide +kernel
theorem dX0_strongestIn_23 : decode cX0_strongestIn 23 = .ok (.iaload, 1) := by decide +kernel
theorem dX0_strongestIn_24 : decode cX0_strongestIn 24 = .ok (.iload_n 2, 1) := by decide +kernel
theorem dX0_strongestIn_25 : decode cX0_strongestIn 25 = .ok (.if_icmp .ne 91, 3) := by decide +kernel
theorem dX0_strongestIn_28 : decode cX0_strongestIn 28 = .ok (.aload_n 0, 1) := by decide +kernel
theorem dX0_strongestIn_29 : decode cX0_strongestIn 29 = .ok (.getfield 37, 3) := by decide +kernel
theorem dX0_strongestIn_32 : decode cX0_strongestIn 32 = .ok (.iload 5, 2) := by decide +kernel
theorem dX0_strongestIn_34 : decode cX0_strongestIn 34 = .ok (.ishr, 1) := by decide +kernel
theorem dX0_strongestIn_35 : decode cX0_strongestIn 35 = .ok (.iconst 1, 1) := by decide +kernel
theorem dX0_strongestIn_36 : decode cX0_strongestIn 36 = .ok (.iand, 1) := by decide +kernel
theorem dX0_strongestIn_37 : decode cX0_strongestIn 37 = .ok (.ifCond .ne 79, 3) := by decide +kernel
theorem dX0_strongestIn_40 : decode cX0_strongestIn 40 = .ok (.aload_n 0, 1) := by decide +kernel
theorem dX0_strongestIn_41 : decode cX0_strongestIn 41 = .ok (.aload_n 1, 1) := by decide +kernel
theorem dX0_strongestIn_42 : decode cX0_strongestIn 42 = .ok (.iload 5, 2) := by decide +kernel
theorem dX0_strongestIn_44 : decode cX0_strongestIn 44 = .ok (.invokevirtual 100, 3) := by decide +kernel
theorem dX0_strongestIn_47 : decode cX0_strongestIn 47 = .ok (.istore 6, 2) := by decide +kernel
theorem dX0_strongestIn_49 : decode cX0_strongestIn 49 = .ok (.iload_n 3, 1) := by decide +kernel
theorem dX0_strongestIn_50 : decode cX0_strongestIn 50 = .ok (.iconst (-1), 1) := by decide +kernel
theorem dX0_strongestIn_51 : decode cX0_strongestIn 51 = .ok (.if_icmp .ne 16, 3) := by decide +kernel
theorem dX0_strongestIn_54 : decode cX0_strongestIn 54 = .ok (.iload 6, 2) := by decide +kernel
theorem dX0_strongestIn_56 : decode cX0_strongestIn 56 = .ok (.ifCond .lt 7, 3) := by decide +kernel
theorem dX0_strongestIn_59 : decode cX0_strongestIn 59 = .ok (.iconst 1, 1) := by decide +kernel
theorem dX0_strongestIn_60 : decode cX0_strongestIn 60 = .ok (.goto 42, 3) := by decide +kernel
theorem dX0_strongestIn_63 : decode cX0_strongestIn 63 = .ok (.iconst 0, 1) := by decide +kernel
theorem dX0_strongestIn_64 : decode cX0_strongestIn 64 = .ok (.goto 38, 3) := by decide +kernel
theorem dX0_strongestIn_67 : decode cX0_strongestIn 67 = .ok (.iload 6, 2) := by decide +kernel
theorem dX0_strongestIn_69 : decode cX0_strongestIn 69 = .ok (.iload 4, 2) := by decide +kernel
theorem dX0_strongestIn_71 : decode cX0_strongestIn 71 = .ok (.if_icmp .gt 26, 3) := by decide +kernel
theorem dX0_strongestIn_74 : decode cX0_strongestIn 74 = .ok (.iload 6, 2) := by decide +kernel
theorem dX0_strongestIn_76 : decode cX0_strongestIn 76 = .ok (.iload 4, 2) := by decide +kernel
theorem dX0_strongestIn_78 : decode cX0_strongestIn 78 = .ok (.if_icmp .ne 23, 3) := by decide +kernel
theorem dX0_strongestIn_81 : decode cX0_strongestIn 81 = .ok (.aload_n 1, 1) := by decide +kernel
theorem dX0_strongestIn_82 : decode cX0_strongestIn 82 = .ok (.getfield 103, 3) := by decide +kernel
theorem dX0_strongestIn_85 : decode cX0_strongestIn 85 = .ok (.iload 5, 2) := by decide +kernel
theorem dX0_strongestIn_87 : decode cX0_strongestIn 87 = .ok (.iaload, 1) := by decide +kernel
theorem dX0_strongestIn_88 : decode cX0_strongestIn 88 = .ok (.aload_n 1, 1) := by decide +kernel
theorem dX0_strongestIn_89 : decode cX0_strongestIn 89 = .ok (.getfield 103, 3) := by decide +kernel
theorem dX0_strongestIn_92 : decode cX0_strongestIn 92 = .ok (.iload_n 3, 1) := by decide +kernel
theorem dX0_strongestIn_93 : decode cX0_strongestIn 93 = .ok (.iaload, 1) := by decide +kernel
theorem dX0_strongestIn_94 : decode cX0_strongestIn 94 = .ok (.if_icmp .ge 7, 3) := by decide +kernel
theorem dX0_strongestIn_97 : decode cX0_strongestIn 97 = .ok (.iconst 1, 1) := by decide +kernel
theorem dX0_strongestIn_98 : decode cX0_strongestIn 98 = .ok (.goto 4, 3) := by decide +kernel
theorem dX0_strongestIn_101 : decode cX0_strongestIn 101 = .ok (.iconst 0, 1) := by decide +kernel
theorem dX0_strongestIn_102 : decode cX0_strongestIn 102 = .ok (.istore 7, 2) := by decide +kernel
theorem dX0_strongestIn_104 : decode cX0_strongestIn 104 = .ok (.iload 7, 2) := by decide +kernel
theorem dX0_strongestIn_106 : decode cX0_strongestIn 106 = .ok (.ifCond .eq 10, 3) := by decide +kernel
theorem dX0_strongestIn_109 : decode cX0_strongestIn 109 = .ok (.iload 6, 2) := by decide +kernel
theorem dX0_strongestIn_111 : decode cX0_strongestIn 111 = .ok (.istore 4, 2) := by decide +kernel
theorem dX0_strongestIn_113 : decode cX0_strongestIn 113 = .ok (.iload 5, 2) := by decide +kernel
theorem dX0_strongestIn_115 : decode cX0_strongestIn 115 = .ok (.istore_n 3, 1) := by decide +kernel
theorem dX0_strongestIn_116 : decode cX0_strongestIn 116 = .ok (.iinc 5 1, 3) := by decide +kernel
theorem dX0_strongestIn_119 : decode cX0_strongestIn 119 = .ok (.goto (-111), 3) := by decide +kernel
theorem dX0_strongestIn_122 : decode cX0_strongestIn 122 = .ok (.iload_n 3, 1) := by decide +kernel
theorem dX0_strongestIn_123 : decode cX0_strongestIn 123 = .ok (.ireturn, 1) := by decide +kernel
theorem dX0_pullOf_0 : decode cX0_pullOf 0 = .ok (.aload_n 1, 1) := by decide +kernel
theorem dX0_pullOf_1 : decode cX0_pullOf 1 = .ok (.getfield 106, 3) := by decide +kernel
theorem dX0_pullOf_4 : decode cX0_pullOf 4 = .ok (.iload_n 2, 1) := by decide +kernel
theorem dX0_pullOf_5 : decode cX0_pullOf 5 = .ok (.iaload, 1) := by decide +kernel
theorem dX0_pullOf_6 : decode cX0_pullOf 6 = .ok (.lookupswitch 56 #[(0, 26), (1, 42)], 26) := by decide +kernel
theorem dX0_pullOf_32 : decode cX0_pullOf 32 = .ok (.aload_n 0, 1) := by decide +kernel
theorem dX0_pullOf_33 : decode cX0_pullOf 33 = .ok (.getfield 15, 3) := by decide +kernel
theorem dX0_pullOf_36 : decode cX0_pullOf 36 = .ok (.iload_n 2, 1) := by decide +kernel
theorem dX0_pullOf_37 : decode cX0_pullOf 37 = .ok (.iaload, 1) := by decide +kernel
theorem dX0_pullOf_38 : decode cX0_pullOf 38 = .ok (.aload_n 1, 1) := by decide +kernel
theorem dX0_pullOf_39 : decode cX0_pullOf 39 = .ok (.getfield 109, 3) := by decide +kernel
theorem dX0_pullOf_42 : decode cX0_pullOf 42 = .ok (.iload_n 2, 1) := by decide +kernel
theorem dX0_pullOf_43 : decode cX0_pullOf 43 = .ok (.iaload, 1) := by decide +kernel
theorem dX0_pullOf_44 : decode cX0_pullOf 44 = .ok (.iconst 2, 1) := by decide +kernel
theorem dX0_pullOf_45 : decode cX0_pullOf 45 = .ok (.idiv, 1) := by decide +kernel
theorem dX0_pullOf_46 : decode cX0_pullOf 46 = .ok (.isub, 1) := by decide +kernel
theorem dX0_pullOf_47 : decode cX0_pullOf 47 = .ok (.ireturn, 1) := by decide +kernel
theorem dX0_pullOf_48 : decode cX0_pullOf 48 = .ok (.aload_n 0, 1) := by decide +kernel
theorem dX0_pullOf_49 : decode cX0_pullOf 49 = .ok (.getfield 15, 3) := by decide +kernel
theorem dX0_pullOf_52 : decode cX0_pullOf 52 = .ok (.iload_n 2, 1) := by decide +kernel
theorem dX0_pullOf_53 : decode cX0_pullOf 53 = .ok (.iaload, 1) := by decide +kernel
theorem dX0_pullOf_54 : decode cX0_pullOf 54 = .ok (.aload_n 1, 1) := by decide +kernel
theorem dX0_pullOf_55 : decode cX0_pullOf 55 = .ok (.getfield 109, 3) := by decide +kernel
theorem dX0_pullOf_58 : decode cX0_pullOf 58 = .ok (.iload_n 2, 1) := by decide +kernel
theorem dX0_pullOf_59 : decode cX0_pullOf 59 = .ok (.iaload, 1) := by decide +kernel
theorem dX0_pullOf_60 : decode cX0_pullOf 60 = .ok (.isub, 1) := by decide +kernel
theorem dX0_pullOf_61 : decode cX0_pullOf 61 = .ok (.ireturn, 1) := by decide +kernel
theorem dX0_pullOf_62 : decode cX0_pullOf 62 = .ok (.aload_n 0, 1) := by decide +kernel
theorem dX0_pullOf_63 : decode cX0_pullOf 63 = .ok (.getfield 18, 3) := by decide +kernel
theorem dX0_pullOf_66 : decode cX0_pullOf 66 = .ok (.iload_n 2, 1) := by decide +kernel
theorem dX0_pullOf_67 : decode cX0_pullOf 67 = .ok (.iaload, 1) := by decide +kernel
theorem dX0_pullOf_68 : decode cX0_pullOf 68 = .ok (.ireturn, 1) := by decide +kernel
theorem dX0_bringUp_0 : decode cX0_bringUp 0 = .ok (.iload_n 1, 1) := by decide +kernel
theorem dX0_bringUp_1 : decode cX0_bringUp 1 = .ok (.iconst (-1), 1) := by decide +kernel
theorem dX0_bringUp_2 : decode cX0_bringUp 2 = .ok (.if_icmp .eq 15, 3) := by decide +kernel
theorem dX0_bringUp_5 : decode cX0_bringUp 5 = .ok (.aload_n 0, 1) := by decide +kernel
theorem dX0_bringUp_6 : decode cX0_bringUp 6 = .ok (.getfield 30, 3) := by decide +kernel
theorem dX0_bringUp_9 : decode cX0_bringUp 9 = .ok (.aload_n 0, 1) := by decide +kernel
theorem dX0_bringUp_10 : decode cX0_bringUp 10 = .ok (.getfield 27, 3) := by decide +kernel
theorem dX0_bringUp_13 : decode cX0_bringUp 13 = .ok (.arraylength, 1) := by decide +kernel
theorem dX0_bringUp_14 : decode cX0_bringUp 14 = .ok (.if_icmp .lt 4, 3) := by decide +kernel
theorem dX0_bringUp_17 : decode cX0_bringUp 17 = .ok (.return_, 1) := by decide +kernel
theorem dX0_bringUp_18 : decode cX0_bringUp 18 = .ok (.aload_n 0, 1) := by decide +kernel
theorem dX0_bringUp_19 : decode cX0_bringUp 19 = .ok (.dup, 1) := by decide +kernel
theorem dX0_bringUp_20 : decode cX0_bringUp 20 = .ok (.getfield 37, 3) := by decide +kernel
theorem dX0_bringUp_23 : decode cX0_bringUp 23 = .ok (.iconst 1, 1) := by decide +kernel
theorem dX0_bringUp_24 : decode cX0_bringUp 24 = .ok (.iload_n 1, 1) := by decide +kernel
theorem dX0_bringUp_25 : decode cX0_bringUp 25 = .ok (.ishl, 1) := by decide +kernel
theorem dX0_bringUp_26 : decode cX0_bringUp 26 = .ok (.ior, 1) := by decide +kernel
theorem dX0_bringUp_27 : decode cX0_bringUp 27 = .ok (.putfield 37, 3) := by decide +kernel
theorem dX0_bringUp_30 : decode cX0_bringUp 30 = .ok (.aload_n 0, 1) := by decide +kernel
theorem dX0_bringUp_31 : decode cX0_bringUp 31 = .ok (.getfield 18, 3) := by decide +kernel
theorem dX0_bringUp_34 : decode cX0_bringUp 34 = .ok (.iload_n 1, 1) := by decide +kernel
theorem dX0_bringUp_35 : decode cX0_bringUp 35 = .ok (.dup2, 1) := by decide +kernel
theorem dX0_bringUp_36 : decode cX0_bringUp 36 = .ok (.iaload, 1) := by decide +kernel
theorem dX0_bringUp_37 : decode cX0_bringUp 37 = .ok (.iconst 1, 1) := by decide +kernel
theorem dX0_bringUp_38 : decode cX0_bringUp 38 = .ok (.iadd, 1) := by decide +kernel
theorem dX0_bringUp_39 : decode cX0_bringUp 39 = .ok (.iastore, 1) := by decide +kernel
theorem dX0_bringUp_40 : decode cX0_bringUp 40 = .ok (.aload_n 0, 1) := by decide +kernel
theorem dX0_bringUp_41 : decode cX0_bringUp 41 = .ok (.getfield 24, 3) := by decide +kernel
theorem dX0_bringUp_44 : decode cX0_bringUp 44 = .ok (.aload_n 0, 1) := by decide +kernel
theorem dX0_bringUp_45 : decode cX0_bringUp 45 = .ok (.getfield 30, 3) := by decide +kernel
theorem dX0_bringUp_48 : decode cX0_bringUp 48 = .ok (.iload_n 3, 1) := by decide +kernel
theorem dX0_bringUp_49 : decode cX0_bringUp 49 = .ok (.iastore, 1) := by decide +kernel
theorem dX0_bringUp_50 : decode cX0_bringUp 50 = .ok (.aload_n 0, 1) := by decide +kernel
theorem dX0_bringUp_51 : decode cX0_bringUp 51 = .ok (.getfield 27, 3) := by decide +kernel
theorem dX0_bringUp_54 : decode cX0_bringUp 54 = .ok (.aload_n 0, 1) := by decide +kernel
theorem dX0_bringUp_55 : decode cX0_bringUp 55 = .ok (.getfield 30, 3) := by decide +kernel
theorem dX0_bringUp_58 : decode cX0_bringUp 58 = .ok (.iload_n 1, 1) := by decide +kernel
theorem dX0_bringUp_59 : decode cX0_bringUp 59 = .ok (.iastore, 1) := by decide +kernel
theorem dX0_bringUp_60 : decode cX0_bringUp 60 = .ok (.aload_n 0, 1) := by decide +kernel
theorem dX0_bringUp_61 : decode cX0_bringUp 61 = .ok (.dup, 1) := by decide +kernel
theorem dX0_bringUp_62 : decode cX0_bringUp 62 = .ok (.getfield 30, 3) := by decide +kernel
theorem dX0_bringUp_65 : decode cX0_bringUp 65 = .ok (.iconst 1, 1) := by decide +kernel
theorem dX0_bringUp_66 : decode cX0_bringUp 66 = .ok (.iadd, 1) := by decide +kernel
theorem dX0_bringUp_67 : decode cX0_bringUp 67 = .ok (.putfield 30, 3) := by decide +kernel
theorem dX0_bringUp_70 : decode cX0_bringUp 70 = .ok (.aload_n 0, 1) := by decide +kernel
theorem dX0_bringUp_71 : decode cX0_bringUp 71 = .ok (.getfield 15, 3) := by decide +kernel
theorem dX0_bringUp_74 : decode cX0_bringUp 74 = .ok (.iload_n 1, 1) := by decide +kernel
theorem dX0_bringUp_75 : decode cX0_bringUp 75 = .ok (.iaload, 1) := by decide +kernel
theorem dX0_bringUp_76 : decode cX0_bringUp 76 = .ok (.ifCond .ne 13, 3) := by decide +kernel
theorem dX0_bringUp_79 : decode cX0_bringUp 79 = .ok (.aload_n 0, 1) := by decide +kernel
theorem dX0_bringUp_80 : decode cX0_bringUp 80 = .ok (.dup, 1) := by decide +kernel
theorem dX0_bringUp_81 : decode cX0_bringUp 81 = .ok (.getfield 34, 3) := by decide +kernel
theorem dX0_bringUp_84 : decode cX0_bringUp 84 = .ok (.iconst 1, 1) := by decide +kernel
theorem dX0_bringUp_85 : decode cX0_bringUp 85 = .ok (.iadd, 1) := by decide +kernel
theorem dX0_bringUp_86 : decode cX0_bringUp 86 = .ok (.putfield 34, 3) := by decide +kernel
theorem dX0_bringUp_89 : decode cX0_bringUp 89 = .ok (.iconst 0, 1) := by decide +kernel
theorem dX0_bringUp_90 : decode cX0_bringUp 90 = .ok (.istore 4, 2) := by decide +kernel
theorem dX0_bringUp_92 : decode cX0_bringUp 92 = .ok (.iload 4, 2) := by decide +kernel
theorem dX0_bringUp_94 : decode cX0_bringUp 94 = .ok (.aload_n 2, 1) := by decide +kernel
theorem dX0_bringUp_95 : decode cX0_bringUp 95 = .ok (.getfield 89, 3) := by decide +kernel
theorem dX0_bringUp_98 : decode cX0_bringUp 98 = .ok (.if_icmp .ge 50, 3) := by decide +kernel
theorem dX0_bringUp_101 : decode cX0_bringUp 101 = .ok (.aload_n 2, 1) := by decide +kernel
theorem dX0_bringUp_102 : decode cX0_bringUp 102 = .ok (.getfield 93, 3) := by decide +kernel
theorem dX0_bringUp_105 : decode cX0_bringUp 105 = .ok (.iload 4, 2) := by decide +kernel
theorem dX0_bringUp_107 : decode cX0_bringUp 107 = .ok (.iaload, 1) := by decide +kernel
theorem dX0_bringUp_108 : decode cX0_bringUp 108 = .ok (.iload_n 1, 1) := by decide +kernel
theorem dX0_bringUp_109 : decode cX0_bringUp 109 = .ok (.if_icmp .ne 33, 3) := by decide +kernel
theorem dX0_bringUp_112 : decode cX0_bringUp 112 = .ok (.aload_n 0, 1) := by decide +kernel
theorem dX0_bringUp_113 : decode cX0_bringUp 113 = .ok (.getfield 9, 3) := by decide +kernel
theorem dX0_bringUp_116 : decode cX0_bringUp 116 = .ok (.iload 4, 2) := by decide +kernel
theorem dX0_bringUp_118 : decode cX0_bringUp 118 = .ok (.iaload, 1) := by decide +kernel
theorem dX0_bringUp_119 : decode cX0_bringUp 119 = .ok (.iconst (-1), 1) := by decide +kernel
theorem dX0_bringUp_120 : decode cX0_bringUp 120 = .ok (.if_icmp .ne 22, 3) := by decide +kernel
theorem dX0_bringUp_123 : decode cX0_bringUp 123 = .ok (.aload_n 2, 1) := by decide +kernel
theorem dX0_bringUp_124 : decode cX0_bringUp 124 = .ok (.getfield 92, 3) := by decide +kernel
theorem dX0_bringUp_127 : decode cX0_bringUp 127 = .ok (.iload 4, 2) := by decide +kernel
theorem dX0_bringUp_129 : decode cX0_bringUp 129 = .ok (.iaload, 1) := by decide +kernel
theorem dX0_bringUp_130 : decode cX0_bringUp 130 = .ok (.iload_n 3, 1) := by decide +kernel
theorem dX0_bringUp_131 : decode cX0_bringUp 131 = .ok (.if_icmp .gt 11, 3) := by decide +kernel
theorem dX0_bringUp_134 : decode cX0_bringUp 134 = .ok (.aload_n 0, 1) := by decide +kernel
theorem dX0_bringUp_135 : decode cX0_bringUp 135 = .ok (.getfield 9, 3) := by decide +kernel
theorem dX0_bringUp_138 : decode cX0_bringUp 138 = .ok (.iload 4, 2) := by decide +kernel
theorem dX0_bringUp_140 : decode cX0_bringUp 140 = .ok (.iload_n 3, 1) := by decide +kernel
theorem dX0_bringUp_141 : decode cX0_bringUp 141 = .ok (.iastore, 1) := by decide +kernel
theorem dX0_bringUp_142 : decode cX0_bringUp 142 = .ok (.iinc 4 1, 3) := by decide +kernel
theorem dX0_bringUp_145 : decode cX0_bringUp 145 = .ok (.goto (-53), 3) := by decide +kernel
theorem dX0_bringUp_148 : decode cX0_bringUp 148 = .ok (.return_, 1) := by decide +kernel
theorem dX0_isUp_0 : decode cX0_isUp 0 = .ok (.aload_n 0, 1) := by decide +kernel
theorem dX0_isUp_1 : decode cX0_isUp 1 = .ok (.getfield 21, 3) := by decide +kernel
theorem dX0_isUp_4 : decode cX0_isUp 4 = .ok (.iload_n 1, 1) := by decide +kernel
theorem dX0_isUp_5 : decode cX0_isUp 5 = .ok (.iaload, 1) := by decide +kernel
theorem dX0_isUp_6 : decode cX0_isUp 6 = .ok (.iload_n 2, 1) := by decide +kernel
theorem dX0_isUp_7 : decode cX0_isUp 7 = .ok (.ishr, 1) := by decide +kernel
theorem dX0_isUp_8 : decode cX0_isUp 8 = .ok (.iconst 1, 1) := by decide +kernel
theorem dX0_isUp_9 : decode cX0_isUp 9 = .ok (.iand, 1) := by decide +kernel
theorem dX0_isUp_10 : decode cX0_isUp 10 = .ok (.ifCond .eq 7, 3) := by decide +kernel
theorem dX0_isUp_13 : decode cX0_isUp 13 = .ok (.iconst 1, 1) := by decide +kernel
theorem dX0_isUp_14 : decode cX0_isUp 14 = .ok (.goto 4, 3) := by decide +kernel
theorem dX0_isUp_17 : decode cX0_isUp 17 = .ok (.iconst 0, 1) := by decide +kernel
theorem dX0_isUp_18 : decode cX0_isUp 18 = .ok (.ireturn, 1) := by decide +kernel
theorem dX0_nightsUp_0 : decode cX0_nightsUp 0 = .ok (.iconst 0, 1) := by decide +kernel
theorem dX0_nightsUp_1 : decode cX0_nightsUp 1 = .ok (.istore_n 2, 1) := by decide +kernel
theorem dX0_nightsUp_2 : decode cX0_nightsUp 2 = .ok (.iconst 0, 1) := by decide +kernel
theorem dX0_nightsUp_3 : decode cX0_nightsUp 3 = .ok (.istore_n 3, 1) := by decide +kernel
theorem dX0_nightsUp_4 : decode cX0_nightsUp 4 = .ok (.iload_n 3, 1) := by decide +kernel
theorem dX0_nightsUp_5 : decode cX0_nightsUp 5 = .ok (.bipush 24, 2) := by decide +kernel
theorem dX0_nightsUp_7 : decode cX0_nightsUp 7 = .ok (.if_icmp .ge 21, 3) := by decide +kernel
theorem dX0_nightsUp_10 : decode cX0_nightsUp 10 = .ok (.aload_n 0, 1) := by decide +kernel
theorem dX0_nightsUp_11 : decode cX0_nightsUp 11 = .ok (.iload_n 3, 1) := by decide +kernel
theorem dX0_nightsUp_12 : decode cX0_nightsUp 12 = .ok (.iload_n 1, 1) := by decide +kernel
theorem dX0_nightsUp_13 : decode cX0_nightsUp 13 = .ok (.invokevirtual 112, 3) := by decide +kernel
theorem dX0_nightsUp_16 : decode cX0_nightsUp 16 = .ok (.ifCond .eq 6, 3) := by decide +kernel
theorem dX0_nightsUp_19 : decode cX0_nightsUp 19 = .ok (.iinc 2 1, 3) := by decide +kernel
theorem dX0_nightsUp_22 : decode cX0_nightsUp 22 = .ok (.iinc 3 1, 3) := by decide +kernel
theorem dX0_nightsUp_25 : decode cX0_nightsUp 25 = .ok (.goto (-21), 3) := by decide +kernel
theorem dX0_nightsUp_28 : decode cX0_nightsUp 28 = .ok (.iload_n 2, 1) := by decide +kernel
theorem dX0_nightsUp_29 : decode cX0_nightsUp 29 = .ok (.ireturn, 1) := by decide +kernel
theorem dX0_timesUpBy_0 : decode cX0_timesUpBy 0 = .ok (.iconst 0, 1) := by decide +kernel
theorem dX0_timesUpBy_1 : decode cX0_timesUpBy 1 = .ok (.istore_n 3, 1) := by decide +kernel
theorem dX0_timesUpBy_2 : decode cX0_timesUpBy 2 = .ok (.iconst 0, 1) := by decide +kernel
theorem dX0_timesUpBy_3 : decode cX0_timesUpBy 3 = .ok (.istore 4, 2) := by decide +kernel
theorem dX0_timesUpBy_5 : decode cX0_timesUpBy 5 = .ok (.iload 4, 2) := by decide +kernel
theorem dX0_timesUpBy_7 : decode cX0_timesUpBy 7 = .ok (.aload_n 0, 1) := by decide +kernel
theorem dX0_timesUpBy_8 : decode cX0_timesUpBy 8 = .ok (.getfield 30, 3) := by decide +kernel
theorem dX0_timesUpBy_11 : decode cX0_timesUpBy 11 = .ok (.if_icmp .ge 34, 3) := by decide +kernel
theorem dX0_timesUpBy_14 : decode cX0_timesUpBy 14 = .ok (.aload_n 0, 1) := by decide +kernel
theorem dX0_timesUpBy_15 : decode cX0_timesUpBy 15 = .ok (.getfield 27, 3) := by decide +kernel
theorem dX0_timesUpBy_18 : decode cX0_timesUpBy 18 = .ok (.iload 4, 2) := by decide +kernel
theorem dX0_timesUpBy_20 : decode cX0_timesUpBy 20 = .ok (.iaload, 1) := by decide +kernel
theorem dX0_timesUpBy_21 : decode cX0_timesUpBy 21 = .ok (.iload_n 2, 1) := by decide +kernel
theorem dX0_timesUpBy_22 : decode cX0_timesUpBy 22 = .ok (.if_icmp .ne 17, 3) := by decide +kernel
theorem dX0_timesUpBy_25 : decode cX0_timesUpBy 25 = .ok (.aload_n 0, 1) := by decide +kernel
theorem dX0_timesUpBy_26 : decode cX0_timesUpBy 26 = .ok (.getfield 24, 3) := by decide +kernel
theorem dX0_timesUpBy_29 : decode cX0_timesUpBy 29 = .ok (.iload 4, 2) := by decide +kernel
theorem dX0_timesUpBy_31 : decode cX0_timesUpBy 31 = .ok (.iaload, 1) := by decide +kernel
theorem dX0_timesUpBy_32 : decode cX0_timesUpBy 32 = .ok (.iload_n 1, 1) := by decide +kernel
theorem dX0_timesUpBy_33 : decode cX0_timesUpBy 33 = .ok (.if_icmp .gt 6, 3) := by decide +kernel
theorem dX0_timesUpBy_36 : decode cX0_timesUpBy 36 = .ok (.iinc 3 1, 3) := by decide +kernel
theorem dX0_timesUpBy_39 : decode cX0_timesUpBy 39 = .ok (.iinc 4 1, 3) := by decide +kernel
theorem dX0_timesUpBy_42 : decode cX0_timesUpBy 42 = .ok (.goto (-37), 3) := by decide +kernel
theorem dX0_timesUpBy_45 : decode cX0_timesUpBy 45 = .ok (.iload_n 3, 1) := by decide +kernel
theorem dX0_timesUpBy_46 : decode cX0_timesUpBy 46 = .ok (.ireturn, 1) := by decide +kernel
theorem dX0_isOpenBehind_0 : decode cX0_isOpenBehind 0 = .ok (.aload_n 1, 1) := by decide +kernel
theorem dX0_isOpenBehind_1 : decode cX0_isOpenBehind 1 = .ok (.getfield 92, 3) := by decide +kernel
theorem dX0_isOpenBehind_4 : decode cX0_isOpenBehind 4 = .ok (.iload_n 2, 1) := by decide +kernel
theorem dX0_isOpenBehind_5 : decode cX0_isOpenBehind 5 = .ok (.iaload, 1) := by decide +kernel
theorem dX0_isOpenBehind_6 : decode cX0_isOpenBehind 6 = .ok (.iload_n 3, 1) := by decide +kernel
theorem dX0_isOpenBehind_7 : decode cX0_isOpenBehind 7 = .ok (.if_icmp .gt 27, 3) := by decide +kernel
theorem dX0_isOpenBehind_10 : decode cX0_isOpenBehind 10 = .ok (.aload_n 0, 1) := by decide +kernel
theorem dX0_isOpenBehind_11 : decode cX0_isOpenBehind 11 = .ok (.getfield 9, 3) := by decide +kernel
theorem dX0_isOpenBehind_14 : decode cX0_isOpenBehind 14 = .ok (.iload_n 2, 1) := by decide +kernel
theorem dX0_isOpenBehind_15 : decode cX0_isOpenBehind 15 = .ok (.iaload, 1) := by decide +kernel
theorem dX0_isOpenBehind_16 : decode cX0_isOpenBehind 16 = .ok (.iconst (-1), 1) := by decide +kernel
theorem dX0_isOpenBehind_17 : decode cX0_isOpenBehind 17 = .ok (.if_icmp .eq 13, 3) := by decide +kernel
theorem dX0_isOpenBehind_20 : decode cX0_isOpenBehind 20 = .ok (.aload_n 0, 1) := by decide +kernel
theorem dX0_isOpenBehind_21 : decode cX0_isOpenBehind 21 = .ok (.getfield 9, 3) := by decide +kernel
theorem dX0_isOpenBehind_24 : decode cX0_isOpenBehind 24 = .ok (.iload_n 2, 1) := by decide +kernel
theorem dX0_isOpenBehind_25 : decode cX0_isOpenBehind 25 = .ok (.iaload, 1) := by decide +kernel
theorem dX0_isOpenBehind_26 : decode cX0_isOpenBehind 26 = .ok (.iload_n 3, 1) := by decide +kernel
theorem dX0_isOpenBehind_27 : decode cX0_isOpenBehind 27 = .ok (.if_icmp .le 7, 3) := by decide +kernel
theorem dX0_isOpenBehind_30 : decode cX0_isOpenBehind 30 = .ok (.iconst 1, 1) := by decide +kernel
theorem dX0_isOpenBehind_31 : decode cX0_isOpenBehind 31 = .ok (.goto 4, 3) := by decide +kernel
theorem dX0_isOpenBehind_34 : decode cX0_isOpenBehind 34 = .ok (.iconst 0, 1) := by decide +kernel
theorem dX0_isOpenBehind_35 : decode cX0_isOpenBehind 35 = .ok (.ireturn, 1) := by decide +kernel
theorem dX0_wantedBehind_0 : decode cX0_wantedBehind 0 = .ok (.iconst 0, 1) := by decide +kernel
theorem dX0_wantedBehind_1 : decode cX0_wantedBehind 1 = .ok (.istore 4, 2) := by decide +kernel
theorem dX0_wantedBehind_3 : decode cX0_wantedBehind 3 = .ok (.iconst 0, 1) := by decide +kernel
theorem dX0_wantedBehind_4 : decode cX0_wantedBehind 4 = .ok (.istore 5, 2) := by decide +kernel
theorem dX0_wantedBehind_6 : decode cX0_wantedBehind 6 = .ok (.iload 5, 2) := by decide +kernel
theorem dX0_wantedBehind_8 : decode cX0_wantedBehind 8 = .ok (.aload_n 1, 1) := by decide +kernel
theorem dX0_wantedBehind_9 : decode cX0_wantedBehind 9 = .ok (.getfield 89, 3) := by decide +kernel
theorem dX0_wantedBehind_12 : decode cX0_wantedBehind 12 = .ok (.if_icmp .ge 43, 3) := by decide +kernel
theorem dX0_wantedBehind_15 : decode cX0_wantedBehind 15 = .ok (.aload_n 1, 1) := by decide +kernel
theorem dX0_wantedBehind_16 : decode cX0_wantedBehind 16 = .ok (.getfield 93, 3) := by decide +kernel
theorem dX0_wantedBehind_19 : decode cX0_wantedBehind 19 = .ok (.iload 5, 2) := by decide +kernel
theorem dX0_wantedBehind_21 : decode cX0_wantedBehind 21 = .ok (.iaload, 1) := by decide +kernel
theorem dX0_wantedBehind_22 : decode cX0_wantedBehind 22 = .ok (.iload_n 3, 1) := by decide +kernel
theorem dX0_wantedBehind_23 : decode cX0_wantedBehind 23 = .ok (.if_icmp .ne 26, 3) := by decide +kernel
theorem dX0_wantedBehind_26 : decode cX0_wantedBehind 26 = .ok (.aload_n 0, 1) := by decide +kernel
theorem dX0_wantedBehind_27 : decode cX0_wantedBehind 27 = .ok (.aload_n 1, 1) := by decide +kernel
theorem dX0_wantedBehind_28 : decode cX0_wantedBehind 28 = .ok (.iload 5, 2) := by decide +kernel
theorem dX0_wantedBehind_30 : decode cX0_wantedBehind 30 = .ok (.iload_n 2, 1) := by decide +kernel
theorem dX0_wantedBehind_31 : decode cX0_wantedBehind 31 = .ok (.invokevirtual 116, 3) := by decide +kernel
theorem dX0_wantedBehind_34 : decode cX0_wantedBehind 34 = .ok (.ifCond .eq 15, 3) := by decide +kernel
theorem dX0_wantedBehind_37 : decode cX0_wantedBehind 37 = .ok (.iload 4, 2) := by decide +kernel
theorem dX0_wantedBehind_39 : decode cX0_wantedBehind 39 = .ok (.aload_n 1, 1) := by decide +kernel
theorem dX0_wantedBehind_40 : decode cX0_wantedBehind 40 = .ok (.iload 5, 2) := by decide +kernel
theorem dX0_wantedBehind_42 : decode cX0_wantedBehind 42 = .ok (.iload_n 2, 1) := by decide +kernel
theorem dX0_wantedBehind_43 : decode cX0_wantedBehind 43 = .ok (.invokevirtual 96, 3) := by decide +kernel
theorem dX0_wantedBehind_46 : decode cX0_wantedBehind 46 = .ok (.iadd, 1) := by decide +kernel
theorem dX0_wantedBehind_47 : decode cX0_wantedBehind 47 = .ok (.istore 4, 2) := by decide +kernel
theorem dX0_wantedBehind_49 : decode cX0_wantedBehind 49 = .ok (.iinc 5 1, 3) := by decide +kernel
theorem dX0_wantedBehind_52 : decode cX0_wantedBehind 52 = .ok (.goto (-46), 3) := by decide +kernel
theorem dX0_wantedBehind_55 : decode cX0_wantedBehind 55 = .ok (.iload 4, 2) := by decide +kernel
theorem dX0_wantedBehind_57 : decode cX0_wantedBehind 57 = .ok (.ireturn, 1) := by decide +kernel
theorem dX0_openBehind_0 : decode cX0_openBehind 0 = .ok (.iconst 0, 1) := by decide +kernel
theorem dX0_openBehind_1 : decode cX0_openBehind 1 = .ok (.istore_n 3, 1) := by decide +kernel
theorem dX0_openBehind_2 : decode cX0_openBehind 2 = .ok (.iconst 0, 1) := by decide +kernel
theorem dX0_openBehind_3 : decode cX0_openBehind 3 = .ok (.istore 4, 2) := by decide +kernel
theorem dX0_openBehind_5 : decode cX0_openBehind 5 = .ok (.iload 4, 2) := by decide +kernel
theorem dX0_openBehind_7 : decode cX0_openBehind 7 = .ok (.aload_n 1, 1) := by decide +kernel
theorem dX0_openBehind_8 : decode cX0_openBehind 8 = .ok (.getfield 89, 3) := by decide +kernel
theorem dX0_openBehind_11 : decode cX0_openBehind 11 = .ok (.if_icmp .ge 23, 3) := by decide +kernel
theorem dX0_openBehind_14 : decode cX0_openBehind 14 = .ok (.aload_n 0, 1) := by decide +kernel
theorem dX0_openBehind_15 : decode cX0_openBehind 15 = .ok (.aload_n 1, 1) := by decide +kernel
theorem dX0_openBehind_16 : decode cX0_openBehind 16 = .ok (.iload 4, 2) := by decide +kernel
theorem dX0_openBehind_18 : decode cX0_openBehind 18 = .ok (.iload_n 2, 1) := by decide +kernel
theorem dX0_openBehind_19 : decode cX0_openBehind 19 = .ok (.invokevirtual 116, 3) := by decide +kernel
theorem dX0_openBehind_22 : decode cX0_openBehind 22 = .ok (.ifCond .eq 6, 3) := by decide +kernel
theorem dX0_openBehind_25 : decode cX0_openBehind 25 = .ok (.iinc 3 1, 3) := by decide +kernel
theorem dX0_openBehind_28 : decode cX0_openBehind 28 = .ok (.iinc 4 1, 3) := by decide +kernel
theorem dX0_openBehind_31 : decode cX0_openBehind 31 = .ok (.goto (-26), 3) := by decide +kernel
theorem dX0_openBehind_34 : decode cX0_openBehind 34 = .ok (.iload_n 3, 1) := by decide +kernel
theorem dX0_openBehind_35 : decode cX0_openBehind 35 = .ok (.ireturn, 1) := by decide +kernel
theorem dX0_howManyMet_0 : decode cX0_howManyMet 0 = .ok (.iconst 0, 1) := by decide +kernel
theorem dX0_howManyMet_1 : decode cX0_howManyMet 1 = .ok (.istore_n 2, 1) := by decide +kernel
theorem dX0_howManyMet_2 : decode cX0_howManyMet 2 = .ok (.iconst 0, 1) := by decide +kernel
theorem dX0_howManyMet_3 : decode cX0_howManyMet 3 = .ok (.istore_n 3, 1) := by decide +kernel
theorem dX0_howManyMet_4 : decode cX0_howManyMet 4 = .ok (.iload_n 3, 1) := by decide +kernel
theorem dX0_howManyMet_5 : decode cX0_howManyMet 5 = .ok (.aload_n 1, 1) := by decide +kernel
theorem dX0_howManyMet_6 : decode cX0_howManyMet 6 = .ok (.getfield 89, 3) := by decide +kernel
theorem dX0_howManyMet_9 : decode cX0_howManyMet 9 = .ok (.if_icmp .ge 22, 3) := by decide +kernel
theorem dX0_howManyMet_12 : decode cX0_howManyMet 12 = .ok (.aload_n 0, 1) := by decide +kernel
theorem dX0_howManyMet_13 : decode cX0_howManyMet 13 = .ok (.getfield 9, 3) := by decide +kernel
theorem dX0_howManyMet_16 : decode cX0_howManyMet 16 = .ok (.iload_n 3, 1) := by decide +kernel
theorem dX0_howManyMet_17 : decode cX0_howManyMet 17 = .ok (.iaload, 1) := by decide +kernel
theorem dX0_howManyMet_18 : decode cX0_howManyMet 18 = .ok (.iconst (-1), 1) := by decide +kernel
theorem dX0_howManyMet_19 : decode cX0_howManyMet 19 = .ok (.if_icmp .eq 6, 3) := by decide +kernel
theorem dX0_howManyMet_22 : decode cX0_howManyMet 22 = .ok (.iinc 2 1, 3) := by decide +kernel
theorem dX0_howManyMet_25 : decode cX0_howManyMet 25 = .ok (.iinc 3 1, 3) := by decide +kernel
theorem dX0_howManyMet_28 : decode cX0_howManyMet 28 = .ok (.goto (-24), 3) := by decide +kernel
theorem dX0_howManyMet_31 : decode cX0_howManyMet 31 = .ok (.iload_n 2, 1) := by decide +kernel
theorem dX0_howManyMet_32 : decode cX0_howManyMet 32 = .ok (.ireturn, 1) := by decide +kernel
theorem dX1_init_0 : decode cX1_init 0 = .ok (.aload_n 0, 1) := by decide +kernel
theorem dX1_init_1 : decode cX1_init 1 = .ok (.invokespecial 3, 3) := by decide +kernel
theorem dX1_init_4 : decode cX1_init 4 = .ok (.aload_n 0, 1) := by decide +kernel
theorem dX1_init_5 : decode cX1_init 5 = .ok (.bipush 9, 2) := by decide +kernel
theorem dX1_init_7 : decode cX1_init 7 = .ok (.newarray .int, 2) := by decide +kernel
theorem dX1_init_9 : decode cX1_init 9 = .ok (.putfield 9, 3) := by decide +kernel
theorem dX1_init_12 : decode cX1_init 12 = .ok (.aload_n 0, 1) := by decide +kernel
theorem dX1_init_13 : decode cX1_init 13 = .ok (.bipush 9, 2) := by decide +kernel
theorem dX1_init_15 : decode cX1_init 15 = .ok (.newarray .int, 2) := by decide +kernel
theorem dX1_init_17 : decode cX1_init 17 = .ok (.putfield 15, 3) := by decide +kernel
theorem dX1_init_20 : decode cX1_init 20 = .ok (.aload_n 0, 1) := by decide +kernel
theorem dX1_init_21 : decode cX1_init 21 = .ok (.bipush 9, 2) := by decide +kernel
theorem dX1_init_23 : decode cX1_init 23 = .ok (.newarray .int, 2) := by decide +kernel
theorem dX1_init_25 : decode cX1_init 25 = .ok (.putfield 18, 3) := by decide +kernel
theorem dX1_init_28 : decode cX1_init 28 = .ok (.aload_n 0, 1) := by decide +kernel
theorem dX1_init_29 : decode cX1_init 29 = .ok (.bipush 9, 2) := by decide +kernel
theorem dX1_init_31 : decode cX1_init 31 = .ok (.newarray .int, 2) := by decide +kernel
theorem dX1_init_33 : decode cX1_init 33 = .ok (.putfield 21, 3) := by decide +kernel
theorem dX1_init_36 : decode cX1_init 36 = .ok (.aload_n 0, 1) := by decide +kernel
theorem dX1_init_37 : decode cX1_init 37 = .ok (.iconst 0, 1) := by decide +kernel
theorem dX1_init_38 : decode cX1_init 38 = .ok (.putfield 24, 3) := by decide +kernel
theorem dX1_init_41 : decode cX1_init 41 = .ok (.return_, 1) := by decide +kernel
theorem dX1_add_0 : decode cX1_add 0 = .ok (.aload_n 0, 1) := by decide +kernel
theorem dX1_add_1 : decode cX1_add 1 = .ok (.getfield 24, 3) := by decide +kernel
theorem dX1_add_4 : decode cX1_add 4 = .ok (.bipush 8, 2) := by decide +kernel
theorem dX1_add_6 : decode cX1_add 6 = .ok (.if_icmp .le 4, 3) := by decide +kernel
theorem dX1_add_9 : decode cX1_add 9 = .ok (.return_, 1) := by decide +kernel
theorem dX1_add_10 : decode cX1_add 10 = .ok (.aload_n 0, 1) := by decide +kernel
theorem dX1_add_11 : decode cX1_add 11 = .ok (.getfield 9, 3) := by decide +kernel
theorem dX1_add_14 : decode cX1_add 14 = .ok (.aload_n 0, 1) := by decide +kernel
theorem dX1_add_15 : decode cX1_add 15 = .ok (.getfield 24, 3) := by decide +kernel
theorem dX1_add_18 : decode cX1_add 18 = .ok (.iload_n 1, 1) := by decide +kernel
theorem dX1_add_19 : decode cX1_add 19 = .ok (.iastore, 1) := by decide +kernel
theorem dX1_add_20 : decode cX1_add 20 = .ok (.aload_n 0, 1) := by decide +kernel
theorem dX1_add_21 : decode cX1_add 21 = .ok (.getfield 15, 3) := by decide +kernel
theorem dX1_add_24 : decode cX1_add 24 = .ok (.aload_n 0, 1) := by decide +kernel
theorem dX1_add_25 : decode cX1_add 25 = .ok (.getfield 24, 3) := by decide +kernel
theorem dX1_add_28 : decode cX1_add 28 = .ok (.iload_n 2, 1) := by decide +kernel
theorem dX1_add_29 : decode cX1_add 29 = .ok (.iastore, 1) := by decide +kernel
theorem dX1_add_30 : decode cX1_add 30 = .ok (.aload_n 0, 1) := by decide +kernel
theorem dX1_add_31 : decode cX1_add 31 = .ok (.getfield 18, 3) := by decide +kernel
theorem dX1_add_34 : decode cX1_add 34 = .ok (.aload_n 0, 1) := by decide +kernel
theorem dX1_add_35 : decode cX1_add 35 = .ok (.getfield 24, 3) := by decide +kernel
theorem dX1_add_38 : decode cX1_add 38 = .ok (.iload_n 3, 1) := by decide +kernel
theorem dX1_add_39 : decode cX1_add 39 = .ok (.iastore, 1) := by decide +kernel
theorem dX1_add_40 : decode cX1_add 40 = .ok (.aload_n 0, 1) := by decide +kernel
theorem dX1_add_41 : decode cX1_add 41 = .ok (.getfield 24, 3) := by decide +kernel
theorem dX1_add_44 : decode cX1_add 44 = .ok (.istore 4, 2) := by decide +kernel
theorem dX1_add_46 : decode cX1_add 46 = .ok (.aload_n 0, 1) := by decide +kernel
theorem dX1_add_47 : decode cX1_add 47 = .ok (.getfield 24, 3) := by decide +kernel
theorem dX1_add_50 : decode cX1_add 50 = .ok (.iconst 1, 1) := by decide +kernel
theorem dX1_add_51 : decode cX1_add 51 = .ok (.isub, 1) := by decide +kernel
theorem dX1_add_52 : decode cX1_add 52 = .ok (.istore 5, 2) := by decide +kernel
theorem dX1_add_54 : decode cX1_add 54 = .ok (.iload 5, 2) := by decide +kernel
theorem dX1_add_56 : decode cX1_add 56 = .ok (.ifCond .lt 45, 3) := by decide +kernel
theorem dX1_add_59 : decode cX1_add 59 = .ok (.aload_n 0, 1) := by decide +kernel
theorem dX1_add_60 : decode cX1_add 60 = .ok (.getfield 15, 3) := by decide +kernel
theorem dX1_add_63 : decode cX1_add 63 = .ok (.aload_n 0, 1) := by decide +kernel
theorem dX1_add_64 : decode cX1_add 64 = .ok (.getfield 21, 3) := by decide +kernel
theorem dX1_add_67 : decode cX1_add 67 = .ok (.iload 5, 2) := by decide +kernel
theorem dX1_add_69 : decode cX1_add 69 = .ok (.iaload, 1) := by decide +kernel
theorem dX1_add_70 : decode cX1_add 70 = .ok (.iaload, 1) := by decide +kernel
theorem dX1_add_71 : decode cX1_add 71 = .ok (.iload_n 2, 1) := by decide +kernel
theorem dX1_add_72 : decode cX1_add 72 = .ok (.if_icmp .le 29, 3) := by decide +kernel
theorem dX1_add_75 : decode cX1_add 75 = .ok (.aload_n 0, 1) := by decide +kernel
theorem dX1_add_76 : decode cX1_add 76 = .ok (.getfield 21, 3) := by decide +kernel
theorem dX1_add_79 : decode cX1_add 79 = .ok (.iload 5, 2) := by decide +kernel
theorem dX1_add_81 : decode cX1_add 81 = .ok (.iconst 1, 1) := by decide +kernel
theorem dX1_add_82 : decode cX1_add 82 = .ok (.iadd, 1) := by decide +kernel
theorem dX1_add_83 : decode cX1_add 83 = .ok (.aload_n 0, 1) := by decide +kernel
theorem dX1_add_84 : decode cX1_add 84 = .ok (.getfield 21, 3) := by decide +kernel
theorem dX1_add_87 : decode cX1_add 87 = .ok (.iload 5, 2) := by decide +kernel
theorem dX1_add_89 : decode cX1_add 89 = .ok (.iaload, 1) := by decide +kernel
theorem dX1_add_90 : decode cX1_add 90 = .ok (.iastore, 1) := by decide +kernel
theorem dX1_add_91 : decode cX1_add 91 = .ok (.iload 5, 2) := by decide +kernel
theorem dX1_add_93 : decode cX1_add 93 = .ok (.istore 4, 2) := by decide +kernel
theorem dX1_add_95 : decode cX1_add 95 = .ok (.iinc 5 (-1), 3) := by decide +kernel
theorem dX1_add_98 : decode cX1_add 98 = .ok (.goto (-44), 3) := by decide +kernel
theorem dX1_add_101 : decode cX1_add 101 = .ok (.aload_n 0, 1) := by decide +kernel
theorem dX1_add_102 : decode cX1_add 102 = .ok (.getfield 21, 3) := by decide +kernel
theorem dX1_add_105 : decode cX1_add 105 = .ok (.iload 4, 2) := by decide +kernel
theorem dX1_add_107 : decode cX1_add 107 = .ok (.aload_n 0, 1) := by decide +kernel
theorem dX1_add_108 : decode cX1_add 108 = .ok (.getfield 24, 3) := by decide +kernel
theorem dX1_add_111 : decode cX1_add 111 = .ok (.iastore, 1) := by decide +kernel
theorem dX1_add_112 : decode cX1_add 112 = .ok (.aload_n 0, 1) := by decide +kernel
theorem dX1_add_113 : decode cX1_add 113 = .ok (.dup, 1) := by decide +kernel
theorem dX1_add_114 : decode cX1_add 114 = .ok (.getfield 24, 3) := by decide +kernel
theorem dX1_add_117 : decode cX1_add 117 = .ok (.iconst 1, 1) := by decide +kernel
theorem dX1_add_118 : decode cX1_add 118 = .ok (.iadd, 1) := by decide +kernel
theorem dX1_add_119 : decode cX1_add 119 = .ok (.putfield 24, 3) := by decide +kernel
theorem dX1_add_122 : decode cX1_add 122 = .ok (.return_, 1) := by decide +kernel
theorem dX1_dropLast_0 : decode cX1_dropLast 0 = .ok (.aload_n 0, 1) := by decide +kernel
theorem dX1_dropLast_1 : decode cX1_dropLast 1 = .ok (.getfield 24, 3) := by decide +kernel
theorem dX1_dropLast_4 : decode cX1_dropLast 4 = .ok (.ifCond .ne 4, 3) := by decide +kernel
theorem dX1_dropLast_7 : decode cX1_dropLast 7 = .ok (.return_, 1) := by decide +kernel
theorem dX1_dropLast_8 : decode cX1_dropLast 8 = .ok (.iconst 0, 1) := by decide +kernel
theorem dX1_dropLast_9 : decode cX1_dropLast 9 = .ok (.istore_n 1, 1) := by decide +kernel
theorem dX1_dropLast_10 : decode cX1_dropLast 10 = .ok (.iconst 0, 1) := by decide +kernel
theorem dX1_dropLast_11 : decode cX1_dropLast 11 = .ok (.istore_n 2, 1) := by decide +kernel
theorem dX1_dropLast_12 : decode cX1_dropLast 12 = .ok (.iload_n 2, 1) := by decide +kernel
theorem dX1_dropLast_13 : decode cX1_dropLast 13 = .ok (.aload_n 0, 1) := by decide +kernel
theorem dX1_dropLast_14 : decode cX1_dropLast 14 = .ok (.getfield 24, 3) := by decide +kernel
theorem dX1_dropLast_17 : decode cX1_dropLast 17 = .ok (.if_icmp .ge 39, 3) := by decide +kernel
theorem dX1_dropLast_20 : decode cX1_dropLast 20 = .ok (.aload_n 0, 1) := by decide +kernel
theorem dX1_dropLast_21 : decode cX1_dropLast 21 = .ok (.getfield 21, 3) := by decide +kernel
theorem dX1_dropLast_24 : decode cX1_dropLast 24 = .ok (.iload_n 2, 1) := by decide +kernel
theorem dX1_dropLast_25 : decode cX1_dropLast 25 = .ok (.iaload, 1) := by decide +kernel
theorem dX1_dropLast_26 : decode cX1_dropLast 26 = .ok (.aload_n 0, 1) := by decide +kernel
theorem dX1_dropLast_27 : decode cX1_dropLast 27 = .ok (.getfield 24, 3) := by decide +kernel
theorem dX1_dropLast_30 : decode cX1_dropLast 30 = .ok (.iconst 1, 1) := by decide +kernel
theorem dX1_dropLast_31 : decode cX1_dropLast 31 = .ok (.isub, 1) := by decide +kernel
theorem dX1_dropLast_32 : decode cX1_dropLast 32 = .ok (.if_icmp .eq 18, 3) := by decide +kernel
theorem dX1_dropLast_35 : decode cX1_dropLast 35 = .ok (.aload_n 0, 1) := by decide +kernel
theorem dX1_dropLast_36 : decode cX1_dropLast 36 = .ok (.getfield 21, 3) := by decide +kernel
theorem dX1_dropLast_39 : decode cX1_dropLast 39 = .ok (.iload_n 1, 1) := by decide +kernel
theorem dX1_dropLast_40 : decode cX1_dropLast 40 = .ok (.aload_n 0, 1) := by decide +kernel
theorem dX1_dropLast_41 : decode cX1_dropLast 41 = .ok (.getfield 21, 3) := by decide +kernel
theorem dX1_dropLast_44 : decode cX1_dropLast 44 = .ok (.iload_n 2, 1) := by decide +kernel
theorem dX1_dropLast_45 : decode cX1_dropLast 45 = .ok (.iaload, 1) := by decide +kernel
theorem dX1_dropLast_46 : decode cX1_dropLast 46 = .ok (.iastore, 1) := by decide +kernel
theorem dX1_dropLast_47 : decode cX1_dropLast 47 = .ok (.iinc 1 1, 3) := by decide +kernel
theorem dX1_dropLast_50 : decode cX1_dropLast 50 = .ok (.iinc 2 1, 3) := by decide +kernel
theorem dX1_dropLast_53 : decode cX1_dropLast 53 = .ok (.goto (-41), 3) := by decide +kernel
theorem dX1_dropLast_56 : decode cX1_dropLast 56 = .ok (.aload_n 0, 1) := by decide +kernel
theorem dX1_dropLast_57 : decode cX1_dropLast 57 = .ok (.dup, 1) := by decide +kernel
theorem dX1_dropLast_58 : decode cX1_dropLast 58 = .ok (.getfield 24, 3) := by decide +kernel
theorem dX1_dropLast_61 : decode cX1_dropLast 61 = .ok (.iconst 1, 1) := by decide +kernel
theorem dX1_dropLast_62 : decode cX1_dropLast 62 = .ok (.isub, 1) := by decide +kernel
theorem dX1_dropLast_63 : decode cX1_dropLast 63 = .ok (.putfield 24, 3) := by decide +kernel
theorem dX1_dropLast_66 : decode cX1_dropLast 66 = .ok (.return_, 1) := by decide +kernel
theorem dX2_init_0 : decode cX2_init 0 = .ok (.aload_n 0, 1) := by decide +kernel
theorem dX2_init_1 : decode cX2_init 1 = .ok (.iconst 5, 1) := by decide +kernel
theorem dX2_init_2 : decode cX2_init 2 = .ok (.invokespecial 3, 3) := by decide +kernel
theorem dX2_init_5 : decode cX2_init 5 = .ok (.aload_n 0, 1) := by decide +kernel
theorem dX2_init_6 : decode cX2_init 6 = .ok (.bipush 8, 2) := by decide +kernel
theorem dX2_init_8 : decode cX2_init 8 = .ok (.newarray .int, 2) := by decide +kernel
theorem dX2_init_10 : decode cX2_init 10 = .ok (.putfield 9, 3) := by decide +kernel
theorem dX2_init_13 : decode cX2_init 13 = .ok (.aload_n 0, 1) := by decide +kernel
theorem dX2_init_14 : decode cX2_init 14 = .ok (.bipush 8, 2) := by decide +kernel
theorem dX2_init_16 : decode cX2_init 16 = .ok (.newarray .int, 2) := by decide +kernel
theorem dX2_init_18 : decode cX2_init 18 = .ok (.putfield 15, 3) := by decide +kernel
theorem dX2_init_21 : decode cX2_init 21 = .ok (.aload_n 0, 1) := by decide +kernel
theorem dX2_init_22 : decode cX2_init 22 = .ok (.bipush 8, 2) := by decide +kernel
theorem dX2_init_24 : decode cX2_init 24 = .ok (.newarray .int, 2) := by decide +kernel
theorem dX2_init_26 : decode cX2_init 26 = .ok (.putfield 18, 3) := by decide +kernel
theorem dX2_init_29 : decode cX2_init 29 = .ok (.aload_n 0, 1) := by decide +kernel
theorem dX2_init_30 : decode cX2_init 30 = .ok (.bipush 8, 2) := by decide +kernel
theorem dX2_init_32 : decode cX2_init 32 = .ok (.newarray .int, 2) := by decide +kernel
theorem dX2_init_34 : decode cX2_init 34 = .ok (.putfield 21, 3) := by decide +kernel
theorem dX2_init_37 : decode cX2_init 37 = .ok (.return_, 1) := by decide +kernel
theorem dX2_takesByte_0 : decode cX2_takesByte 0 = .ok (.iload_n 3, 1) := by decide +kernel
theorem dX2_takesByte_1 : decode cX2_takesByte 1 = .ok (.bipush 48, 2) := by decide +kernel
theorem dX2_takesByte_3 : decode cX2_takesByte 3 = .ok (.isub, 1) := by decide +kernel
theorem dX2_takesByte_4 : decode cX2_takesByte 4 = .ok (.istore 4, 2) := by decide +kernel
theorem dX2_takesByte_6 : decode cX2_takesByte 6 = .ok (.iload_n 2, 1) := by decide +kernel
theorem dX2_takesByte_7 : decode cX2_takesByte 7 = .ok (.tableswitch 139 0 3 #[29, 55, 71, 112], 29) := by decide +kernel
theorem dX2_takesByte_36 : decode cX2_takesByte 36 = .ok (.aload_n 0, 1) := by decide +kernel
theorem dX2_takesByte_37 : decode cX2_takesByte 37 = .ok (.getfield 9, 3) := by decide +kernel
theorem dX2_takesByte_40 : decode cX2_takesByte 40 = .ok (.iload_n 1, 1) := by decide +kernel
theorem dX2_takesByte_41 : decode cX2_takesByte 41 = .ok (.iload_n 3, 1) := by decide +kernel
theorem dX2_takesByte_42 : decode cX2_takesByte 42 = .ok (.invokestatic 24, 3) := by decide +kernel
theorem dX2_takesByte_45 : decode cX2_takesByte 45 = .ok (.iastore, 1) := by decide +kernel
theorem dX2_takesByte_46 : decode cX2_takesByte 46 = .ok (.aload_n 0, 1) := by decide +kernel
theorem dX2_takesByte_47 : decode cX2_takesByte 47 = .ok (.getfield 9, 3) := by decide +kernel
theorem dX2_takesByte_50 : decode cX2_takesByte 50 = .ok (.iload_n 1, 1) := by decide +kernel
theorem dX2_takesByte_51 : decode cX2_takesByte 51 = .ok (.iaload, 1) := by decide +kernel
theorem dX2_takesByte_52 : decode cX2_takesByte 52 = .ok (.iconst (-1), 1) := by decide +kernel
theorem dX2_takesByte_53 : decode cX2_takesByte 53 = .ok (.if_icmp .eq 7, 3) := by decide +kernel
theorem dX2_takesByte_56 : decode cX2_takesByte 56 = .ok (.iconst 1, 1) := by decide +kernel
theorem dX2_takesByte_57 : decode cX2_takesByte 57 = .ok (.goto 4, 3) := by decide +kernel
theorem dX2_takesByte_60 : decode cX2_takesByte 60 = .ok (.iconst 0, 1) := by decide +kernel
theorem dX2_takesByte_61 : decode cX2_takesByte 61 = .ok (.ireturn, 1) := by decide +kernel
theorem dX2_takesByte_62 : decode cX2_takesByte 62 = .ok (.aload_n 0, 1) := by decide +kernel
theorem dX2_takesByte_63 : decode cX2_takesByte 63 = .ok (.getfield 15, 3) := by decide +kernel
theorem dX2_takesByte_66 : decode cX2_takesByte 66 = .ok (.iload_n 1, 1) := by decide +kernel
theorem dX2_takesByte_67 : decode cX2_takesByte 67 = .ok (.iload 4, 2) := by decide +kernel
theorem dX2_takesByte_69 : decode cX2_takesByte 69 = .ok (.iastore, 1) := by decide +kernel
theorem dX2_takesByte_70 : decode cX2_takesByte 70 = .ok (.iload 4, 2) := by decide +kernel
theorem dX2_takesByte_72 : decode cX2_takesByte 72 = .ok (.bipush 6, 2) := by decide +kernel
theorem dX2_takesByte_74 : decode cX2_takesByte 74 = .ok (.invokestatic 28, 3) := by decide +kernel
theorem dX2_takesByte_77 : decode cX2_takesByte 77 = .ok (.ireturn, 1) := by decide +kernel
theorem dX2_takesByte_78 : decode cX2_takesByte 78 = .ok (.aload_n 0, 1) := by decide +kernel
theorem dX2_takesByte_79 : decode cX2_takesByte 79 = .ok (.getfield 18, 3) := by decide +kernel
theorem dX2_takesByte_82 : decode cX2_takesByte 82 = .ok (.iload_n 1, 1) := by decide +kernel
theorem dX2_takesByte_83 : decode cX2_takesByte 83 = .ok (.iload 4, 2) := by decide +kernel
theorem dX2_takesByte_85 : decode cX2_takesByte 85 = .ok (.iastore, 1) := by decide +kernel
theorem dX2_takesByte_86 : decode cX2_takesByte 86 = .ok (.iload 4, 2) := by decide +kernel
theorem dX2_takesByte_88 : decode cX2_takesByte 88 = .ok (.bipush 6, 2) := by decide +kernel
theorem dX2_takesByte_90 : decode cX2_takesByte 90 = .ok (.invokestatic 28, 3) := by decide +kernel
theorem dX2_takesByte_93 : decode cX2_takesByte 93 = .ok (.ifCond .eq 24, 3) := by decide +kernel
theorem dX2_takesByte_96 : decode cX2_takesByte 96 = .ok (.aload_n 0, 1) := by decide +kernel
theorem dX2_takesByte_97 : decode cX2_takesByte 97 = .ok (.aload_n 0, 1) := by decide +kernel
theorem dX2_takesByte_98 : decode cX2_takesByte 98 = .ok (.getfield 15, 3) := by decide +kernel
theorem dX2_takesByte_101 : decode cX2_takesByte 101 = .ok (.iload_n 1, 1) := by decide +kernel
theorem dX2_takesByte_102 : decode cX2_takesByte 102 = .ok (.iaload, 1) := by decide +kernel
theorem dX2_takesByte_103 : decode cX2_takesByte 103 = .ok (.iload 4, 2) := by decide +kernel
theorem dX2_takesByte_105 : decode cX2_takesByte 105 = .ok (.iload_n 1, 1) := by decide +kernel
theorem dX2_takesByte_106 : decode cX2_takesByte 106 = .ok (.iload_n 1, 1) := by decide +kernel
theorem dX2_takesByte_107 : decode cX2_takesByte 107 = .ok (.invokevirtual 32, 3) := by decide +kernel
theorem dX2_takesByte_110 : decode cX2_takesByte 110 = .ok (.ifCond .ne 7, 3) := by decide +kernel
theorem dX2_takesByte_113 : decode cX2_takesByte 113 = .ok (.iconst 1, 1) := by decide +kernel
theorem dX2_takesByte_114 : decode cX2_takesByte 114 = .ok (.goto 4, 3) := by decide +kernel
theorem dX2_takesByte_117 : decode cX2_takesByte 117 = .ok (.iconst 0, 1) := by decide +kernel
theorem dX2_takesByte_118 : decode cX2_takesByte 118 = .ok (.ireturn, 1) := by decide +kernel
theorem dX2_takesByte_119 : decode cX2_takesByte 119 = .ok (.aload_n 0, 1) := by decide +kernel
theorem dX2_takesByte_120 : decode cX2_takesByte 120 = .ok (.getfield 21, 3) := by decide +kernel
theorem dX2_takesByte_123 : decode cX2_takesByte 123 = .ok (.iload_n 1, 1) := by decide +kernel
theorem dX2_takesByte_124 : decode cX2_takesByte 124 = .ok (.iload 4, 2) := by decide +kernel
theorem dX2_takesByte_126 : decode cX2_takesByte 126 = .ok (.iastore, 1) := by decide +kernel
theorem dX2_takesByte_127 : decode cX2_takesByte 127 = .ok (.iload 4, 2) := by decide +kernel
theorem dX2_takesByte_129 : decode cX2_takesByte 129 = .ok (.iconst 1, 1) := by decide +kernel
theorem dX2_takesByte_130 : decode cX2_takesByte 130 = .ok (.if_icmp .lt 14, 3) := by decide +kernel
theorem dX2_takesByte_133 : decode cX2_takesByte 133 = .ok (.iload 4, 2) := by decide +kernel
theorem dX2_takesByte_135 : decode cX2_takesByte 135 = .ok (.bipush 9, 2) := by decide +kernel
theorem dX2_takesByte_137 : decode cX2_takesByte 137 = .ok (.if_icmp .gt 7, 3) := by decide +kernel
theorem dX2_takesByte_140 : decode cX2_takesByte 140 = .ok (.iconst 1, 1) := by decide +kernel
theorem dX2_takesByte_141 : decode cX2_takesByte 141 = .ok (.goto 4, 3) := by decide +kernel
theorem dX2_takesByte_144 : decode cX2_takesByte 144 = .ok (.iconst 0, 1) := by decide +kernel
theorem dX2_takesByte_145 : decode cX2_takesByte 145 = .ok (.ireturn, 1) := by decide +kernel
theorem dX2_takesByte_146 : decode cX2_takesByte 146 = .ok (.iload_n 3, 1) := by decide +kernel
theorem dX2_takesByte_147 : decode cX2_takesByte 147 = .ok (.bipush 59, 2) := by decide +kernel
theorem dX2_takesByte_149 : decode cX2_takesByte 149 = .ok (.if_icmp .ne 7, 3) := by decide +kernel
theorem dX2_takesByte_152 : decode cX2_takesByte 152 = .ok (.iconst 1, 1) := by decide +kernel
theorem dX2_takesByte_153 : decode cX2_takesByte 153 = .ok (.goto 4, 3) := by decide +kernel
theorem dX2_takesByte_156 : decode cX2_takesByte 156 = .ok (.iconst 0, 1) := by decide +kernel
theorem dX2_takesByte_157 : decode cX2_takesByte 157 = .ok (.ireturn, 1) := by decide +kernel
theorem dX2_sortOf_0 : decode cX2_sortOf 0 = .ok (.iload_n 0, 1) := by decide +kernel
theorem dX2_sortOf_1 : decode cX2_sortOf 1 = .ok (.bipush 100, 2) := by decide +kernel
theorem dX2_sortOf_3 : decode cX2_sortOf 3 = .ok (.if_icmp .ne 5, 3) := by decide +kernel
theorem dX2_sortOf_6 : decode cX2_sortOf 6 = .ok (.iconst 0, 1) := by decide +kernel
theorem dX2_sortOf_7 : decode cX2_sortOf 7 = .ok (.ireturn, 1) := by decide +kernel
theorem dX2_sortOf_8 : decode cX2_sortOf 8 = .ok (.iload_n 0, 1) := by decide +kernel
theorem dX2_sortOf_9 : decode cX2_sortOf 9 = .ok (.bipush 99, 2) := by decide +kernel
theorem dX2_sortOf_11 : decode cX2_sortOf 11 = .ok (.if_icmp .ne 5, 3) := by decide +kernel
theorem dX2_sortOf_14 : decode cX2_sortOf 14 = .ok (.iconst 1, 1) := by decide +kernel
theorem dX2_sortOf_15 : decode cX2_sortOf 15 = .ok (.ireturn, 1) := by decide +kernel
theorem dX2_sortOf_16 : decode cX2_sortOf 16 = .ok (.iload_n 0, 1) := by decide +kernel
theorem dX2_sortOf_17 : decode cX2_sortOf 17 = .ok (.bipush 114, 2) := by decide +kernel
theorem dX2_sortOf_19 : decode cX2_sortOf 19 = .ok (.if_icmp .ne 7, 3) := by decide +kernel
theorem dX2_sortOf_22 : decode cX2_sortOf 22 = .ok (.iconst 2, 1) := by decide +kernel
theorem dX2_sortOf_23 : decode cX2_sortOf 23 = .ok (.goto 4, 3) := by decide +kernel
theorem dX2_sortOf_26 : decode cX2_sortOf 26 = .ok (.iconst (-1), 1) := by decide +kernel
theorem dX2_sortOf_27 : decode cX2_sortOf 27 = .ok (.ireturn, 1) := by decide +kernel
theorem dX2_liesAnother_0 : decode cX2_liesAnother 0 = .ok (.iconst 0, 1) := by decide +kernel
theorem dX2_liesAnother_1 : decode cX2_liesAnother 1 = .ok (.istore 5, 2) := by decide +kernel
theorem dX2_liesAnother_3 : decode cX2_liesAnother 3 = .ok (.iload 5, 2) := by decide +kernel
theorem dX2_liesAnother_5 : decode cX2_liesAnother 5 = .ok (.iload 4, 2) := by decide +kernel
theorem dX2_liesAnother_7 : decode cX2_liesAnother 7 = .ok (.if_icmp .ge 39, 3) := by decide +kernel
theorem dX2_liesAnother_10 : decode cX2_liesAnother 10 = .ok (.iload 5, 2) := by decide +kernel
theorem dX2_liesAnother_12 : decode cX2_liesAnother 12 = .ok (.iload_n 3, 1) := by decide +kernel
theorem dX2_liesAnother_13 : decode cX2_liesAnother 13 = .ok (.if_icmp .eq 27, 3) := by decide +kernel
theorem dX2_liesAnother_16 : decode cX2_liesAnother 16 = .ok (.aload_n 0, 1) := by decide +kernel
theorem dX2_liesAnother_17 : decode cX2_liesAnother 17 = .ok (.getfield 15, 3) := by decide +kernel
theorem dX2_liesAnother_20 : decode cX2_liesAnother 20 = .ok (.iload 5, 2) := by decide +kernel
theorem dX2_liesAnother_22 : decode cX2_liesAnother 22 = .ok (.iaload, 1) := by decide +kernel
theorem dX2_liesAnother_23 : decode cX2_liesAnother 23 = .ok (.iload_n 1, 1) := by decide +kernel
theorem dX2_liesAnother_24 : decode cX2_liesAnother 24 = .ok (.if_icmp .ne 16, 3) := by decide +kernel
theorem dX2_liesAnother_27 : decode cX2_liesAnother 27 = .ok (.aload_n 0, 1) := by decide +kernel
theorem dX2_liesAnother_28 : decode cX2_liesAnother 28 = .ok (.getfield 18, 3) := by decide +kernel
theorem dX2_liesAnother_31 : decode cX2_liesAnother 31 = .ok (.iload 5, 2) := by decide +kernel
theorem dX2_liesAnother_33 : decode cX2_liesAnother 33 = .ok (.iaload, 1) := by decide +kernel
theorem dX2_liesAnother_34 : decode cX2_liesAnother 34 = .ok (.iload_n 2, 1) := by decide +kernel
theorem dX2_liesAnother_35 : decode cX2_liesAnother 35 = .ok (.if_icmp .ne 5, 3) := by decide +kernel
theorem dX2_liesAnother_38 : decode cX2_liesAnother 38 = .ok (.iconst 1, 1) := by decide +kernel
theorem dX2_liesAnother_39 : decode cX2_liesAnother 39 = .ok (.ireturn, 1) := by decide +kernel
theorem dX2_liesAnother_40 : decode cX2_liesAnother 40 = .ok (.iinc 5 1, 3) := by decide +kernel
theorem dX2_liesAnother_43 : decode cX2_liesAnother 43 = .ok (.goto (-40), 3) := by decide +kernel
theorem dX2_liesAnother_46 : decode cX2_liesAnother 46 = .ok (.iconst 0, 1) := by decide +kernel
theorem dX2_liesAnother_47 : decode cX2_liesAnother 47 = .ok (.ireturn, 1) := by decide +kernel
theorem dX3_init_0 : decode cX3_init 0 = .ok (.aload_n 0, 1) := by decide +kernel
theorem dX3_init_1 : decode cX3_init 1 = .ok (.invokespecial 3, 3) := by decide +kernel
theorem dX3_init_4 : decode cX3_init 4 = .ok (.aload_n 0, 1) := by decide +kernel
theorem dX3_init_5 : decode cX3_init 5 = .ok (.iconst 0, 1) := by decide +kernel
theorem dX3_init_6 : decode cX3_init 6 = .ok (.putfield 9, 3) := by decide +kernel
theorem dX3_init_9 : decode cX3_init 9 = .ok (.aload_n 0, 1) := by decide +kernel
theorem dX3_init_10 : decode cX3_init 10 = .ok (.iconst (-1), 1) := by decide +kernel
theorem dX3_init_11 : decode cX3_init 11 = .ok (.putfield 15, 3) := by decide +kernel
theorem dX3_init_14 : decode cX3_init 14 = .ok (.aload_n 0, 1) := by decide +kernel
theorem dX3_init_15 : decode cX3_init 15 = .ok (.iconst 1, 1) := by decide +kernel
theorem dX3_init_16 : decode cX3_init 16 = .ok (.iload_n 1, 1) := by decide +kernel
theorem dX3_init_17 : decode cX3_init 17 = .ok (.invokestatic 18, 3) := by decide +kernel
theorem dX3_init_20 : decode cX3_init 20 = .ok (.putfield 24, 3) := by decide +kernel
theorem dX3_init_23 : decode cX3_init 23 = .ok (.return_, 1) := by decide +kernel
theorem dX3_take_0 : decode cX3_take 0 = .ok (.aload_n 0, 1) := by decide +kernel
theorem dX3_take_1 : decode cX3_take 1 = .ok (.iconst (-1), 1) := by decide +kernel
theorem dX3_take_2 : decode cX3_take 2 = .ok (.putfield 15, 3) := by decide +kernel
theorem dX3_take_5 : decode cX3_take 5 = .ok (.iconst 0, 1) := by decide +kernel
theorem dX3_take_6 : decode cX3_take 6 = .ok (.istore_n 2, 1) := by decide +kernel
theorem dX3_take_7 : decode cX3_take 7 = .ok (.iload_n 2, 1) := by decide +kernel
theorem dX3_take_8 : decode cX3_take 8 = .ok (.aload_n 1, 1) := by decide +kernel
theorem dX3_take_9 : decode cX3_take 9 = .ok (.getfield 27, 3) := by decide +kernel
theorem dX3_take_12 : decode cX3_take 12 = .ok (.if_icmp .ge 55, 3) := by decide +kernel
theorem dX3_take_15 : decode cX3_take 15 = .ok (.aload_n 0, 1) := by decide +kernel
theorem dX3_take_16 : decode cX3_take 16 = .ok (.getfield 15, 3) := by decide +kernel
theorem dX3_take_19 : decode cX3_take 19 = .ok (.iconst (-1), 1) := by decide +kernel
theorem dX3_take_20 : decode cX3_take 20 = .ok (.if_icmp .ne 47, 3) := by decide +kernel
theorem dX3_take_23 : decode cX3_take 23 = .ok (.iload_n 2, 1) := by decide +kernel
theorem dX3_take_24 : decode cX3_take 24 = .ok (.aload_n 0, 1) := by decide +kernel
theorem dX3_take_25 : decode cX3_take 25 = .ok (.getfield 24, 3) := by decide +kernel
theorem dX3_take_28 : decode cX3_take 28 = .ok (.idiv, 1) := by decide +kernel
theorem dX3_take_29 : decode cX3_take 29 = .ok (.istore_n 3, 1) := by decide +kernel
theorem dX3_take_30 : decode cX3_take 30 = .ok (.iload_n 3, 1) := by decide +kernel
theorem dX3_take_31 : decode cX3_take 31 = .ok (.bipush 8, 2) := by decide +kernel
theorem dX3_take_33 : decode cX3_take 33 = .ok (.if_icmp .ge 23, 3) := by decide +kernel
theorem dX3_take_36 : decode cX3_take 36 = .ok (.aload_n 0, 1) := by decide +kernel
theorem dX3_take_37 : decode cX3_take 37 = .ok (.iload_n 3, 1) := by decide +kernel
theorem dX3_take_38 : decode cX3_take 38 = .ok (.iload_n 2, 1) := by decide +kernel
theorem dX3_take_39 : decode cX3_take 39 = .ok (.aload_n 0, 1) := by decide +kernel
theorem dX3_take_40 : decode cX3_take 40 = .ok (.getfield 24, 3) := by decide +kernel
theorem dX3_take_43 : decode cX3_take 43 = .ok (.irem, 1) := by decide +kernel
theorem dX3_take_44 : decode cX3_take 44 = .ok (.aload_n 1, 1) := by decide +kernel
theorem dX3_take_45 : decode cX3_take 45 = .ok (.getfield 30, 3) := by decide +kernel
theorem dX3_take_48 : decode cX3_take 48 = .ok (.iload_n 2, 1) := by decide +kernel
theorem dX3_take_49 : decode cX3_take 49 = .ok (.iaload, 1) := by decide +kernel
theorem dX3_take_50 : decode cX3_take 50 = .ok (.invokevirtual 34, 3) := by decide +kernel
theorem dX3_take_53 : decode cX3_take 53 = .ok (.ifCond .ne 8, 3) := by decide +kernel
theorem dX3_take_56 : decode cX3_take 56 = .ok (.aload_n 0, 1) := by decide +kernel
theorem dX3_take_57 : decode cX3_take 57 = .ok (.iload_n 2, 1) := by decide +kernel
theorem dX3_take_58 : decode cX3_take 58 = .ok (.putfield 15, 3) := by decide +kernel
theorem dX3_take_61 : decode cX3_take 61 = .ok (.iinc 2 1, 3) := by decide +kernel
theorem dX3_take_64 : decode cX3_take 64 = .ok (.goto (-57), 3) := by decide +kernel
theorem dX3_take_67 : decode cX3_take 67 = .ok (.aload_n 1, 1) := by decide +kernel
theorem dX3_take_68 : decode cX3_take 68 = .ok (.getfield 27, 3) := by decide +kernel
theorem dX3_take_71 : decode cX3_take 71 = .ok (.ifCond .eq 21, 3) := by decide +kernel
theorem dX3_take_74 : decode cX3_take 74 = .ok (.aload_n 1, 1) := by decide +kernel
theorem dX3_take_75 : decode cX3_take 75 = .ok (.getfield 27, 3) := by decide +kernel
theorem dX3_take_78 : decode cX3_take 78 = .ok (.aload_n 0, 1) := by decide +kernel
theorem dX3_take_79 : decode cX3_take 79 = .ok (.getfield 24, 3) := by decide +kernel
theorem dX3_take_82 : decode cX3_take 82 = .ok (.irem, 1) := by decide +kernel
theorem dX3_take_83 : decode cX3_take 83 = .ok (.aload_n 0, 1) := by decide +kernel
theorem dX3_take_84 : decode cX3_take 84 = .ok (.getfield 24, 3) := by decide +kernel
theorem dX3_take_87 : decode cX3_take 87 = .ok (.iconst 1, 1) := by decide +kernel
theorem dX3_take_88 : decode cX3_take 88 = .ok (.isub, 1) := by decide +kernel
theorem dX3_take_89 : decode cX3_take 89 = .ok (.if_icmp .ne 7, 3) := by decide +kernel
theorem dX3_take_92 : decode cX3_take 92 = .ok (.iconst 1, 1) := by decide +kernel
theorem dX3_take_93 : decode cX3_take 93 = .ok (.goto 4, 3) := by decide +kernel
theorem dX3_take_96 : decode cX3_take 96 = .ok (.iconst 0, 1) := by decide +kernel
theorem dX3_take_97 : decode cX3_take 97 = .ok (.istore_n 2, 1) := by decide +kernel
theorem dX3_take_98 : decode cX3_take 98 = .ok (.aload_n 0, 1) := by decide +kernel
theorem dX3_take_99 : decode cX3_take 99 = .ok (.getfield 15, 3) := by decide +kernel
theorem dX3_take_102 : decode cX3_take 102 = .ok (.iconst (-1), 1) := by decide +kernel
theorem dX3_take_103 : decode cX3_take 103 = .ok (.if_icmp .ne 15, 3) := by decide +kernel
theorem dX3_take_106 : decode cX3_take 106 = .ok (.iload_n 2, 1) := by decide +kernel
theorem dX3_take_107 : decode cX3_take 107 = .ok (.ifCond .ne 11, 3) := by decide +kernel
theorem dX3_take_110 : decode cX3_take 110 = .ok (.aload_n 0, 1) := by decide +kernel
theorem dX3_take_111 : decode cX3_take 111 = .ok (.aload_n 1, 1) := by decide +kernel
theorem dX3_take_112 : decode cX3_take 112 = .ok (.getfield 27, 3) := by decide +kernel
theorem dX3_take_115 : decode cX3_take 115 = .ok (.putfield 15, 3) := by decide +kernel
theorem dX3_take_118 : decode cX3_take 118 = .ok (.aload_n 0, 1) := by decide +kernel
theorem dX3_take_119 : decode cX3_take 119 = .ok (.aload_n 0, 1) := by decide +kernel
theorem dX3_take_120 : decode cX3_take 120 = .ok (.getfield 15, 3) := by decide +kernel
theorem dX3_take_123 : decode cX3_take 123 = .ok (.iconst (-1), 1) := by decide +kernel
theorem dX3_take_124 : decode cX3_take 124 = .ok (.if_icmp .ne 17, 3) := by decide +kernel
theorem dX3_take_127 : decode cX3_take 127 = .ok (.aload_n 1, 1) := by decide +kernel
theorem dX3_take_128 : decode cX3_take 128 = .ok (.getfield 27, 3) := by decide +kernel
theorem dX3_take_131 : decode cX3_take 131 = .ok (.iconst 1, 1) := by decide +kernel
theorem dX3_take_132 : decode cX3_take 132 = .ok (.iadd, 1) := by decide +kernel
theorem dX3_take_133 : decode cX3_take 133 = .ok (.aload_n 0, 1) := by decide +kernel
theorem dX3_take_134 : decode cX3_take 134 = .ok (.getfield 24, 3) := by decide +kernel
theorem dX3_take_137 : decode cX3_take 137 = .ok (.idiv, 1) := by decide +kernel
theorem dX3_take_138 : decode cX3_take 138 = .ok (.goto 4, 3) := by decide +kernel
theorem dX3_take_141 : decode cX3_take 141 = .ok (.iconst 0, 1) := by decide +kernel
theorem dX3_take_142 : decode cX3_take 142 = .ok (.putfield 9, 3) := by decide +kernel
theorem dX3_take_145 : decode cX3_take 145 = .ok (.return_, 1) := by decide +kernel
theorem dX4_init_0 : decode cX4_init 0 = .ok (.aload_n 0, 1) := by decide +kernel
theorem dX4_init_1 : decode cX4_init 1 = .ok (.iconst 4, 1) := by decide +kernel
theorem dX4_init_2 : decode cX4_init 2 = .ok (.invokespecial 3, 3) := by decide +kernel
theorem dX4_init_5 : decode cX4_init 5 = .ok (.aload_n 0, 1) := by decide +kernel
theorem dX4_init_6 : decode cX4_init 6 = .ok (.bipush 8, 2) := by decide +kernel
theorem dX4_init_8 : decode cX4_init 8 = .ok (.newarray .int, 2) := by decide +kernel
theorem dX4_init_10 : decode cX4_init 10 = .ok (.putfield 9, 3) := by decide +kernel
theorem dX4_init_13 : decode cX4_init 13 = .ok (.aload_n 0, 1) := by decide +kernel
theorem dX4_init_14 : decode cX4_init 14 = .ok (.bipush 8, 2) := by decide +kernel
theorem dX4_init_16 : decode cX4_init 16 = .ok (.newarray .int, 2) := by decide +kernel
theorem dX4_init_18 : decode cX4_init 18 = .ok (.putfield 15, 3) := by decide +kernel
theorem dX4_init_21 : decode cX4_init 21 = .ok (.aload_n 0, 1) := by decide +kernel
theorem dX4_init_22 : decode cX4_init 22 = .ok (.bipush 8, 2) := by decide +kernel
theorem dX4_init_24 : decode cX4_init 24 = .ok (.newarray .int, 2) := by decide +kernel
theorem dX4_init_26 : decode cX4_init 26 = .ok (.putfield 18, 3) := by decide +kernel
theorem dX4_init_29 : decode cX4_init 29 = .ok (.return_, 1) := by decide +kernel
theorem dX4_takesByte_0 : decode cX4_takesByte 0 = .ok (.iload_n 2, 1) := by decide +kernel
theorem dX4_takesByte_1 : decode cX4_takesByte 1 = .ok (.tableswitch 95 0 2 #[27, 47, 67], 27) := by decide +kernel
theorem dX4_takesByte_28 : decode cX4_takesByte 28 = .ok (.aload_n 0, 1) := by decide +kernel
theorem dX4_takesByte_29 : decode cX4_takesByte 29 = .ok (.getfield 9, 3) := by decide +kernel
theorem dX4_takesByte_32 : decode cX4_takesByte 32 = .ok (.iload_n 1, 1) := by decide +kernel
theorem dX4_takesByte_33 : decode cX4_takesByte 33 = .ok (.iload_n 3, 1) := by decide +kernel
theorem dX4_takesByte_34 : decode cX4_takesByte 34 = .ok (.bipush 48, 2) := by decide +kernel
theorem dX4_takesByte_36 : decode cX4_takesByte 36 = .ok (.isub, 1) := by decide +kernel
theorem dX4_takesByte_37 : decode cX4_takesByte 37 = .ok (.iastore, 1) := by decide +kernel
theorem dX4_takesByte_38 : decode cX4_takesByte 38 = .ok (.iload_n 3, 1) := by decide +kernel
theorem dX4_takesByte_39 : decode cX4_takesByte 39 = .ok (.bipush 48, 2) := by decide +kernel
theorem dX4_takesByte_41 : decode cX4_takesByte 41 = .ok (.isub, 1) := by decide +kernel
theorem dX4_takesByte_42 : decode cX4_takesByte 42 = .ok (.bipush 8, 2) := by decide +kernel
theorem dX4_takesByte_44 : decode cX4_takesByte 44 = .ok (.invokestatic 21, 3) := by decide +kernel
theorem dX4_takesByte_47 : decode cX4_takesByte 47 = .ok (.ireturn, 1) := by decide +kernel
theorem dX4_takesByte_48 : decode cX4_takesByte 48 = .ok (.aload_n 0, 1) := by decide +kernel
theorem dX4_takesByte_49 : decode cX4_takesByte 49 = .ok (.getfield 15, 3) := by decide +kernel
theorem dX4_takesByte_52 : decode cX4_takesByte 52 = .ok (.iload_n 1, 1) := by decide +kernel
theorem dX4_takesByte_53 : decode cX4_takesByte 53 = .ok (.iload_n 3, 1) := by decide +kernel
theorem dX4_takesByte_54 : decode cX4_takesByte 54 = .ok (.bipush 97, 2) := by decide +kernel
theorem dX4_takesByte_56 : decode cX4_takesByte 56 = .ok (.isub, 1) := by decide +kernel
theorem dX4_takesByte_57 : decode cX4_takesByte 57 = .ok (.iastore, 1) := by decide +kernel
theorem dX4_takesByte_58 : decode cX4_takesByte 58 = .ok (.iload_n 3, 1) := by decide +kernel
theorem dX4_takesByte_59 : decode cX4_takesByte 59 = .ok (.bipush 97, 2) := by decide +kernel
theorem dX4_takesByte_61 : decode cX4_takesByte 61 = .ok (.isub, 1) := by decide +kernel
theorem dX4_takesByte_62 : decode cX4_takesByte 62 = .ok (.bipush 24, 2) := by decide +kernel
theorem dX4_takesByte_64 : decode cX4_takesByte 64 = .ok (.invokestatic 21, 3) := by decide +kernel
theorem dX4_takesByte_67 : decode cX4_takesByte 67 = .ok (.ireturn, 1) := by decide +kernel
theorem dX4_takesByte_68 : decode cX4_takesByte 68 = .ok (.aload_n 0, 1) := by decide +kernel
theorem dX4_takesByte_69 : decode cX4_takesByte 69 = .ok (.getfield 18, 3) := by decide +kernel
theorem dX4_takesByte_72 : decode cX4_takesByte 72 = .ok (.iload_n 1, 1) := by decide +kernel
theorem dX4_takesByte_73 : decode cX4_takesByte 73 = .ok (.iload_n 3, 1) := by decide +kernel
theorem dX4_takesByte_74 : decode cX4_takesByte 74 = .ok (.bipush 48, 2) := by decide +kernel
theorem dX4_takesByte_76 : decode cX4_takesByte 76 = .ok (.isub, 1) := by decide +kernel
theorem dX4_takesByte_77 : decode cX4_takesByte 77 = .ok (.iastore, 1) := by decide +kernel
theorem dX4_takesByte_78 : decode cX4_takesByte 78 = .ok (.iload_n 3, 1) := by decide +kernel
theorem dX4_takesByte_79 : decode cX4_takesByte 79 = .ok (.bipush 49, 2) := by decide +kernel
theorem dX4_takesByte_81 : decode cX4_takesByte 81 = .ok (.if_icmp .lt 13, 3) := by decide +kernel
theorem dX4_takesByte_84 : decode cX4_takesByte 84 = .ok (.iload_n 3, 1) := by decide +kernel
theorem dX4_takesByte_85 : decode cX4_takesByte 85 = .ok (.bipush 57, 2) := by decide +kernel
theorem dX4_takesByte_87 : decode cX4_takesByte 87 = .ok (.if_icmp .gt 7, 3) := by decide +kernel
theorem dX4_takesByte_90 : decode cX4_takesByte 90 = .ok (.iconst 1, 1) := by decide +kernel
theorem dX4_takesByte_91 : decode cX4_takesByte 91 = .ok (.goto 4, 3) := by decide +kernel
theorem dX4_takesByte_94 : decode cX4_takesByte 94 = .ok (.iconst 0, 1) := by decide +kernel
theorem dX4_takesByte_95 : decode cX4_takesByte 95 = .ok (.ireturn, 1) := by decide +kernel
theorem dX4_takesByte_96 : decode cX4_takesByte 96 = .ok (.iload_n 3, 1) := by decide +kernel
theorem dX4_takesByte_97 : decode cX4_takesByte 97 = .ok (.bipush 59, 2) := by decide +kernel
theorem dX4_takesByte_99 : decode cX4_takesByte 99 = .ok (.if_icmp .ne 7, 3) := by decide +kernel
theorem dX4_takesByte_102 : decode cX4_takesByte 102 = .ok (.iconst 1, 1) := by decide +kernel
theorem dX4_takesByte_103 : decode cX4_takesByte 103 = .ok (.goto 4, 3) := by decide +kernel
theorem dX4_takesByte_106 : decode cX4_takesByte 106 = .ok (.iconst 0, 1) := by decide +kernel
theorem dX4_takesByte_107 : decode cX4_takesByte 107 = .ok (.ireturn, 1) := by decide +kernel
theorem dX4_weightOn_0 : decode cX4_weightOn 0 = .ok (.aload_n 0, 1) := by decide +kernel
theorem dX4_weightOn_1 : decode cX4_weightOn 1 = .ok (.getfield 18, 3) := by decide +kernel
theorem dX4_weightOn_4 : decode cX4_weightOn 4 = .ok (.iload_n 1, 1) := by decide +kernel
theorem dX4_weightOn_5 : decode cX4_weightOn 5 = .ok (.iaload, 1) := by decide +kernel
theorem dX4_weightOn_6 : decode cX4_weightOn 6 = .ok (.iload_n 2, 1) := by decide +kernel
theorem dX4_weightOn_7 : decode cX4_weightOn 7 = .ok (.iadd, 1) := by decide +kernel
theorem dX4_weightOn_8 : decode cX4_weightOn 8 = .ok (.aload_n 0, 1) := by decide +kernel
theorem dX4_weightOn_9 : decode cX4_weightOn 9 = .ok (.getfield 15, 3) := by decide +kernel
theorem dX4_weightOn_12 : decode cX4_weightOn 12 = .ok (.iload_n 1, 1) := by decide +kernel
theorem dX4_weightOn_13 : decode cX4_weightOn 13 = .ok (.iaload, 1) := by decide +kernel
theorem dX4_weightOn_14 : decode cX4_weightOn 14 = .ok (.isub, 1) := by decide +kernel
theorem dX4_weightOn_15 : decode cX4_weightOn 15 = .ok (.istore_n 3, 1) := by decide +kernel
theorem dX4_weightOn_16 : decode cX4_weightOn 16 = .ok (.iload_n 3, 1) := by decide +kernel
theorem dX4_weightOn_17 : decode cX4_weightOn 17 = .ok (.bipush 9, 2) := by decide +kernel
theorem dX4_weightOn_19 : decode cX4_weightOn 19 = .ok (.if_icmp .ge 7, 3) := by decide +kernel
theorem dX4_weightOn_22 : decode cX4_weightOn 22 = .ok (.iload_n 3, 1) := by decide +kernel
theorem dX4_weightOn_23 : decode cX4_weightOn 23 = .ok (.goto 5, 3) := by decide +kernel
theorem dX4_weightOn_26 : decode cX4_weightOn 26 = .ok (.bipush 9, 2) := by decide +kernel
theorem dX4_weightOn_28 : decode cX4_weightOn 28 = .ok (.ireturn, 1) := by decide +kernel
theorem dX5_init_0 : decode cX5_init 0 = .ok (.aload_n 0, 1) := by decide +kernel
theorem dX5_init_1 : decode cX5_init 1 = .ok (.invokespecial 3, 3) := by decide +kernel
theorem dX5_init_4 : decode cX5_init 4 = .ok (.aload_n 0, 1) := by decide +kernel
theorem dX5_init_5 : decode cX5_init 5 = .ok (.bipush 72, 2) := by decide +kernel
theorem dX5_init_7 : decode cX5_init 7 = .ok (.newarray .int, 2) := by decide +kernel
theorem dX5_init_9 : decode cX5_init 9 = .ok (.putfield 11, 3) := by decide +kernel
theorem dX5_init_12 : decode cX5_init 12 = .ok (.return_, 1) := by decide +kernel
theorem dX5_tally_0 : decode cX5_tally 0 = .ok (.iconst 0, 1) := by decide +kernel
theorem dX5_tally_1 : decode cX5_tally 1 = .ok (.istore 5, 2) := by decide +kernel
theorem dX5_tally_3 : decode cX5_tally 3 = .ok (.iload 5, 2) := by decide +kernel
theorem dX5_tally_5 : decode cX5_tally 5 = .ok (.bipush 72, 2) := by decide +kernel
theorem dX5_tally_7 : decode cX5_tally 7 = .ok (.if_icmp .ge 17, 3) := by decide +kernel
theorem dX5_tally_10 : decode cX5_tally 10 = .ok (.aload_n 0, 1) := by decide +kernel
theorem dX5_tally_11 : decode cX5_tally 11 = .ok (.getfield 11, 3) := by decide +kernel
theorem dX5_tally_14 : decode cX5_tally 14 = .ok (.iload 5, 2) := by decide +kernel
theorem dX5_tally_16 : decode cX5_tally 16 = .ok (.iconst 0, 1) := by decide +kernel
theorem dX5_tally_17 : decode cX5_tally 17 = .ok (.iastore, 1) := by decide +kernel
theorem dX5_tally_18 : decode cX5_tally 18 = .ok (.iinc 5 1, 3) := by decide +kernel
theorem dX5_tally_21 : decode cX5_tally 21 = .ok (.goto (-18), 3) := by decide +kernel
theorem dX5_tally_24 : decode cX5_tally 24 = .ok (.iconst 1, 1) := by decide +kernel
theorem dX5_tally_25 : decode cX5_tally 25 = .ok (.aload_n 3, 1) := by decide +kernel
theorem dX5_tally_26 : decode cX5_tally 26 = .ok (.getfield 15, 3) := by decide +kernel
theorem dX5_tally_29 : decode cX5_tally 29 = .ok (.bipush 8, 2) := by decide +kernel
theorem dX5_tally_31 : decode cX5_tally 31 = .ok (.invokestatic 21, 3) := by decide +kernel
theorem dX5_tally_34 : decode cX5_tally 34 = .ok (.ishl, 1) := by decide +kernel
theorem dX5_tally_35 : decode cX5_tally 35 = .ok (.istore 5, 2) := by decide +kernel
theorem dX5_tally_37 : decode cX5_tally 37 = .ok (.iconst 0, 1) := by decide +kernel
theorem dX5_tally_38 : decode cX5_tally 38 = .ok (.istore 6, 2) := by decide +kernel
theorem dX5_tally_40 : decode cX5_tally 40 = .ok (.iload 6, 2) := by decide +kernel
theorem dX5_tally_42 : decode cX5_tally 42 = .ok (.iload 5, 2) := by decide +kernel
theorem dX5_tally_44 : decode cX5_tally 44 = .ok (.if_icmp .ge 73, 3) := by decide +kernel
theorem dX5_tally_47 : decode cX5_tally 47 = .ok (.aload 4, 2) := by decide +kernel
theorem dX5_tally_49 : decode cX5_tally 49 = .ok (.aload_n 1, 1) := by decide +kernel
theorem dX5_tally_50 : decode cX5_tally 50 = .ok (.aload_n 2, 1) := by decide +kernel
theorem dX5_tally_51 : decode cX5_tally 51 = .ok (.aload_n 3, 1) := by decide +kernel
theorem dX5_tally_52 : decode cX5_tally 52 = .ok (.iload 6, 2) := by decide +kernel
theorem dX5_tally_54 : decode cX5_tally 54 = .ok (.invokevirtual 27, 3) := by decide +kernel
theorem dX5_tally_57 : decode cX5_tally 57 = .ok (.iload 6, 2) := by decide +kernel
theorem dX5_tally_59 : decode cX5_tally 59 = .ok (.invokestatic 33, 3) := by decide +kernel
theorem dX5_tally_62 : decode cX5_tally 62 = .ok (.istore 7, 2) := by decide +kernel
theorem dX5_tally_64 : decode cX5_tally 64 = .ok (.iconst 0, 1) := by decide +kernel
theorem dX5_tally_65 : decode cX5_tally 65 = .ok (.istore 8, 2) := by decide +kernel
theorem dX5_tally_67 : decode cX5_tally 67 = .ok (.iload 8, 2) := by decide +kernel
theorem dX5_tally_69 : decode cX5_tally 69 = .ok (.aload_n 2, 1) := by decide +kernel
theorem dX5_tally_70 : decode cX5_tally 70 = .ok (.getfield 39, 3) := by decide +kernel
theorem dX5_tally_73 : decode cX5_tally 73 = .ok (.if_icmp .ge 38, 3) := by decide +kernel
theorem dX5_tally_76 : decode cX5_tally 76 = .ok (.aload 4, 2) := by decide +kernel
theorem dX5_tally_78 : decode cX5_tally 78 = .ok (.getfield 42, 3) := by decide +kernel
theorem dX5_tally_81 : decode cX5_tally 81 = .ok (.iload 8, 2) := by decide +kernel
theorem dX5_tally_83 : decode cX5_tally 83 = .ok (.iaload, 1) := by decide +kernel
theorem dX5_tally_84 : decode cX5_tally 84 = .ok (.iconst (-1), 1) := by decide +kernel
theorem dX5_tally_85 : decode cX5_tally 85 = .ok (.if_icmp .eq 20, 3) := by decide +kernel
theorem dX5_tally_88 : decode cX5_tally 88 = .ok (.aload_n 0, 1) := by decide +kernel
theorem dX5_tally_89 : decode cX5_tally 89 = .ok (.getfield 11, 3) := by decide +kernel
theorem dX5_tally_92 : decode cX5_tally 92 = .ok (.iload 8, 2) := by decide +kernel
theorem dX5_tally_94 : decode cX5_tally 94 = .ok (.bipush 9, 2) := by decide +kernel
theorem dX5_tally_96 : decode cX5_tally 96 = .ok (.imul, 1) := by decide +kernel
theorem dX5_tally_97 : decode cX5_tally 97 = .ok (.iload 7, 2) := by decide +kernel
theorem dX5_tally_99 : decode cX5_tally 99 = .ok (.iadd, 1) := by decide +kernel
theorem dX5_tally_100 : decode cX5_tally 100 = .ok (.dup2, 1) := by decide +kernel
theorem dX5_tally_101 : decode cX5_tally 101 = .ok (.iaload, 1) := by decide +kernel
theorem dX5_tally_102 : decode cX5_tally 102 = .ok (.iconst 1, 1) := by decide +kernel
theorem dX5_tally_103 : decode cX5_tally 103 = .ok (.iadd, 1) := by decide +kernel
theorem dX5_tally_104 : decode cX5_tally 104 = .ok (.iastore, 1) := by decide +kernel
theorem dX5_tally_105 : decode cX5_tally 105 = .ok (.iinc 8 1, 3) := by decide +kernel
theorem dX5_tally_108 : decode cX5_tally 108 = .ok (.goto (-41), 3) := by decide +kernel
theorem dX5_tally_111 : decode cX5_tally 111 = .ok (.iinc 6 1, 3) := by decide +kernel
theorem dX5_tally_114 : decode cX5_tally 114 = .ok (.goto (-74), 3) := by decide +kernel
theorem dX5_tally_117 : decode cX5_tally 117 = .ok (.return_, 1) := by decide +kernel
theorem dX5_tell_0 : decode cX5_tell 0 = .ok (.lconst 0, 1) := by decide +kernel
theorem dX5_tell_1 : decode cX5_tell 1 = .ok (.lstore 5, 2) := by decide +kernel
theorem dX5_tell_3 : decode cX5_tell 3 = .ok (.iconst 0, 1) := by decide +kernel
theorem dX5_tell_4 : decode cX5_tell 4 = .ok (.istore 7, 2) := by decide +kernel
theorem dX5_tell_6 : decode cX5_tell 6 = .ok (.iload 7, 2) := by decide +kernel
theorem dX5_tell_8 : decode cX5_tell 8 = .ok (.iload_n 3, 1) := by decide +kernel
theorem dX5_tell_9 : decode cX5_tell 9 = .ok (.if_icmp .gt 57, 3) := by decide +kernel
theorem dX5_tell_12 : decode cX5_tell 12 = .ok (.iload 7, 2) := by decide +kernel
theorem dX5_tell_14 : decode cX5_tell 14 = .ok (.bipush 9, 2) := by decide +kernel
theorem dX5_tell_16 : decode cX5_tell 16 = .ok (.if_icmp .ge 50, 3) := by decide +kernel
theorem dX5_tell_19 : decode cX5_tell 19 = .ok (.iload_n 2, 1) := by decide +kernel
theorem dX5_tell_20 : decode cX5_tell 20 = .ok (.iload 7, 2) := by decide +kernel
theorem dX5_tell_22 : decode cX5_tell 22 = .ok (.invokestatic 45, 3) := by decide +kernel
theorem dX5_tell_25 : decode cX5_tell 25 = .ok (.bipush 16, 2) := by decide +kernel
theorem dX5_tell_27 : decode cX5_tell 27 = .ok (.iload_n 2, 1) := by decide +kernel
theorem dX5_tell_28 : decode cX5_tell 28 = .ok (.isub, 1) := by decide +kernel
theorem dX5_tell_29 : decode cX5_tell 29 = .ok (.iload_n 3, 1) := by decide +kernel
theorem dX5_tell_30 : decode cX5_tell 30 = .ok (.iload 7, 2) := by decide +kernel
theorem dX5_tell_32 : decode cX5_tell 32 = .ok (.isub, 1) := by decide +kernel
theorem dX5_tell_33 : decode cX5_tell 33 = .ok (.invokestatic 45, 3) := by decide +kernel
theorem dX5_tell_36 : decode cX5_tell 36 = .ok (.lmul, 1) := by decide +kernel
theorem dX5_tell_37 : decode cX5_tell 37 = .ok (.lstore 8, 2) := by decide +kernel
theorem dX5_tell_39 : decode cX5_tell 39 = .ok (.lload 5, 2) := by decide +kernel
theorem dX5_tell_41 : decode cX5_tell 41 = .ok (.aload_n 0, 1) := by decide +kernel
theorem dX5_tell_42 : decode cX5_tell 42 = .ok (.getfield 11, 3) := by decide +kernel
theorem dX5_tell_45 : decode cX5_tell 45 = .ok (.iload_n 1, 1) := by decide +kernel
theorem dX5_tell_46 : decode cX5_tell 46 = .ok (.bipush 9, 2) := by decide +kernel
theorem dX5_tell_48 : decode cX5_tell 48 = .ok (.imul, 1) := by decide +kernel
theorem dX5_tell_49 : decode cX5_tell 49 = .ok (.iload 7, 2) := by decide +kernel
theorem dX5_tell_51 : decode cX5_tell 51 = .ok (.iadd, 1) := by decide +kernel
theorem dX5_tell_52 : decode cX5_tell 52 = .ok (.iaload, 1) := by decide +kernel
theorem dX5_tell_53 : decode cX5_tell 53 = .ok (.i2l, 1) := by decide +kernel
theorem dX5_tell_54 : decode cX5_tell 54 = .ok (.lload 8, 2) := by decide +kernel
theorem dX5_tell_56 : decode cX5_tell 56 = .ok (.lmul, 1) := by decide +kernel
theorem dX5_tell_57 : decode cX5_tell 57 = .ok (.ladd, 1) := by decide +kernel
theorem dX5_tell_58 : decode cX5_tell 58 = .ok (.lstore 5, 2) := by decide +kernel
theorem dX5_tell_60 : decode cX5_tell 60 = .ok (.iinc 7 1, 3) := by decide +kernel
theorem dX5_tell_63 : decode cX5_tell 63 = .ok (.goto (-57), 3) := by decide +kernel
theorem dX5_tell_66 : decode cX5_tell 66 = .ok (.bipush 16, 2) := by decide +kernel
theorem dX5_tell_68 : decode cX5_tell 68 = .ok (.iload_n 3, 1) := by decide +kernel
theorem dX5_tell_69 : decode cX5_tell 69 = .ok (.invokestatic 45, 3) := by decide +kernel
theorem dX5_tell_72 : decode cX5_tell 72 = .ok (.lstore 7, 2) := by decide +kernel
theorem dX5_tell_74 : decode cX5_tell 74 = .ok (.iconst 0, 1) := by decide +kernel
theorem dX5_tell_75 : decode cX5_tell 75 = .ok (.istore 9, 2) := by decide +kernel
theorem dX5_tell_77 : decode cX5_tell 77 = .ok (.iload 9, 2) := by decide +kernel
theorem dX5_tell_79 : decode cX5_tell 79 = .ok (.bipush 32, 2) := by decide +kernel
theorem dX5_tell_81 : decode cX5_tell 81 = .ok (.if_icmp .ge 43, 3) := by decide +kernel
theorem dX5_tell_84 : decode cX5_tell 84 = .ok (.lload 7, 2) := by decide +kernel
theorem dX5_tell_86 : decode cX5_tell 86 = .ok (.lconst 1, 1) := by decide +kernel
theorem dX5_tell_87 : decode cX5_tell 87 = .ok (.lcmp, 1) := by decide +kernel
theorem dX5_tell_88 : decode cX5_tell 88 = .ok (.ifCond .le 36, 3) := by decide +kernel
theorem dX5_tell_91 : decode cX5_tell 91 = .ok (.lload 5, 2) := by decide +kernel
theorem dX5_tell_93 : decode cX5_tell 93 = .ok (.ldc2_w 49, 3) := by decide +kernel
theorem dX5_tell_96 : decode cX5_tell 96 = .ok (.lrem, 1) := by decide +kernel
theorem dX5_tell_97 : decode cX5_tell 97 = .ok (.lconst 0, 1) := by decide +kernel
theorem dX5_tell_98 : decode cX5_tell 98 = .ok (.lcmp, 1) := by decide +kernel
theorem dX5_tell_99 : decode cX5_tell 99 = .ok (.ifCond .ne 25, 3) := by decide +kernel
theorem dX5_tell_102 : decode cX5_tell 102 = .ok (.lload 5, 2) := by decide +kernel
theorem dX5_tell_104 : decode cX5_tell 104 = .ok (.ldc2_w 49, 3) := by decide +kernel
theorem dX5_tell_107 : decode cX5_tell 107 = .ok (.ldiv, 1) := by decide +kernel
theorem dX5_tell_108 : decode cX5_tell 108 = .ok (.lstore 5, 2) := by decide +kernel
theorem dX5_tell_110 : decode cX5_tell 110 = .ok (.lload 7, 2) := by decide +kernel
theorem dX5_tell_112 : decode cX5_tell 112 = .ok (.ldc2_w 49, 3) := by decide +kernel
theorem dX5_tell_115 : decode cX5_tell 115 = .ok (.ldiv, 1) := by decide +kernel
theorem dX5_tell_116 : decode cX5_tell 116 = .ok (.lstore 7, 2) := by decide +kernel
theorem dX5_tell_118 : decode cX5_tell 118 = .ok (.iinc 9 1, 3) := by decide +kernel
theorem dX5_tell_121 : decode cX5_tell 121 = .ok (.goto (-44), 3) := by decide +kernel
theorem dX5_tell_124 : decode cX5_tell 124 = .ok (.iload 4, 2) := by decide +kernel
theorem dX5_tell_126 : decode cX5_tell 126 = .ok (.ifCond .ne 8, 3) := by decide +kernel
theorem dX5_tell_129 : decode cX5_tell 129 = .ok (.lload 5, 2) := by decide +kernel
theorem dX5_tell_131 : decode cX5_tell 131 = .ok (.goto 5, 3) := by decide +kernel
theorem dX5_tell_134 : decode cX5_tell 134 = .ok (.lload 7, 2) := by decide +kernel
theorem dX5_tell_136 : decode cX5_tell 136 = .ok (.lreturn, 1) := by decide +kernel
theorem dX5_power_0 : decode cX5_power 0 = .ok (.lconst 1, 1) := by decide +kernel
theorem dX5_power_1 : decode cX5_power 1 = .ok (.lstore_n 2, 1) := by decide +kernel
theorem dX5_power_2 : decode cX5_power 2 = .ok (.iconst 0, 1) := by decide +kernel
theorem dX5_power_3 : decode cX5_power 3 = .ok (.istore 4, 2) := by decide +kernel
theorem dX5_power_5 : decode cX5_power 5 = .ok (.iload 4, 2) := by decide +kernel
theorem dX5_power_7 : decode cX5_power 7 = .ok (.iload_n 1, 1) := by decide +kernel
theorem dX5_power_8 : decode cX5_power 8 = .ok (.if_icmp .ge 14, 3) := by decide +kernel
theorem dX5_power_11 : decode cX5_power 11 = .ok (.lload_n 2, 1) := by decide +kernel
theorem dX5_power_12 : decode cX5_power 12 = .ok (.iload_n 0, 1) := by decide +kernel
theorem dX5_power_13 : decode cX5_power 13 = .ok (.i2l, 1) := by decide +kernel
theorem dX5_power_14 : decode cX5_power 14 = .ok (.lmul, 1) := by decide +kernel
theorem dX5_power_15 : decode cX5_power 15 = .ok (.lstore_n 2, 1) := by decide +kernel
theorem dX5_power_16 : decode cX5_power 16 = .ok (.iinc 4 1, 3) := by decide +kernel
theorem dX5_power_19 : decode cX5_power 19 = .ok (.goto (-14), 3) := by decide +kernel
theorem dX5_power_22 : decode cX5_power 22 = .ok (.lload_n 2, 1) := by decide +kernel
theorem dX5_power_23 : decode cX5_power 23 = .ok (.lreturn, 1) := by decide +kernel
theorem dX6_init_0 : decode cX6_init 0 = .ok (.aload_n 0, 1) := by decide +kernel
theorem dX6_init_1 : decode cX6_init 1 = .ok (.invokespecial 3, 3) := by decide +kernel
theorem dX6_init_4 : decode cX6_init 4 = .ok (.aload_n 0, 1) := by decide +kernel
theorem dX6_init_5 : decode cX6_init 5 = .ok (.bipush 60, 2) := by decide +kernel
theorem dX6_init_7 : decode cX6_init 7 = .ok (.newarray .int, 2) := by decide +kernel
theorem dX6_init_9 : decode cX6_init 9 = .ok (.putfield 9, 3) := by decide +kernel
theorem dX6_init_12 : decode cX6_init 12 = .ok (.aload_n 0, 1) := by decide +kernel
theorem dX6_init_13 : decode cX6_init 13 = .ok (.iconst (-1), 1) := by decide +kernel
theorem dX6_init_14 : decode cX6_init 14 = .ok (.putfield 15, 3) := by decide +kernel
theorem dX6_init_17 : decode cX6_init 17 = .ok (.aload_n 0, 1) := by decide +kernel
theorem dX6_init_18 : decode cX6_init 18 = .ok (.iconst 0, 1) := by decide +kernel
theorem dX6_init_19 : decode cX6_init 19 = .ok (.putfield 19, 3) := by decide +kernel
theorem dX6_init_22 : decode cX6_init 22 = .ok (.return_, 1) := by decide +kernel
theorem dX6_makeNew_0 : decode cX6_makeNew 0 = .ok (.aload_n 0, 1) := by decide +kernel
theorem dX6_makeNew_1 : decode cX6_makeNew 1 = .ok (.iload_n 1, 1) := by decide +kernel
theorem dX6_makeNew_2 : decode cX6_makeNew 2 = .ok (.putfield 15, 3) := by decide +kernel
theorem dX6_makeNew_5 : decode cX6_makeNew 5 = .ok (.aload_n 0, 1) := by decide +kernel
theorem dX6_makeNew_6 : decode cX6_makeNew 6 = .ok (.iload_n 2, 1) := by decide +kernel
theorem dX6_makeNew_7 : decode cX6_makeNew 7 = .ok (.putfield 19, 3) := by decide +kernel
theorem dX6_makeNew_10 : decode cX6_makeNew 10 = .ok (.iconst 0, 1) := by decide +kernel
theorem dX6_makeNew_11 : decode cX6_makeNew 11 = .ok (.istore_n 3, 1) := by decide +kernel
theorem dX6_makeNew_12 : decode cX6_makeNew 12 = .ok (.iload_n 3, 1) := by decide +kernel
theorem dX6_makeNew_13 : decode cX6_makeNew 13 = .ok (.bipush 60, 2) := by decide +kernel
theorem dX6_makeNew_15 : decode cX6_makeNew 15 = .ok (.if_icmp .ge 16, 3) := by decide +kernel
theorem dX6_makeNew_18 : decode cX6_makeNew 18 = .ok (.aload_n 0, 1) := by decide +kernel
theorem dX6_makeNew_19 : decode cX6_makeNew 19 = .ok (.getfield 9, 3) := by decide +kernel
theorem dX6_makeNew_22 : decode cX6_makeNew 22 = .ok (.iload_n 3, 1) := by decide +kernel
theorem dX6_makeNew_23 : decode cX6_makeNew 23 = .ok (.iconst 0, 1) := by decide +kernel
theorem dX6_makeNew_24 : decode cX6_makeNew 24 = .ok (.iastore, 1) := by decide +kernel
theorem dX6_makeNew_25 : decode cX6_makeNew 25 = .ok (.iinc 3 1, 3) := by decide +kernel
theorem dX6_makeNew_28 : decode cX6_makeNew 28 = .ok (.goto (-16), 3) := by decide +kernel
theorem dX6_makeNew_31 : decode cX6_makeNew 31 = .ok (.return_, 1) := by decide +kernel
theorem dX6_setItem_0 : decode cX6_setItem 0 = .ok (.iload_n 1, 1) := by decide +kernel
theorem dX6_setItem_1 : decode cX6_setItem 1 = .ok (.aload_n 0, 1) := by decide +kernel
theorem dX6_setItem_2 : decode cX6_setItem 2 = .ok (.getfield 19, 3) := by decide +kernel
theorem dX6_setItem_5 : decode cX6_setItem 5 = .ok (.invokestatic 22, 3) := by decide +kernel
theorem dX6_setItem_8 : decode cX6_setItem 8 = .ok (.ifCond .eq 14, 3) := by decide +kernel
theorem dX6_setItem_11 : decode cX6_setItem 11 = .ok (.aload_n 0, 1) := by decide +kernel
theorem dX6_setItem_12 : decode cX6_setItem 12 = .ok (.getfield 9, 3) := by decide +kernel
theorem dX6_setItem_15 : decode cX6_setItem 15 = .ok (.iload_n 1, 1) := by decide +kernel
theorem dX6_setItem_16 : decode cX6_setItem 16 = .ok (.aload_n 0, 1) := by decide +kernel
theorem dX6_setItem_17 : decode cX6_setItem 17 = .ok (.iload_n 2, 1) := by decide +kernel
theorem dX6_setItem_18 : decode cX6_setItem 18 = .ok (.invokevirtual 26, 3) := by decide +kernel
theorem dX6_setItem_21 : decode cX6_setItem 21 = .ok (.iastore, 1) := by decide +kernel
theorem dX6_setItem_22 : decode cX6_setItem 22 = .ok (.return_, 1) := by decide +kernel
theorem dX6_narrowed_0 : decode cX6_narrowed 0 = .ok (.aload_n 0, 1) := by decide +kernel
theorem dX6_narrowed_1 : decode cX6_narrowed 1 = .ok (.getfield 15, 3) := by decide +kernel
theorem dX6_narrowed_4 : decode cX6_narrowed 4 = .ok (.lookupswitch 34 #[(0, 28), (1, 31)], 28) := by decide +kernel
theorem dX6_narrowed_32 : decode cX6_narrowed 32 = .ok (.iload_n 1, 1) := by decide +kernel
theorem dX6_narrowed_33 : decode cX6_narrowed 33 = .ok (.i2b, 1) := by decide +kernel
theorem dX6_narrowed_34 : decode cX6_narrowed 34 = .ok (.ireturn, 1) := by decide +kernel
theorem dX6_narrowed_35 : decode cX6_narrowed 35 = .ok (.iload_n 1, 1) := by decide +kernel
theorem dX6_narrowed_36 : decode cX6_narrowed 36 = .ok (.i2s, 1) := by decide +kernel
theorem dX6_narrowed_37 : decode cX6_narrowed 37 = .ok (.ireturn, 1) := by decide +kernel
theorem dX6_narrowed_38 : decode cX6_narrowed 38 = .ok (.iload_n 1, 1) := by decide +kernel
theorem dX6_narrowed_39 : decode cX6_narrowed 39 = .ok (.ireturn, 1) := by decide +kernel
theorem dX6_hasSpan_0 : decode cX6_hasSpan 0 = .ok (.iload_n 1, 1) := by decide +kernel
theorem dX6_hasSpan_1 : decode cX6_hasSpan 1 = .ok (.ifCond .lt 29, 3) := by decide +kernel
theorem dX6_hasSpan_4 : decode cX6_hasSpan 4 = .ok (.iload_n 2, 1) := by decide +kernel
theorem dX6_hasSpan_5 : decode cX6_hasSpan 5 = .ok (.ifCond .lt 25, 3) := by decide +kernel
theorem dX6_hasSpan_8 : decode cX6_hasSpan 8 = .ok (.iload_n 2, 1) := by decide +kernel
theorem dX6_hasSpan_9 : decode cX6_hasSpan 9 = .ok (.aload_n 0, 1) := by decide +kernel
theorem dX6_hasSpan_10 : decode cX6_hasSpan 10 = .ok (.getfield 19, 3) := by decide +kernel
theorem dX6_hasSpan_13 : decode cX6_hasSpan 13 = .ok (.if_icmp .gt 17, 3) := by decide +kernel
theorem dX6_hasSpan_16 : decode cX6_hasSpan 16 = .ok (.iload_n 1, 1) := by decide +kernel
theorem dX6_hasSpan_17 : decode cX6_hasSpan 17 = .ok (.aload_n 0, 1) := by decide +kernel
theorem dX6_hasSpan_18 : decode cX6_hasSpan 18 = .ok (.getfield 19, 3) := by decide +kernel
theorem dX6_hasSpan_21 : decode cX6_hasSpan 21 = .ok (.iload_n 2, 1) := by decide +kernel
theorem dX6_hasSpan_22 : decode cX6_hasSpan 22 = .ok (.isub, 1) := by decide +kernel
theorem dX6_hasSpan_23 : decode cX6_hasSpan 23 = .ok (.if_icmp .gt 7, 3) := by decide +kernel
theorem dX6_hasSpan_26 : decode cX6_hasSpan 26 = .ok (.iconst 1, 1) := by decide +kernel
theorem dX6_hasSpan_27 : decode cX6_hasSpan 27 = .ok (.goto 4, 3) := by decide +kernel
theorem dX6_hasSpan_30 : decode cX6_hasSpan 30 = .ok (.iconst 0, 1) := by decide +kernel
theorem dX6_hasSpan_31 : decode cX6_hasSpan 31 = .ok (.ireturn, 1) := by decide +kernel
theorem dX7_init_0 : decode cX7_init 0 = .ok (.aload_n 0, 1) := by decide +kernel
theorem dX7_init_1 : decode cX7_init 1 = .ok (.invokespecial 3, 3) := by decide +kernel
theorem dX7_init_4 : decode cX7_init 4 = .ok (.aload_n 0, 1) := by decide +kernel
theorem dX7_init_5 : decode cX7_init 5 = .ok (.bipush 8, 2) := by decide +kernel
theorem dX7_init_7 : decode cX7_init 7 = .ok (.newarray .int, 2) := by decide +kernel
theorem dX7_init_9 : decode cX7_init 9 = .ok (.putfield 9, 3) := by decide +kernel
theorem dX7_init_12 : decode cX7_init 12 = .ok (.aload_n 0, 1) := by decide +kernel
theorem dX7_init_13 : decode cX7_init 13 = .ok (.bipush 8, 2) := by decide +kernel
theorem dX7_init_15 : decode cX7_init 15 = .ok (.newarray .int, 2) := by decide +kernel
theorem dX7_init_17 : decode cX7_init 17 = .ok (.putfield 15, 3) := by decide +kernel
theorem dX7_init_20 : decode cX7_init 20 = .ok (.aload_n 0, 1) := by decide +kernel
theorem dX7_init_21 : decode cX7_init 21 = .ok (.bipush 8, 2) := by decide +kernel
theorem dX7_init_23 : decode cX7_init 23 = .ok (.newarray .int, 2) := by decide +kernel
theorem dX7_init_25 : decode cX7_init 25 = .ok (.putfield 18, 3) := by decide +kernel
theorem dX7_init_28 : decode cX7_init 28 = .ok (.aload_n 0, 1) := by decide +kernel
theorem dX7_init_29 : decode cX7_init 29 = .ok (.iconst 0, 1) := by decide +kernel
theorem dX7_init_30 : decode cX7_init 30 = .ok (.putfield 21, 3) := by decide +kernel
theorem dX7_init_33 : decode cX7_init 33 = .ok (.return_, 1) := by decide +kernel
theorem dX7_add_0 : decode cX7_add 0 = .ok (.aload_n 0, 1) := by decide +kernel
theorem dX7_add_1 : decode cX7_add 1 = .ok (.getfield 21, 3) := by decide +kernel
theorem dX7_add_4 : decode cX7_add 4 = .ok (.bipush 8, 2) := by decide +kernel
theorem dX7_add_6 : decode cX7_add 6 = .ok (.if_icmp .ge 43, 3) := by decide +kernel
theorem dX7_add_9 : decode cX7_add 9 = .ok (.aload_n 0, 1) := by decide +kernel
theorem dX7_add_10 : decode cX7_add 10 = .ok (.getfield 9, 3) := by decide +kernel
theorem dX7_add_13 : decode cX7_add 13 = .ok (.aload_n 0, 1) := by decide +kernel
theorem dX7_add_14 : decode cX7_add 14 = .ok (.getfield 21, 3) := by decide +kernel
theorem dX7_add_17 : decode cX7_add 17 = .ok (.iload_n 1, 1) := by decide +kernel
theorem dX7_add_18 : decode cX7_add 18 = .ok (.iastore, 1) := by decide +kernel
theorem dX7_add_19 : decode cX7_add 19 = .ok (.aload_n 0, 1) := by decide +kernel
theorem dX7_add_20 : decode cX7_add 20 = .ok (.getfield 15, 3) := by decide +kernel
theorem dX7_add_23 : decode cX7_add 23 = .ok (.aload_n 0, 1) := by decide +kernel
theorem dX7_add_24 : decode cX7_add 24 = .ok (.getfield 21, 3) := by decide +kernel
theorem dX7_add_27 : decode cX7_add 27 = .ok (.iload_n 2, 1) := by decide +kernel
theorem dX7_add_28 : decode cX7_add 28 = .ok (.iastore, 1) := by decide +kernel
theorem dX7_add_29 : decode cX7_add 29 = .ok (.aload_n 0, 1) := by decide +kernel
theorem dX7_add_30 : decode cX7_add 30 = .ok (.getfield 18, 3) := by decide +kernel
theorem dX7_add_33 : decode cX7_add 33 = .ok (.aload_n 0, 1) := by decide +kernel
theorem dX7_add_34 : decode cX7_add 34 = .ok (.getfield 21, 3) := by decide +kernel
theorem dX7_add_37 : decode cX7_add 37 = .ok (.iload_n 3, 1) := by decide +kernel
theorem dX7_add_38 : decode cX7_add 38 = .ok (.iastore, 1) := by decide +kernel
theorem dX7_add_39 : decode cX7_add 39 = .ok (.aload_n 0, 1) := by decide +kernel
theorem dX7_add_40 : decode cX7_add 40 = .ok (.dup, 1) := by decide +kernel
theorem dX7_add_41 : decode cX7_add 41 = .ok (.getfield 21, 3) := by decide +kernel
theorem dX7_add_44 : decode cX7_add 44 = .ok (.iconst 1, 1) := by decide +kernel
theorem dX7_add_45 : decode cX7_add 45 = .ok (.iadd, 1) := by decide +kernel
theorem dX7_add_46 : decode cX7_add 46 = .ok (.putfield 21, 3) := by decide +kernel
theorem dX7_add_49 : decode cX7_add 49 = .ok (.return_, 1) := by decide +kernel
theorem dX7_fit_0 : decode cX7_fit 0 = .ok (.iconst 0, 1) := by decide +kernel
theorem dX7_fit_1 : decode cX7_fit 1 = .ok (.istore_n 3, 1) := by decide +kernel
theorem dX7_fit_2 : decode cX7_fit 2 = .ok (.iload_n 3, 1) := by decide +kernel
theorem dX7_fit_3 : decode cX7_fit 3 = .ok (.aload_n 0, 1) := by decide +kernel
theorem dX7_fit_4 : decode cX7_fit 4 = .ok (.getfield 21, 3) := by decide +kernel
theorem dX7_fit_7 : decode cX7_fit 7 = .ok (.if_icmp .ge 67, 3) := by decide +kernel
theorem dX7_fit_10 : decode cX7_fit 10 = .ok (.aload_n 0, 1) := by decide +kernel
theorem dX7_fit_11 : decode cX7_fit 11 = .ok (.getfield 15, 3) := by decide +kernel
theorem dX7_fit_14 : decode cX7_fit 14 = .ok (.iload_n 3, 1) := by decide +kernel
theorem dX7_fit_15 : decode cX7_fit 15 = .ok (.iaload, 1) := by decide +kernel
theorem dX7_fit_16 : decode cX7_fit 16 = .ok (.iload_n 2, 1) := by decide +kernel
theorem dX7_fit_17 : decode cX7_fit 17 = .ok (.if_icmp .ge 41, 3) := by decide +kernel
theorem dX7_fit_20 : decode cX7_fit 20 = .ok (.aload_n 1, 1) := by decide +kernel
theorem dX7_fit_21 : decode cX7_fit 21 = .ok (.aload_n 0, 1) := by decide +kernel
theorem dX7_fit_22 : decode cX7_fit 22 = .ok (.getfield 9, 3) := by decide +kernel
theorem dX7_fit_25 : decode cX7_fit 25 = .ok (.iload_n 3, 1) := by decide +kernel
theorem dX7_fit_26 : decode cX7_fit 26 = .ok (.iaload, 1) := by decide +kernel
theorem dX7_fit_27 : decode cX7_fit 27 = .ok (.aload_n 0, 1) := by decide +kernel
theorem dX7_fit_28 : decode cX7_fit 28 = .ok (.getfield 15, 3) := by decide +kernel
theorem dX7_fit_31 : decode cX7_fit 31 = .ok (.iload_n 3, 1) := by decide +kernel
theorem dX7_fit_32 : decode cX7_fit 32 = .ok (.iaload, 1) := by decide +kernel
theorem dX7_fit_33 : decode cX7_fit 33 = .ok (.invokevirtual 25, 3) := by decide +kernel
theorem dX7_fit_36 : decode cX7_fit 36 = .ok (.aload_n 0, 1) := by decide +kernel
theorem dX7_fit_37 : decode cX7_fit 37 = .ok (.getfield 18, 3) := by decide +kernel
theorem dX7_fit_40 : decode cX7_fit 40 = .ok (.iload_n 3, 1) := by decide +kernel
theorem dX7_fit_41 : decode cX7_fit 41 = .ok (.iaload, 1) := by decide +kernel
theorem dX7_fit_42 : decode cX7_fit 42 = .ok (.iconst 1, 1) := by decide +kernel
theorem dX7_fit_43 : decode cX7_fit 43 = .ok (.if_icmp .ne 7, 3) := by decide +kernel
theorem dX7_fit_46 : decode cX7_fit 46 = .ok (.iconst 1, 1) := by decide +kernel
theorem dX7_fit_47 : decode cX7_fit 47 = .ok (.goto 4, 3) := by decide +kernel
theorem dX7_fit_50 : decode cX7_fit 50 = .ok (.iconst 0, 1) := by decide +kernel
theorem dX7_fit_51 : decode cX7_fit 51 = .ok (.if_icmp .ne 7, 3) := by decide +kernel
theorem dX7_fit_54 : decode cX7_fit 54 = .ok (.iconst 1, 1) := by decide +kernel
theorem dX7_fit_55 : decode cX7_fit 55 = .ok (.goto 4, 3) := by decide +kernel
theorem dX7_fit_58 : decode cX7_fit 58 = .ok (.iconst 0, 1) := by decide +kernel
theorem dX7_fit_59 : decode cX7_fit 59 = .ok (.istore 4, 2) := by decide +kernel
theorem dX7_fit_61 : decode cX7_fit 61 = .ok (.iload 4, 2) := by decide +kernel
theorem dX7_fit_63 : decode cX7_fit 63 = .ok (.ifCond .ne 5, 3) := by decide +kernel
theorem dX7_fit_66 : decode cX7_fit 66 = .ok (.iconst 0, 1) := by decide +kernel
theorem dX7_fit_67 : decode cX7_fit 67 = .ok (.ireturn, 1) := by decide +kernel
theorem dX7_fit_68 : decode cX7_fit 68 = .ok (.iinc 3 1, 3) := by decide +kernel
theorem dX7_fit_71 : decode cX7_fit 71 = .ok (.goto (-69), 3) := by decide +kernel
theorem dX7_fit_74 : decode cX7_fit 74 = .ok (.iconst 1, 1) := by decide +kernel
theorem dX7_fit_75 : decode cX7_fit 75 = .ok (.ireturn, 1) := by decide +kernel
theorem dX8_init_0 : decode cX8_init 0 = .ok (.aload_n 0, 1) := by decide +kernel
theorem dX8_init_1 : decode cX8_init 1 = .ok (.invokespecial 3, 3) := by decide +kernel
theorem dX8_init_4 : decode cX8_init 4 = .ok (.aload_n 0, 1) := by decide +kernel
theorem dX8_init_5 : decode cX8_init 5 = .ok (.bipush 39, 2) := by decide +kernel
theorem dX8_init_7 : decode cX8_init 7 = .ok (.newarray .int, 2) := by decide +kernel
theorem dX8_init_9 : decode cX8_init 9 = .ok (.putfield 9, 3) := by decide +kernel
theorem dX8_init_12 : decode cX8_init 12 = .ok (.aload_n 0, 1) := by decide +kernel
theorem dX8_init_13 : decode cX8_init 13 = .ok (.iconst 0, 1) := by decide +kernel
theorem dX8_init_14 : decode cX8_init 14 = .ok (.putfield 15, 3) := by decide +kernel
theorem dX8_init_17 : decode cX8_init 17 = .ok (.aload_n 0, 1) := by decide +kernel
theorem dX8_init_18 : decode cX8_init 18 = .ok (.iload_n 1, 1) := by decide +kernel
theorem dX8_init_19 : decode cX8_init 19 = .ok (.bipush 39, 2) := by decide +kernel
theorem dX8_init_21 : decode cX8_init 21 = .ok (.invokestatic 19, 3) := by decide +kernel
theorem dX8_init_24 : decode cX8_init 24 = .ok (.putfield 25, 3) := by decide +kernel
theorem dX8_init_27 : decode cX8_init 27 = .ok (.return_, 1) := by decide +kernel
theorem dX8_add_0 : decode cX8_add 0 = .ok (.aload_n 0, 1) := by decide +kernel
theorem dX8_add_1 : decode cX8_add 1 = .ok (.getfield 15, 3) := by decide +kernel
theorem dX8_add_4 : decode cX8_add 4 = .ok (.aload_n 0, 1) := by decide +kernel
theorem dX8_add_5 : decode cX8_add 5 = .ok (.getfield 25, 3) := by decide +kernel
theorem dX8_add_8 : decode cX8_add 8 = .ok (.if_icmp .ge 23, 3) := by decide +kernel
theorem dX8_add_11 : decode cX8_add 11 = .ok (.aload_n 0, 1) := by decide +kernel
theorem dX8_add_12 : decode cX8_add 12 = .ok (.getfield 9, 3) := by decide +kernel
theorem dX8_add_15 : decode cX8_add 15 = .ok (.aload_n 0, 1) := by decide +kernel
theorem dX8_add_16 : decode cX8_add 16 = .ok (.getfield 15, 3) := by decide +kernel
theorem dX8_add_19 : decode cX8_add 19 = .ok (.iload_n 1, 1) := by decide +kernel
theorem dX8_add_20 : decode cX8_add 20 = .ok (.iastore, 1) := by decide +kernel
theorem dX8_add_21 : decode cX8_add 21 = .ok (.aload_n 0, 1) := by decide +kernel
theorem dX8_add_22 : decode cX8_add 22 = .ok (.dup, 1) := by decide +kernel
theorem dX8_add_23 : decode cX8_add 23 = .ok (.getfield 15, 3) := by decide +kernel
theorem dX8_add_26 : decode cX8_add 26 = .ok (.iconst 1, 1) := by decide +kernel
theorem dX8_add_27 : decode cX8_add 27 = .ok (.iadd, 1) := by decide +kernel
theorem dX8_add_28 : decode cX8_add 28 = .ok (.putfield 15, 3) := by decide +kernel
theorem dX8_add_31 : decode cX8_add 31 = .ok (.return_, 1) := by decide +kernel
theorem dJ6_bitCount_0f7a4_0 : decode cJ6_bitCount_0f7a4 0 = .ok (.iload_n 0, 1) := by decide +kernel
theorem dJ6_bitCount_0f7a4_1 : decode cJ6_bitCount_0f7a4 1 = .ok (.iload_n 0, 1) := by decide +kernel
theorem dJ6_bitCount_0f7a4_2 : decode cJ6_bitCount_0f7a4 2 = .ok (.iconst 1, 1) := by decide +kernel
theorem dJ6_bitCount_0f7a4_3 : decode cJ6_bitCount_0f7a4 3 = .ok (.iushr, 1) := by decide +kernel
theorem dJ6_bitCount_0f7a4_4 : decode cJ6_bitCount_0f7a4 4 = .ok (.ldc_w 265, 3) := by decide +kernel
theorem dJ6_bitCount_0f7a4_7 : decode cJ6_bitCount_0f7a4 7 = .ok (.iand, 1) := by decide +kernel
theorem dJ6_bitCount_0f7a4_8 : decode cJ6_bitCount_0f7a4 8 = .ok (.isub, 1) := by decide +kernel
theorem dJ6_bitCount_0f7a4_9 : decode cJ6_bitCount_0f7a4 9 = .ok (.istore_n 0, 1) := by decide +kernel
theorem dJ6_bitCount_0f7a4_10 : decode cJ6_bitCount_0f7a4 10 = .ok (.iload_n 0, 1) := by decide +kernel
theorem dJ6_bitCount_0f7a4_11 : decode cJ6_bitCount_0f7a4 11 = .ok (.ldc_w 266, 3) := by decide +kernel
theorem dJ6_bitCount_0f7a4_14 : decode cJ6_bitCount_0f7a4 14 = .ok (.iand, 1) := by decide +kernel
theorem dJ6_bitCount_0f7a4_15 : decode cJ6_bitCount_0f7a4 15 = .ok (.iload_n 0, 1) := by decide +kernel
theorem dJ6_bitCount_0f7a4_16 : decode cJ6_bitCount_0f7a4 16 = .ok (.iconst 2, 1) := by decide +kernel
theorem dJ6_bitCount_0f7a4_17 : decode cJ6_bitCount_0f7a4 17 = .ok (.iushr, 1) := by decide +kernel
theorem dJ6_bitCount_0f7a4_18 : decode cJ6_bitCount_0f7a4 18 = .ok (.ldc_w 266, 3) := by decide +kernel
theorem dJ6_bitCount_0f7a4_21 : decode cJ6_bitCount_0f7a4 21 = .ok (.iand, 1) := by decide +kernel
theorem dJ6_bitCount_0f7a4_22 : decode cJ6_bitCount_0f7a4 22 = .ok (.iadd, 1) := by decide +kernel
theorem dJ6_bitCount_0f7a4_23 : decode cJ6_bitCount_0f7a4 23 = .ok (.istore_n 0, 1) := by decide +kernel
theorem dJ6_bitCount_0f7a4_24 : decode cJ6_bitCount_0f7a4 24 = .ok (.iload_n 0, 1) := by decide +kernel
theorem dJ6_bitCount_0f7a4_25 : decode cJ6_bitCount_0f7a4 25 = .ok (.iload_n 0, 1) := by decide +kernel
theorem dJ6_bitCount_0f7a4_26 : decode cJ6_bitCount_0f7a4 26 = .ok (.iconst 4, 1) := by decide +kernel
theorem dJ6_bitCount_0f7a4_27 : decode cJ6_bitCount_0f7a4 27 = .ok (.iushr, 1) := by decide +kernel
theorem dJ6_bitCount_0f7a4_28 : decode cJ6_bitCount_0f7a4 28 = .ok (.iadd, 1) := by decide +kernel
theorem dJ6_bitCount_0f7a4_29 : decode cJ6_bitCount_0f7a4 29 = .ok (.ldc_w 267, 3) := by decide +kernel
theorem dJ6_bitCount_0f7a4_32 : decode cJ6_bitCount_0f7a4 32 = .ok (.iand, 1) := by decide +kernel
theorem dJ6_bitCount_0f7a4_33 : decode cJ6_bitCount_0f7a4 33 = .ok (.istore_n 0, 1) := by decide +kernel
theorem dJ6_bitCount_0f7a4_34 : decode cJ6_bitCount_0f7a4 34 = .ok (.iload_n 0, 1) := by decide +kernel
theorem dJ6_bitCount_0f7a4_35 : decode cJ6_bitCount_0f7a4 35 = .ok (.iload_n 0, 1) := by decide +kernel
theorem dJ6_bitCount_0f7a4_36 : decode cJ6_bitCount_0f7a4 36 = .ok (.bipush 8, 2) := by decide +kernel
theorem dJ6_bitCount_0f7a4_38 : decode cJ6_bitCount_0f7a4 38 = .ok (.iushr, 1) := by decide +kernel
theorem dJ6_bitCount_0f7a4_39 : decode cJ6_bitCount_0f7a4 39 = .ok (.iadd, 1) := by decide +kernel
theorem dJ6_bitCount_0f7a4_40 : decode cJ6_bitCount_0f7a4 40 = .ok (.istore_n 0, 1) := by decide +kernel
theorem dJ6_bitCount_0f7a4_41 : decode cJ6_bitCount_0f7a4 41 = .ok (.iload_n 0, 1) := by decide +kernel
theorem dJ6_bitCount_0f7a4_42 : decode cJ6_bitCount_0f7a4 42 = .ok (.iload_n 0, 1) := by decide +kernel
theorem dJ6_bitCount_0f7a4_43 : decode cJ6_bitCount_0f7a4 43 = .ok (.bipush 16, 2) := by decide +kernel
theorem dJ6_bitCount_0f7a4_45 : decode cJ6_bitCount_0f7a4 45 = .ok (.iushr, 1) := by decide +kernel
theorem dJ6_bitCount_0f7a4_46 : decode cJ6_bitCount_0f7a4 46 = .ok (.iadd, 1) := by decide +kernel
theorem dJ6_bitCount_0f7a4_47 : decode cJ6_bitCount_0f7a4 47 = .ok (.istore_n 0, 1) := by decide +kernel
theorem dJ6_bitCount_0f7a4_48 : decode cJ6_bitCount_0f7a4 48 = .ok (.iload_n 0, 1) := by decide +kernel
theorem dJ6_bitCount_0f7a4_49 : decode cJ6_bitCount_0f7a4 49 = .ok (.bipush 63, 2) := by decide +kernel
theorem dJ6_bitCount_0f7a4_51 : decode cJ6_bitCount_0f7a4 51 = .ok (.iand, 1) := by decide +kernel
theorem dJ6_bitCount_0f7a4_52 : decode cJ6_bitCount_0f7a4 52 = .ok (.ireturn, 1) := by decide +kernel
theorem dJ9_max_7cf53_0 : decode cJ9_max_7cf53 0 = .ok (.iload_n 0, 1) := by decide +kernel
theorem dJ9_max_7cf53_1 : decode cJ9_max_7cf53 1 = .ok (.iload_n 1, 1) := by decide +kernel
theorem dJ9_max_7cf53_2 : decode cJ9_max_7cf53 2 = .ok (.if_icmp .lt 7, 3) := by decide +kernel
theorem dJ9_max_7cf53_5 : decode cJ9_max_7cf53 5 = .ok (.iload_n 0, 1) := by decide +kernel
theorem dJ9_max_7cf53_6 : decode cJ9_max_7cf53 6 = .ok (.goto 4, 3) := by decide +kernel
theorem dJ9_max_7cf53_9 : decode cJ9_max_7cf53 9 = .ok (.iload_n 1, 1) := by decide +kernel
theorem dJ9_max_7cf53_10 : decode cJ9_max_7cf53 10 = .ok (.ireturn, 1) := by decide +kernel
theorem dJ9_min_7cf53_0 : decode cJ9_min_7cf53 0 = .ok (.iload_n 0, 1) := by decide +kernel
theorem dJ9_min_7cf53_1 : decode cJ9_min_7cf53 1 = .ok (.iload_n 1, 1) := by decide +kernel
theorem dJ9_min_7cf53_2 : decode cJ9_min_7cf53 2 = .ok (.if_icmp .gt 7, 3) := by decide +kernel
theorem dJ9_min_7cf53_5 : decode cJ9_min_7cf53 5 = .ok (.iload_n 0, 1) := by decide +kernel
theorem dJ9_min_7cf53_6 : decode cJ9_min_7cf53 6 = .ok (.goto 4, 3) := by decide +kernel
theorem dJ9_min_7cf53_9 : decode cJ9_min_7cf53 9 = .ok (.iload_n 1, 1) := by decide +kernel
theorem dJ9_min_7cf53_10 : decode cJ9_min_7cf53 10 = .ok (.ireturn, 1) := by decide +kernel
theorem dL_law_0 : decode cL_law 0 = .ok (.new 7, 3) := by decide +kernel
theorem dL_law_3 : decode cL_law 3 = .ok (.dup, 1) := by decide +kernel
theorem dL_law_4 : decode cL_law 4 = .ok (.invokespecial 9, 3) := by decide +kernel
theorem dL_law_7 : decode cL_law 7 = .ok (.astore_n 1, 1) := by decide +kernel
theorem dL_law_8 : decode cL_law 8 = .ok (.new 10, 3) := by decide +kernel
theorem dL_law_11 : decode cL_law 11 = .ok (.dup, 1) := by decide +kernel
theorem dL_law_12 : decode cL_law 12 = .ok (.invokespecial 12, 3) := by decide +kernel
theorem dL_law_15 : decode cL_law 15 = .ok (.astore_n 2, 1) := by decide +kernel
theorem dL_law_16 : decode cL_law 16 = .ok (.iconst 0, 1) := by decide +kernel
theorem dL_law_17 : decode cL_law 17 = .ok (.istore_n 3, 1) := by decide +kernel
theorem dL_law_18 : decode cL_law 18 = .ok (.iload_n 3, 1) := by decide +kernel
theorem dL_law_19 : decode cL_law 19 = .ok (.aload_n 0, 1) := by decide +kernel
theorem dL_law_20 : decode cL_law 20 = .ok (.arraylength, 1) := by decide +kernel
theorem dL_law_21 : decode cL_law 21 = .ok (.bipush 6, 2) := by decide +kernel
theorem dL_law_23 : decode cL_law 23 = .ok (.isub, 1) := by decide +kernel
theorem dL_law_24 : decode cL_law 24 = .ok (.if_icmp .gt 1281, 3) := by decide +kernel
theorem dL_law_27 : decode cL_law 27 = .ok (.aload_n 0, 1) := by decide +kernel
theorem dL_law_28 : decode cL_law 28 = .ok (.iload_n 3, 1) := by decide +kernel
theorem dL_law_29 : decode cL_law 29 = .ok (.iaload, 1) := by decide +kernel
theorem dL_law_30 : decode cL_law 30 = .ok (.bipush 63, 2) := by decide +kernel
theorem dL_law_32 : decode cL_law 32 = .ok (.iand, 1) := by decide +kernel
theorem dL_law_33 : decode cL_law 33 = .ok (.tableswitch 1266 0 36 #[163, 196, 219, 242, 265, 298, 331, 374, 387, 410, 453, 496, 529, 552, 575, 588, 611, 624, 637, 670, 703, 736, 759, 802, 815, 828, 861, 884, 928, 971, 1014, 1037, 1090, 1133, 1196, 1229, 1252], 163) := by decide +kernel
theorem dL_law_196 : decode cL_law 196 = .ok (.aload_n 1, 1) := by decide +kernel
theorem dL_law_197 : decode cL_law 197 = .ok (.aload_n 0, 1) := by decide +kernel
theorem dL_law_198 : decode cL_law 198 = .ok (.iload_n 3, 1) := by decide +kernel
theorem dL_law_199 : decode cL_law 199 = .ok (.iconst 1, 1) := by decide +kernel
theorem dL_law_200 : decode cL_law 200 = .ok (.iadd, 1) := by decide +kernel
theorem dL_law_201 : decode cL_law 201 = .ok (.iaload, 1) := by decide +kernel
theorem dL_law_202 : decode cL_law 202 = .ok (.aload_n 0, 1) := by decide +kernel
theorem dL_law_203 : decode cL_law 203 = .ok (.iload_n 3, 1) := by decide +kernel
theorem dL_law_204 : decode cL_law 204 = .ok (.iconst 2, 1) := by decide +kernel
theorem dL_law_205 : decode cL_law 205 = .ok (.iadd, 1) := by decide +kernel
theorem dL_law_206 : decode cL_law 206 = .ok (.iaload, 1) := by decide +kernel
theorem dL_law_207 : decode cL_law 207 = .ok (.invokevirtual 13, 3) := by decide +kernel
theorem dL_law_210 : decode cL_law 210 = .ok (.aload_n 2, 1) := by decide +kernel
theorem dL_law_211 : decode cL_law 211 = .ok (.aload_n 0, 1) := by decide +kernel
theorem dL_law_212 : decode cL_law 212 = .ok (.iload_n 3, 1) := by decide +kernel
theorem dL_law_213 : decode cL_law 213 = .ok (.iconst 1, 1) := by decide +kernel
theorem dL_law_214 : decode cL_law 214 = .ok (.iadd, 1) := by decide +kernel
theorem dL_law_215 : decode cL_law 215 = .ok (.iaload, 1) := by decide +kernel
theorem dL_law_216 : decode cL_law 216 = .ok (.aload_n 0, 1) := by decide +kernel
theorem dL_law_217 : decode cL_law 217 = .ok (.iload_n 3, 1) := by decide +kernel
theorem dL_law_218 : decode cL_law 218 = .ok (.iconst 2, 1) := by decide +kernel
theorem dL_law_219 : decode cL_law 219 = .ok (.iadd, 1) := by decide +kernel
theorem dL_law_220 : decode cL_law 220 = .ok (.iaload, 1) := by decide +kernel
theorem dL_law_221 : decode cL_law 221 = .ok (.invokevirtual 17, 3) := by decide +kernel
theorem dL_law_224 : decode cL_law 224 = .ok (.if_icmp .eq 1075, 3) := by decide +kernel
theorem dL_law_227 : decode cL_law 227 = .ok (.iconst 0, 1) := by decide +kernel
theorem dL_law_228 : decode cL_law 228 = .ok (.ireturn, 1) := by decide +kernel
theorem dL_law_229 : decode cL_law 229 = .ok (.aload_n 1, 1) := by decide +kernel
theorem dL_law_230 : decode cL_law 230 = .ok (.aload_n 0, 1) := by decide +kernel
theorem dL_law_231 : decode cL_law 231 = .ok (.iload_n 3, 1) := by decide +kernel
theorem dL_law_232 : decode cL_law 232 = .ok (.iconst 1, 1) := by decide +kernel
theorem dL_law_233 : decode cL_law 233 = .ok (.iadd, 1) := by decide +kernel
theorem dL_law_234 : decode cL_law 234 = .ok (.iaload, 1) := by decide +kernel
theorem dL_law_235 : decode cL_law 235 = .ok (.invokevirtual 18, 3) := by decide +kernel
theorem dL_law_238 : decode cL_law 238 = .ok (.aload_n 2, 1) := by decide +kernel
theorem dL_law_239 : decode cL_law 239 = .ok (.aload_n 0, 1) := by decide +kernel
theorem dL_law_240 : decode cL_law 240 = .ok (.iload_n 3, 1) := by decide +kernel
theorem dL_law_241 : decode cL_law 241 = .ok (.iconst 1, 1) := by decide +kernel
theorem dL_law_242 : decode cL_law 242 = .ok (.iadd, 1) := by decide +kernel
theorem dL_law_243 : decode cL_law 243 = .ok (.iaload, 1) := by decide +kernel
theorem dL_law_244 : decode cL_law 244 = .ok (.invokevirtual 22, 3) := by decide +kernel
theorem dL_law_247 : decode cL_law 247 = .ok (.if_icmp .eq 1052, 3) := by decide +kernel
theorem dL_law_250 : decode cL_law 250 = .ok (.iconst 0, 1) := by decide +kernel
theorem dL_law_251 : decode cL_law 251 = .ok (.ireturn, 1) := by decide +kernel
theorem dL_law_252 : decode cL_law 252 = .ok (.aload_n 1, 1) := by decide +kernel
theorem dL_law_253 : decode cL_law 253 = .ok (.aload_n 0, 1) := by decide +kernel
theorem dL_law_254 : decode cL_law 254 = .ok (.iload_n 3, 1) := by decide +kernel
theorem dL_law_255 : decode cL_law 255 = .ok (.iconst 1, 1) := by decide +kernel
theorem dL_law_256 : decode cL_law 256 = .ok (.iadd, 1) := by decide +kernel
theorem dL_law_257 : decode cL_law 257 = .ok (.iaload, 1) := by decide +kernel
theorem dL_law_258 : decode cL_law 258 = .ok (.invokevirtual 23, 3) := by decide +kernel
theorem dL_law_261 : decode cL_law 261 = .ok (.aload_n 2, 1) := by decide +kernel
theorem dL_law_262 : decode cL_law 262 = .ok (.aload_n 0, 1) := by decide +kernel
theorem dL_law_263 : decode cL_law 263 = .ok (.iload_n 3, 1) := by decide +kernel
theorem dL_law_264 : decode cL_law 264 = .ok (.iconst 1, 1) := by decide +kernel
theorem dL_law_265 : decode cL_law 265 = .ok (.iadd, 1) := by decide +kernel
theorem dL_law_266 : decode cL_law 266 = .ok (.iaload, 1) := by decide +kernel
theorem dL_law_267 : decode cL_law 267 = .ok (.invokevirtual 26, 3) := by decide +kernel
theorem dL_law_270 : decode cL_law 270 = .ok (.if_icmp .eq 1029, 3) := by decide +kernel
theorem dL_law_273 : decode cL_law 273 = .ok (.iconst 0, 1) := by decide +kernel
theorem dL_law_274 : decode cL_law 274 = .ok (.ireturn, 1) := by decide +kernel
theorem dL_law_275 : decode cL_law 275 = .ok (.aload_n 1, 1) := by decide +kernel
theorem dL_law_276 : decode cL_law 276 = .ok (.aload_n 0, 1) := by decide +kernel
theorem dL_law_277 : decode cL_law 277 = .ok (.iload_n 3, 1) := by decide +kernel
theorem dL_law_278 : decode cL_law 278 = .ok (.iconst 1, 1) := by decide +kernel
theorem dL_law_279 : decode cL_law 279 = .ok (.iadd, 1) := by decide +kernel
theorem dL_law_280 : decode cL_law 280 = .ok (.iaload, 1) := by decide +kernel
theorem dL_law_281 : decode cL_law 281 = .ok (.invokevirtual 27, 3) := by decide +kernel
theorem dL_law_284 : decode cL_law 284 = .ok (.aload_n 2, 1) := by decide +kernel
theorem dL_law_285 : decode cL_law 285 = .ok (.aload_n 0, 1) := by decide +kernel
theorem dL_law_286 : decode cL_law 286 = .ok (.iload_n 3, 1) := by decide +kernel
theorem dL_law_287 : decode cL_law 287 = .ok (.iconst 1, 1) := by decide +kernel
theorem dL_law_288 : decode cL_law 288 = .ok (.iadd, 1) := by decide +kernel
theorem dL_law_289 : decode cL_law 289 = .ok (.iaload, 1) := by decide +kernel
theorem dL_law_290 : decode cL_law 290 = .ok (.invokevirtual 30, 3) := by decide +kernel
theorem dL_law_293 : decode cL_law 293 = .ok (.if_icmp .eq 1006, 3) := by decide +kernel
theorem dL_law_296 : decode cL_law 296 = .ok (.iconst 0, 1) := by decide +kernel
theorem dL_law_297 : decode cL_law 297 = .ok (.ireturn, 1) := by decide +kernel
theorem dL_law_298 : decode cL_law 298 = .ok (.aload_n 1, 1) := by decide +kernel
theorem dL_law_299 : decode cL_law 299 = .ok (.aload_n 0, 1) := by decide +kernel
theorem dL_law_300 : decode cL_law 300 = .ok (.iload_n 3, 1) := by decide +kernel
theorem dL_law_301 : decode cL_law 301 = .ok (.iconst 1, 1) := by decide +kernel
theorem dL_law_302 : decode cL_law 302 = .ok (.iadd, 1) := by decide +kernel
theorem dL_law_303 : decode cL_law 303 = .ok (.iaload, 1) := by decide +kernel
theorem dL_law_304 : decode cL_law 304 = .ok (.aload_n 0, 1) := by decide +kernel
theorem dL_law_305 : decode cL_law 305 = .ok (.iload_n 3, 1) := by decide +kernel
theorem dL_law_306 : decode cL_law 306 = .ok (.iconst 2, 1) := by decide +kernel
theorem dL_law_307 : decode cL_law 307 = .ok (.iadd, 1) := by decide +kernel
theorem dL_law_308 : decode cL_law 308 = .ok (.iaload, 1) := by decide +kernel
theorem dL_law_309 : decode cL_law 309 = .ok (.invokevirtual 31, 3) := by decide +kernel
theorem dL_law_312 : decode cL_law 312 = .ok (.aload_n 2, 1) := by decide +kernel
theorem dL_law_313 : decode cL_law 313 = .ok (.aload_n 0, 1) := by decide +kernel
theorem dL_law_314 : decode cL_law 314 = .ok (.iload_n 3, 1) := by decide +kernel
theorem dL_law_315 : decode cL_law 315 = .ok (.iconst 1, 1) := by decide +kernel
theorem dL_law_316 : decode cL_law 316 = .ok (.iadd, 1) := by decide +kernel
theorem dL_law_317 : decode cL_law 317 = .ok (.iaload, 1) := by decide +kernel
theorem dL_law_318 : decode cL_law 318 = .ok (.aload_n 0, 1) := by decide +kernel
theorem dL_law_319 : decode cL_law 319 = .ok (.iload_n 3, 1) := by decide +kernel
theorem dL_law_320 : decode cL_law 320 = .ok (.iconst 2, 1) := by decide +kernel
theorem dL_law_321 : decode cL_law 321 = .ok (.iadd, 1) := by decide +kernel
theorem dL_law_322 : decode cL_law 322 = .ok (.iaload, 1) := by decide +kernel
theorem dL_law_323 : decode cL_law 323 = .ok (.invokevirtual 34, 3) := by decide +kernel
theorem dL_law_326 : decode cL_law 326 = .ok (.if_icmp .eq 973, 3) := by decide +kernel
theorem dL_law_329 : decode cL_law 329 = .ok (.iconst 0, 1) := by decide +kernel
theorem dL_law_330 : decode cL_law 330 = .ok (.ireturn, 1) := by decide +kernel
theorem dL_law_331 : decode cL_law 331 = .ok (.aload_n 1, 1) := by decide +kernel
theorem dL_law_332 : decode cL_law 332 = .ok (.aload_n 0, 1) := by decide +kernel
theorem dL_law_333 : decode cL_law 333 = .ok (.iload_n 3, 1) := by decide +kernel
theorem dL_law_334 : decode cL_law 334 = .ok (.iconst 1, 1) := by decide +kernel
theorem dL_law_335 : decode cL_law 335 = .ok (.iadd, 1) := by decide +kernel
theorem dL_law_336 : decode cL_law 336 = .ok (.iaload, 1) := by decide +kernel
theorem dL_law_337 : decode cL_law 337 = .ok (.aload_n 0, 1) := by decide +kernel
theorem dL_law_338 : decode cL_law 338 = .ok (.iload_n 3, 1) := by decide +kernel
theorem dL_law_339 : decode cL_law 339 = .ok (.iconst 2, 1) := by decide +kernel
theorem dL_law_340 : decode cL_law 340 = .ok (.iadd, 1) := by decide +kernel
theorem dL_law_341 : decode cL_law 341 = .ok (.iaload, 1) := by decide +kernel
theorem dL_law_342 : decode cL_law 342 = .ok (.invokevirtual 35, 3) := by decide +kernel
theorem dL_law_345 : decode cL_law 345 = .ok (.aload_n 2, 1) := by decide +kernel
theorem dL_law_346 : decode cL_law 346 = .ok (.aload_n 0, 1) := by decide +kernel
theorem dL_law_347 : decode cL_law 347 = .ok (.iload_n 3, 1) := by decide +kernel
theorem dL_law_348 : decode cL_law 348 = .ok (.iconst 1, 1) := by decide +kernel
theorem dL_law_349 : decode cL_law 349 = .ok (.iadd, 1) := by decide +kernel
theorem dL_law_350 : decode cL_law 350 = .ok (.iaload, 1) := by decide +kernel
theorem dL_law_351 : decode cL_law 351 = .ok (.aload_n 0, 1) := by decide +kernel
theorem dL_law_352 : decode cL_law 352 = .ok (.iload_n 3, 1) := by decide +kernel
theorem dL_law_353 : decode cL_law 353 = .ok (.iconst 2, 1) := by decide +kernel
theorem dL_law_354 : decode cL_law 354 = .ok (.iadd, 1) := by decide +kernel
theorem dL_law_355 : decode cL_law 355 = .ok (.iaload, 1) := by decide +kernel
theorem dL_law_356 : decode cL_law 356 = .ok (.invokevirtual 38, 3) := by decide +kernel
theorem dL_law_359 : decode cL_law 359 = .ok (.if_icmp .eq 940, 3) := by decide +kernel
theorem dL_law_362 : decode cL_law 362 = .ok (.iconst 0, 1) := by decide +kernel
theorem dL_law_363 : decode cL_law 363 = .ok (.ireturn, 1) := by decide +kernel
theorem dL_law_364 : decode cL_law 364 = .ok (.aload_n 1, 1) := by decide +kernel
theorem dL_law_365 : decode cL_law 365 = .ok (.aload_n 0, 1) := by decide +kernel
theorem dL_law_366 : decode cL_law 366 = .ok (.iload_n 3, 1) := by decide +kernel
theorem dL_law_367 : decode cL_law 367 = .ok (.iconst 1, 1) := by decide +kernel
theorem dL_law_368 : decode cL_law 368 = .ok (.iadd, 1) := by decide +kernel
theorem dL_law_369 : decode cL_law 369 = .ok (.iaload, 1) := by decide +kernel
theorem dL_law_370 : decode cL_law 370 = .ok (.aload_n 0, 1) := by decide +kernel
theorem dL_law_371 : decode cL_law 371 = .ok (.iload_n 3, 1) := by decide +kernel
theorem dL_law_372 : decode cL_law 372 = .ok (.iconst 2, 1) := by decide +kernel
theorem dL_law_373 : decode cL_law 373 = .ok (.iadd, 1) := by decide +kernel
theorem dL_law_374 : decode cL_law 374 = .ok (.iaload, 1) := by decide +kernel
theorem dL_law_375 : decode cL_law 375 = .ok (.aload_n 0, 1) := by decide +kernel
theorem dL_law_376 : decode cL_law 376 = .ok (.iload_n 3, 1) := by decide +kernel
theorem dL_law_377 : decode cL_law 377 = .ok (.iconst 3, 1) := by decide +kernel
theorem dL_law_378 : decode cL_law 378 = .ok (.iadd, 1) := by decide +kernel
theorem dL_law_379 : decode cL_law 379 = .ok (.iaload, 1) := by decide +kernel
theorem dL_law_380 : decode cL_law 380 = .ok (.invokevirtual 39, 3) := by decide +kernel
theorem dL_law_383 : decode cL_law 383 = .ok (.aload_n 2, 1) := by decide +kernel
theorem dL_law_384 : decode cL_law 384 = .ok (.aload_n 0, 1) := by decide +kernel
theorem dL_law_385 : decode cL_law 385 = .ok (.iload_n 3, 1) := by decide +kernel
theorem dL_law_386 : decode cL_law 386 = .ok (.iconst 1, 1) := by decide +kernel
theorem dL_law_387 : decode cL_law 387 = .ok (.iadd, 1) := by decide +kernel
theorem dL_law_388 : decode cL_law 388 = .ok (.iaload, 1) := by decide +kernel
theorem dL_law_389 : decode cL_law 389 = .ok (.aload_n 0, 1) := by decide +kernel
theorem dL_law_390 : decode cL_law 390 = .ok (.iload_n 3, 1) := by decide +kernel
theorem dL_law_391 : decode cL_law 391 = .ok (.iconst 2, 1) := by decide +kernel
theorem dL_law_392 : decode cL_law 392 = .ok (.iadd, 1) := by decide +kernel
theorem dL_law_393 : decode cL_law 393 = .ok (.iaload, 1) := by decide +kernel
theorem dL_law_394 : decode cL_law 394 = .ok (.aload_n 0, 1) := by decide +kernel
theorem dL_law_395 : decode cL_law 395 = .ok (.iload_n 3, 1) := by decide +kernel
theorem dL_law_396 : decode cL_law 396 = .ok (.iconst 3, 1) := by decide +kernel
theorem dL_law_397 : decode cL_law 397 = .ok (.iadd, 1) := by decide +kernel
theorem dL_law_398 : decode cL_law 398 = .ok (.iaload, 1) := by decide +kernel
theorem dL_law_399 : decode cL_law 399 = .ok (.invokevirtual 43, 3) := by decide +kernel
theorem dL_law_402 : decode cL_law 402 = .ok (.if_icmp .eq 897, 3) := by decide +kernel
theorem dL_law_405 : decode cL_law 405 = .ok (.iconst 0, 1) := by decide +kernel
theorem dL_law_406 : decode cL_law 406 = .ok (.ireturn, 1) := by decide +kernel
theorem dL_law_407 : decode cL_law 407 = .ok (.aload_n 1, 1) := by decide +kernel
theorem dL_law_408 : decode cL_law 408 = .ok (.invokevirtual 44, 3) := by decide +kernel
theorem dL_law_411 : decode cL_law 411 = .ok (.aload_n 2, 1) := by decide +kernel
theorem dL_law_412 : decode cL_law 412 = .ok (.invokevirtual 48, 3) := by decide +kernel
theorem dL_law_415 : decode cL_law 415 = .ok (.if_icmp .eq 884, 3) := by decide +kernel
theorem dL_law_418 : decode cL_law 418 = .ok (.iconst 0, 1) := by decide +kernel
theorem dL_law_419 : decode cL_law 419 = .ok (.ireturn, 1) := by decide +kernel
theorem dL_law_420 : decode cL_law 420 = .ok (.aload_n 1, 1) := by decide +kernel
theorem dL_law_421 : decode cL_law 421 = .ok (.aload_n 0, 1) := by decide +kernel
theorem dL_law_422 : decode cL_law 422 = .ok (.iload_n 3, 1) := by decide +kernel
theorem dL_law_423 : decode cL_law 423 = .ok (.iconst 1, 1) := by decide +kernel
theorem dL_law_424 : decode cL_law 424 = .ok (.iadd, 1) := by decide +kernel
theorem dL_law_425 : decode cL_law 425 = .ok (.iaload, 1) := by decide +kernel
theorem dL_law_426 : decode cL_law 426 = .ok (.invokevirtual 49, 3) := by decide +kernel
theorem dL_law_429 : decode cL_law 429 = .ok (.aload_n 2, 1) := by decide +kernel
theorem dL_law_430 : decode cL_law 430 = .ok (.aload_n 0, 1) := by decide +kernel
theorem dL_law_431 : decode cL_law 431 = .ok (.iload_n 3, 1) := by decide +kernel
theorem dL_law_432 : decode cL_law 432 = .ok (.iconst 1, 1) := by decide +kernel
theorem dL_law_433 : decode cL_law 433 = .ok (.iadd, 1) := by decide +kernel
theorem dL_law_434 : decode cL_law 434 = .ok (.iaload, 1) := by decide +kernel
theorem dL_law_435 : decode cL_law 435 = .ok (.invokevirtual 52, 3) := by decide +kernel
theorem dL_law_438 : decode cL_law 438 = .ok (.if_icmp .eq 861, 3) := by decide +kernel
theorem dL_law_441 : decode cL_law 441 = .ok (.iconst 0, 1) := by decide +kernel
theorem dL_law_442 : decode cL_law 442 = .ok (.ireturn, 1) := by decide +kernel
theorem dL_law_443 : decode cL_law 443 = .ok (.aload_n 1, 1) := by decide +kernel
theorem dL_law_444 : decode cL_law 444 = .ok (.aload_n 0, 1) := by decide +kernel
theorem dL_law_445 : decode cL_law 445 = .ok (.iload_n 3, 1) := by decide +kernel
theorem dL_law_446 : decode cL_law 446 = .ok (.iconst 1, 1) := by decide +kernel
theorem dL_law_447 : decode cL_law 447 = .ok (.iadd, 1) := by decide +kernel
theorem dL_law_448 : decode cL_law 448 = .ok (.iaload, 1) := by decide +kernel
theorem dL_law_449 : decode cL_law 449 = .ok (.aload_n 0, 1) := by decide +kernel
theorem dL_law_450 : decode cL_law 450 = .ok (.iload_n 3, 1) := by decide +kernel
theorem dL_law_451 : decode cL_law 451 = .ok (.iconst 2, 1) := by decide +kernel
theorem dL_law_452 : decode cL_law 452 = .ok (.iadd, 1) := by decide +kernel
theorem dL_law_453 : decode cL_law 453 = .ok (.iaload, 1) := by decide +kernel
theorem dL_law_454 : decode cL_law 454 = .ok (.aload_n 0, 1) := by decide +kernel
theorem dL_law_455 : decode cL_law 455 = .ok (.iload_n 3, 1) := by decide +kernel
theorem dL_law_456 : decode cL_law 456 = .ok (.iconst 3, 1) := by decide +kernel
theorem dL_law_457 : decode cL_law 457 = .ok (.iadd, 1) := by decide +kernel
theorem dL_law_458 : decode cL_law 458 = .ok (.iaload, 1) := by decide +kernel
theorem dL_law_459 : decode cL_law 459 = .ok (.invokevirtual 53, 3) := by decide +kernel
theorem dL_law_462 : decode cL_law 462 = .ok (.aload_n 2, 1) := by decide +kernel
theorem dL_law_463 : decode cL_law 463 = .ok (.aload_n 0, 1) := by decide +kernel
theorem dL_law_464 : decode cL_law 464 = .ok (.iload_n 3, 1) := by decide +kernel
theorem dL_law_465 : decode cL_law 465 = .ok (.iconst 1, 1) := by decide +kernel
theorem dL_law_466 : decode cL_law 466 = .ok (.iadd, 1) := by decide +kernel
theorem dL_law_467 : decode cL_law 467 = .ok (.iaload, 1) := by decide +kernel
theorem dL_law_468 : decode cL_law 468 = .ok (.aload_n 0, 1) := by decide +kernel
theorem dL_law_469 : decode cL_law 469 = .ok (.iload_n 3, 1) := by decide +kernel
theorem dL_law_470 : decode cL_law 470 = .ok (.iconst 2, 1) := by decide +kernel
theorem dL_law_471 : decode cL_law 471 = .ok (.iadd, 1) := by decide +kernel
theorem dL_law_472 : decode cL_law 472 = .ok (.iaload, 1) := by decide +kernel
theorem dL_law_473 : decode cL_law 473 = .ok (.aload_n 0, 1) := by decide +kernel
theorem dL_law_474 : decode cL_law 474 = .ok (.iload_n 3, 1) := by decide +kernel
theorem dL_law_475 : decode cL_law 475 = .ok (.iconst 3, 1) := by decide +kernel
theorem dL_law_476 : decode cL_law 476 = .ok (.iadd, 1) := by decide +kernel
theorem dL_law_477 : decode cL_law 477 = .ok (.iaload, 1) := by decide +kernel
theorem dL_law_478 : decode cL_law 478 = .ok (.invokevirtual 56, 3) := by decide +kernel
theorem dL_law_481 : decode cL_law 481 = .ok (.if_icmp .eq 818, 3) := by decide +kernel
theorem dL_law_484 : decode cL_law 484 = .ok (.iconst 0, 1) := by decide +kernel
theorem dL_law_485 : decode cL_law 485 = .ok (.ireturn, 1) := by decide +kernel
theorem dL_law_486 : decode cL_law 486 = .ok (.aload_n 1, 1) := by decide +kernel
theorem dL_law_487 : decode cL_law 487 = .ok (.aload_n 0, 1) := by decide +kernel
theorem dL_law_488 : decode cL_law 488 = .ok (.iload_n 3, 1) := by decide +kernel
theorem dL_law_489 : decode cL_law 489 = .ok (.iconst 1, 1) := by decide +kernel
theorem dL_law_490 : decode cL_law 490 = .ok (.iadd, 1) := by decide +kernel
theorem dL_law_491 : decode cL_law 491 = .ok (.iaload, 1) := by decide +kernel
theorem dL_law_492 : decode cL_law 492 = .ok (.aload_n 0, 1) := by decide +kernel
theorem dL_law_493 : decode cL_law 493 = .ok (.iload_n 3, 1) := by decide +kernel
theorem dL_law_494 : decode cL_law 494 = .ok (.iconst 2, 1) := by decide +kernel
theorem dL_law_495 : decode cL_law 495 = .ok (.iadd, 1) := by decide +kernel
theorem dL_law_496 : decode cL_law 496 = .ok (.iaload, 1) := by decide +kernel
theorem dL_law_497 : decode cL_law 497 = .ok (.aload_n 0, 1) := by decide +kernel
theorem dL_law_498 : decode cL_law 498 = .ok (.iload_n 3, 1) := by decide +kernel
theorem dL_law_499 : decode cL_law 499 = .ok (.iconst 3, 1) := by decide +kernel
theorem dL_law_500 : decode cL_law 500 = .ok (.iadd, 1) := by decide +kernel
theorem dL_law_501 : decode cL_law 501 = .ok (.iaload, 1) := by decide +kernel
theorem dL_law_502 : decode cL_law 502 = .ok (.invokevirtual 57, 3) := by decide +kernel
theorem dL_law_505 : decode cL_law 505 = .ok (.aload_n 2, 1) := by decide +kernel
theorem dL_law_506 : decode cL_law 506 = .ok (.aload_n 0, 1) := by decide +kernel
theorem dL_law_507 : decode cL_law 507 = .ok (.iload_n 3, 1) := by decide +kernel
theorem dL_law_508 : decode cL_law 508 = .ok (.iconst 1, 1) := by decide +kernel
theorem dL_law_509 : decode cL_law 509 = .ok (.iadd, 1) := by decide +kernel
theorem dL_law_510 : decode cL_law 510 = .ok (.iaload, 1) := by decide +kernel
theorem dL_law_511 : decode cL_law 511 = .ok (.aload_n 0, 1) := by decide +kernel
theorem dL_law_512 : decode cL_law 512 = .ok (.iload_n 3, 1) := by decide +kernel
theorem dL_law_513 : decode cL_law 513 = .ok (.iconst 2, 1) := by decide +kernel
theorem dL_law_514 : decode cL_law 514 = .ok (.iadd, 1) := by decide +kernel
theorem dL_law_515 : decode cL_law 515 = .ok (.iaload, 1) := by decide +kernel
theorem dL_law_516 : decode cL_law 516 = .ok (.aload_n 0, 1) := by decide +kernel
theorem dL_law_517 : decode cL_law 517 = .ok (.iload_n 3, 1) := by decide +kernel
theorem dL_law_518 : decode cL_law 518 = .ok (.iconst 3, 1) := by decide +kernel
theorem dL_law_519 : decode cL_law 519 = .ok (.iadd, 1) := by decide +kernel
theorem dL_law_520 : decode cL_law 520 = .ok (.iaload, 1) := by decide +kernel
theorem dL_law_521 : decode cL_law 521 = .ok (.invokevirtual 60, 3) := by decide +kernel
theorem dL_law_524 : decode cL_law 524 = .ok (.if_icmp .eq 775, 3) := by decide +kernel
theorem dL_law_527 : decode cL_law 527 = .ok (.iconst 0, 1) := by decide +kernel
theorem dL_law_528 : decode cL_law 528 = .ok (.ireturn, 1) := by decide +kernel
theorem dL_law_529 : decode cL_law 529 = .ok (.aload_n 1, 1) := by decide +kernel
theorem dL_law_530 : decode cL_law 530 = .ok (.aload_n 0, 1) := by decide +kernel
theorem dL_law_531 : decode cL_law 531 = .ok (.iload_n 3, 1) := by decide +kernel
theorem dL_law_532 : decode cL_law 532 = .ok (.iconst 1, 1) := by decide +kernel
theorem dL_law_533 : decode cL_law 533 = .ok (.iadd, 1) := by decide +kernel
theorem dL_law_534 : decode cL_law 534 = .ok (.iaload, 1) := by decide +kernel
theorem dL_law_535 : decode cL_law 535 = .ok (.aload_n 0, 1) := by decide +kernel
theorem dL_law_536 : decode cL_law 536 = .ok (.iload_n 3, 1) := by decide +kernel
theorem dL_law_537 : decode cL_law 537 = .ok (.iconst 2, 1) := by decide +kernel
theorem dL_law_538 : decode cL_law 538 = .ok (.iadd, 1) := by decide +kernel
theorem dL_law_539 : decode cL_law 539 = .ok (.iaload, 1) := by decide +kernel
theorem dL_law_540 : decode cL_law 540 = .ok (.invokevirtual 61, 3) := by decide +kernel
theorem dL_law_543 : decode cL_law 543 = .ok (.aload_n 2, 1) := by decide +kernel
theorem dL_law_544 : decode cL_law 544 = .ok (.aload_n 0, 1) := by decide +kernel
theorem dL_law_545 : decode cL_law 545 = .ok (.iload_n 3, 1) := by decide +kernel
theorem dL_law_546 : decode cL_law 546 = .ok (.iconst 1, 1) := by decide +kernel
theorem dL_law_547 : decode cL_law 547 = .ok (.iadd, 1) := by decide +kernel
theorem dL_law_548 : decode cL_law 548 = .ok (.iaload, 1) := by decide +kernel
theorem dL_law_549 : decode cL_law 549 = .ok (.aload_n 0, 1) := by decide +kernel
theorem dL_law_550 : decode cL_law 550 = .ok (.iload_n 3, 1) := by decide +kernel
theorem dL_law_551 : decode cL_law 551 = .ok (.iconst 2, 1) := by decide +kernel
theorem dL_law_552 : decode cL_law 552 = .ok (.iadd, 1) := by decide +kernel
theorem dL_law_553 : decode cL_law 553 = .ok (.iaload, 1) := by decide +kernel
theorem dL_law_554 : decode cL_law 554 = .ok (.invokevirtual 64, 3) := by decide +kernel
theorem dL_law_557 : decode cL_law 557 = .ok (.if_icmp .eq 742, 3) := by decide +kernel
theorem dL_law_560 : decode cL_law 560 = .ok (.iconst 0, 1) := by decide +kernel
theorem dL_law_561 : decode cL_law 561 = .ok (.ireturn, 1) := by decide +kernel
theorem dL_law_562 : decode cL_law 562 = .ok (.aload_n 1, 1) := by decide +kernel
theorem dL_law_563 : decode cL_law 563 = .ok (.aload_n 0, 1) := by decide +kernel
theorem dL_law_564 : decode cL_law 564 = .ok (.iload_n 3, 1) := by decide +kernel
theorem dL_law_565 : decode cL_law 565 = .ok (.iconst 1, 1) := by decide +kernel
theorem dL_law_566 : decode cL_law 566 = .ok (.iadd, 1) := by decide +kernel
theorem dL_law_567 : decode cL_law 567 = .ok (.iaload, 1) := by decide +kernel
theorem dL_law_568 : decode cL_law 568 = .ok (.invokevirtual 65, 3) := by decide +kernel
theorem dL_law_571 : decode cL_law 571 = .ok (.aload_n 2, 1) := by decide +kernel
theorem dL_law_572 : decode cL_law 572 = .ok (.aload_n 0, 1) := by decide +kernel
theorem dL_law_573 : decode cL_law 573 = .ok (.iload_n 3, 1) := by decide +kernel
theorem dL_law_574 : decode cL_law 574 = .ok (.iconst 1, 1) := by decide +kernel
theorem dL_law_575 : decode cL_law 575 = .ok (.iadd, 1) := by decide +kernel
theorem dL_law_576 : decode cL_law 576 = .ok (.iaload, 1) := by decide +kernel
theorem dL_law_577 : decode cL_law 577 = .ok (.invokevirtual 68, 3) := by decide +kernel
theorem dL_law_580 : decode cL_law 580 = .ok (.if_icmp .eq 719, 3) := by decide +kernel
theorem dL_law_583 : decode cL_law 583 = .ok (.iconst 0, 1) := by decide +kernel
theorem dL_law_584 : decode cL_law 584 = .ok (.ireturn, 1) := by decide +kernel
theorem dL_law_585 : decode cL_law 585 = .ok (.aload_n 1, 1) := by decide +kernel
theorem dL_law_586 : decode cL_law 586 = .ok (.aload_n 0, 1) := by decide +kernel
theorem dL_law_587 : decode cL_law 587 = .ok (.iload_n 3, 1) := by decide +kernel
theorem dL_law_588 : decode cL_law 588 = .ok (.iconst 1, 1) := by decide +kernel
theorem dL_law_589 : decode cL_law 589 = .ok (.iadd, 1) := by decide +kernel
theorem dL_law_590 : decode cL_law 590 = .ok (.iaload, 1) := by decide +kernel
theorem dL_law_591 : decode cL_law 591 = .ok (.invokevirtual 69, 3) := by decide +kernel
theorem dL_law_594 : decode cL_law 594 = .ok (.aload_n 2, 1) := by decide +kernel
theorem dL_law_595 : decode cL_law 595 = .ok (.aload_n 0, 1) := by decide +kernel
theorem dL_law_596 : decode cL_law 596 = .ok (.iload_n 3, 1) := by decide +kernel
theorem dL_law_597 : decode cL_law 597 = .ok (.iconst 1, 1) := by decide +kernel
theorem dL_law_598 : decode cL_law 598 = .ok (.iadd, 1) := by decide +kernel
theorem dL_law_599 : decode cL_law 599 = .ok (.iaload, 1) := by decide +kernel
theorem dL_law_600 : decode cL_law 600 = .ok (.invokevirtual 72, 3) := by decide +kernel
theorem dL_law_603 : decode cL_law 603 = .ok (.if_icmp .eq 696, 3) := by decide +kernel
theorem dL_law_606 : decode cL_law 606 = .ok (.iconst 0, 1) := by decide +kernel
theorem dL_law_607 : decode cL_law 607 = .ok (.ireturn, 1) := by decide +kernel
theorem dL_law_608 : decode cL_law 608 = .ok (.aload_n 1, 1) := by decide +kernel
theorem dL_law_609 : decode cL_law 609 = .ok (.invokevirtual 73, 3) := by decide +kernel
theorem dL_law_612 : decode cL_law 612 = .ok (.aload_n 2, 1) := by decide +kernel
theorem dL_law_613 : decode cL_law 613 = .ok (.invokevirtual 76, 3) := by decide +kernel
theorem dL_law_616 : decode cL_law 616 = .ok (.if_icmp .eq 683, 3) := by decide +kernel
theorem dL_law_619 : decode cL_law 619 = .ok (.iconst 0, 1) := by decide +kernel
theorem dL_law_620 : decode cL_law 620 = .ok (.ireturn, 1) := by decide +kernel
theorem dL_law_621 : decode cL_law 621 = .ok (.aload_n 1, 1) := by decide +kernel
theorem dL_law_622 : decode cL_law 622 = .ok (.aload_n 0, 1) := by decide +kernel
theorem dL_law_623 : decode cL_law 623 = .ok (.iload_n 3, 1) := by decide +kernel
theorem dL_law_624 : decode cL_law 624 = .ok (.iconst 1, 1) := by decide +kernel
theorem dL_law_625 : decode cL_law 625 = .ok (.iadd, 1) := by decide +kernel
theorem dL_law_626 : decode cL_law 626 = .ok (.iaload, 1) := by decide +kernel
theorem dL_law_627 : decode cL_law 627 = .ok (.invokevirtual 77, 3) := by decide +kernel
theorem dL_law_630 : decode cL_law 630 = .ok (.aload_n 2, 1) := by decide +kernel
theorem dL_law_631 : decode cL_law 631 = .ok (.aload_n 0, 1) := by decide +kernel
theorem dL_law_632 : decode cL_law 632 = .ok (.iload_n 3, 1) := by decide +kernel
theorem dL_law_633 : decode cL_law 633 = .ok (.iconst 1, 1) := by decide +kernel
theorem dL_law_634 : decode cL_law 634 = .ok (.iadd, 1) := by decide +kernel
theorem dL_law_635 : decode cL_law 635 = .ok (.iaload, 1) := by decide +kernel
theorem dL_law_636 : decode cL_law 636 = .ok (.invokevirtual 80, 3) := by decide +kernel
theorem dL_law_639 : decode cL_law 639 = .ok (.if_icmp .eq 660, 3) := by decide +kernel
theorem dL_law_642 : decode cL_law 642 = .ok (.iconst 0, 1) := by decide +kernel
theorem dL_law_643 : decode cL_law 643 = .ok (.ireturn, 1) := by decide +kernel
theorem dL_law_644 : decode cL_law 644 = .ok (.aload_n 1, 1) := by decide +kernel
theorem dL_law_645 : decode cL_law 645 = .ok (.invokevirtual 81, 3) := by decide +kernel
theorem dL_law_648 : decode cL_law 648 = .ok (.aload_n 2, 1) := by decide +kernel
theorem dL_law_649 : decode cL_law 649 = .ok (.invokevirtual 84, 3) := by decide +kernel
theorem dL_law_652 : decode cL_law 652 = .ok (.if_icmp .eq 647, 3) := by decide +kernel
theorem dL_law_655 : decode cL_law 655 = .ok (.iconst 0, 1) := by decide +kernel
theorem dL_law_656 : decode cL_law 656 = .ok (.ireturn, 1) := by decide +kernel
theorem dL_law_657 : decode cL_law 657 = .ok (.aload_n 1, 1) := by decide +kernel
theorem dL_law_658 : decode cL_law 658 = .ok (.invokevirtual 85, 3) := by decide +kernel
theorem dL_law_661 : decode cL_law 661 = .ok (.aload_n 2, 1) := by decide +kernel
theorem dL_law_662 : decode cL_law 662 = .ok (.invokevirtual 88, 3) := by decide +kernel
theorem dL_law_665 : decode cL_law 665 = .ok (.if_icmp .eq 634, 3) := by decide +kernel
theorem dL_law_668 : decode cL_law 668 = .ok (.iconst 0, 1) := by decide +kernel
theorem dL_law_669 : decode cL_law 669 = .ok (.ireturn, 1) := by decide +kernel
theorem dL_law_670 : decode cL_law 670 = .ok (.aload_n 1, 1) := by decide +kernel
theorem dL_law_671 : decode cL_law 671 = .ok (.aload_n 0, 1) := by decide +kernel
theorem dL_law_672 : decode cL_law 672 = .ok (.iload_n 3, 1) := by decide +kernel
theorem dL_law_673 : decode cL_law 673 = .ok (.iconst 1, 1) := by decide +kernel
theorem dL_law_674 : decode cL_law 674 = .ok (.iadd, 1) := by decide +kernel
theorem dL_law_675 : decode cL_law 675 = .ok (.iaload, 1) := by decide +kernel
theorem dL_law_676 : decode cL_law 676 = .ok (.aload_n 0, 1) := by decide +kernel
theorem dL_law_677 : decode cL_law 677 = .ok (.iload_n 3, 1) := by decide +kernel
theorem dL_law_678 : decode cL_law 678 = .ok (.iconst 2, 1) := by decide +kernel
theorem dL_law_679 : decode cL_law 679 = .ok (.iadd, 1) := by decide +kernel
theorem dL_law_680 : decode cL_law 680 = .ok (.iaload, 1) := by decide +kernel
theorem dL_law_681 : decode cL_law 681 = .ok (.invokevirtual 89, 3) := by decide +kernel
theorem dL_law_684 : decode cL_law 684 = .ok (.aload_n 2, 1) := by decide +kernel
theorem dL_law_685 : decode cL_law 685 = .ok (.aload_n 0, 1) := by decide +kernel
theorem dL_law_686 : decode cL_law 686 = .ok (.iload_n 3, 1) := by decide +kernel
theorem dL_law_687 : decode cL_law 687 = .ok (.iconst 1, 1) := by decide +kernel
theorem dL_law_688 : decode cL_law 688 = .ok (.iadd, 1) := by decide +kernel
theorem dL_law_689 : decode cL_law 689 = .ok (.iaload, 1) := by decide +kernel
theorem dL_law_690 : decode cL_law 690 = .ok (.aload_n 0, 1) := by decide +kernel
theorem dL_law_691 : decode cL_law 691 = .ok (.iload_n 3, 1) := by decide +kernel
theorem dL_law_692 : decode cL_law 692 = .ok (.iconst 2, 1) := by decide +kernel
theorem dL_law_693 : decode cL_law 693 = .ok (.iadd, 1) := by decide +kernel
theorem dL_law_694 : decode cL_law 694 = .ok (.iaload, 1) := by decide +kernel
theorem dL_law_695 : decode cL_law 695 = .ok (.invokevirtual 92, 3) := by decide +kernel
theorem dL_law_698 : decode cL_law 698 = .ok (.if_icmp .eq 601, 3) := by decide +kernel
theorem dL_law_701 : decode cL_law 701 = .ok (.iconst 0, 1) := by decide +kernel
theorem dL_law_702 : decode cL_law 702 = .ok (.ireturn, 1) := by decide +kernel
theorem dL_law_703 : decode cL_law 703 = .ok (.aload_n 1, 1) := by decide +kernel
theorem dL_law_704 : decode cL_law 704 = .ok (.aload_n 0, 1) := by decide +kernel
theorem dL_law_705 : decode cL_law 705 = .ok (.iload_n 3, 1) := by decide +kernel
theorem dL_law_706 : decode cL_law 706 = .ok (.iconst 1, 1) := by decide +kernel
theorem dL_law_707 : decode cL_law 707 = .ok (.iadd, 1) := by decide +kernel
theorem dL_law_708 : decode cL_law 708 = .ok (.iaload, 1) := by decide +kernel
theorem dL_law_709 : decode cL_law 709 = .ok (.aload_n 0, 1) := by decide +kernel
theorem dL_law_710 : decode cL_law 710 = .ok (.iload_n 3, 1) := by decide +kernel
theorem dL_law_711 : decode cL_law 711 = .ok (.iconst 2, 1) := by decide +kernel
theorem dL_law_712 : decode cL_law 712 = .ok (.iadd, 1) := by decide +kernel
theorem dL_law_713 : decode cL_law 713 = .ok (.iaload, 1) := by decide +kernel
theorem dL_law_714 : decode cL_law 714 = .ok (.invokevirtual 93, 3) := by decide +kernel
theorem dL_law_717 : decode cL_law 717 = .ok (.aload_n 2, 1) := by decide +kernel
theorem dL_law_718 : decode cL_law 718 = .ok (.aload_n 0, 1) := by decide +kernel
theorem dL_law_719 : decode cL_law 719 = .ok (.iload_n 3, 1) := by decide +kernel
theorem dL_law_720 : decode cL_law 720 = .ok (.iconst 1, 1) := by decide +kernel
theorem dL_law_721 : decode cL_law 721 = .ok (.iadd, 1) := by decide +kernel
theorem dL_law_722 : decode cL_law 722 = .ok (.iaload, 1) := by decide +kernel
theorem dL_law_723 : decode cL_law 723 = .ok (.aload_n 0, 1) := by decide +kernel
theorem dL_law_724 : decode cL_law 724 = .ok (.iload_n 3, 1) := by decide +kernel
theorem dL_law_725 : decode cL_law 725 = .ok (.iconst 2, 1) := by decide +kernel
theorem dL_law_726 : decode cL_law 726 = .ok (.iadd, 1) := by decide +kernel
theorem dL_law_727 : decode cL_law 727 = .ok (.iaload, 1) := by decide +kernel
theorem dL_law_728 : decode cL_law 728 = .ok (.invokevirtual 96, 3) := by decide +kernel
theorem dL_law_731 : decode cL_law 731 = .ok (.if_icmp .eq 568, 3) := by decide +kernel
theorem dL_law_734 : decode cL_law 734 = .ok (.iconst 0, 1) := by decide +kernel
theorem dL_law_735 : decode cL_law 735 = .ok (.ireturn, 1) := by decide +kernel
theorem dL_law_736 : decode cL_law 736 = .ok (.aload_n 1, 1) := by decide +kernel
theorem dL_law_737 : decode cL_law 737 = .ok (.aload_n 0, 1) := by decide +kernel
theorem dL_law_738 : decode cL_law 738 = .ok (.iload_n 3, 1) := by decide +kernel
theorem dL_law_739 : decode cL_law 739 = .ok (.iconst 1, 1) := by decide +kernel
theorem dL_law_740 : decode cL_law 740 = .ok (.iadd, 1) := by decide +kernel
theorem dL_law_741 : decode cL_law 741 = .ok (.iaload, 1) := by decide +kernel
theorem dL_law_742 : decode cL_law 742 = .ok (.aload_n 0, 1) := by decide +kernel
theorem dL_law_743 : decode cL_law 743 = .ok (.iload_n 3, 1) := by decide +kernel
theorem dL_law_744 : decode cL_law 744 = .ok (.iconst 2, 1) := by decide +kernel
theorem dL_law_745 : decode cL_law 745 = .ok (.iadd, 1) := by decide +kernel
theorem dL_law_746 : decode cL_law 746 = .ok (.iaload, 1) := by decide +kernel
theorem dL_law_747 : decode cL_law 747 = .ok (.invokevirtual 97, 3) := by decide +kernel
theorem dL_law_750 : decode cL_law 750 = .ok (.aload_n 2, 1) := by decide +kernel
theorem dL_law_751 : decode cL_law 751 = .ok (.aload_n 0, 1) := by decide +kernel
theorem dL_law_752 : decode cL_law 752 = .ok (.iload_n 3, 1) := by decide +kernel
theorem dL_law_753 : decode cL_law 753 = .ok (.iconst 1, 1) := by decide +kernel
theorem dL_law_754 : decode cL_law 754 = .ok (.iadd, 1) := by decide +kernel
theorem dL_law_755 : decode cL_law 755 = .ok (.iaload, 1) := by decide +kernel
theorem dL_law_756 : decode cL_law 756 = .ok (.aload_n 0, 1) := by decide +kernel
theorem dL_law_757 : decode cL_law 757 = .ok (.iload_n 3, 1) := by decide +kernel
theorem dL_law_758 : decode cL_law 758 = .ok (.iconst 2, 1) := by decide +kernel
theorem dL_law_759 : decode cL_law 759 = .ok (.iadd, 1) := by decide +kernel
theorem dL_law_760 : decode cL_law 760 = .ok (.iaload, 1) := by decide +kernel
theorem dL_law_761 : decode cL_law 761 = .ok (.invokevirtual 100, 3) := by decide +kernel
theorem dL_law_764 : decode cL_law 764 = .ok (.if_icmp .eq 535, 3) := by decide +kernel
theorem dL_law_767 : decode cL_law 767 = .ok (.iconst 0, 1) := by decide +kernel
theorem dL_law_768 : decode cL_law 768 = .ok (.ireturn, 1) := by decide +kernel
theorem dL_law_769 : decode cL_law 769 = .ok (.aload_n 1, 1) := by decide +kernel
theorem dL_law_770 : decode cL_law 770 = .ok (.aload_n 0, 1) := by decide +kernel
theorem dL_law_771 : decode cL_law 771 = .ok (.iload_n 3, 1) := by decide +kernel
theorem dL_law_772 : decode cL_law 772 = .ok (.iconst 1, 1) := by decide +kernel
theorem dL_law_773 : decode cL_law 773 = .ok (.iadd, 1) := by decide +kernel
theorem dL_law_774 : decode cL_law 774 = .ok (.iaload, 1) := by decide +kernel
theorem dL_law_775 : decode cL_law 775 = .ok (.invokevirtual 101, 3) := by decide +kernel
theorem dL_law_778 : decode cL_law 778 = .ok (.aload_n 2, 1) := by decide +kernel
theorem dL_law_779 : decode cL_law 779 = .ok (.aload_n 0, 1) := by decide +kernel
theorem dL_law_780 : decode cL_law 780 = .ok (.iload_n 3, 1) := by decide +kernel
theorem dL_law_781 : decode cL_law 781 = .ok (.iconst 1, 1) := by decide +kernel
theorem dL_law_782 : decode cL_law 782 = .ok (.iadd, 1) := by decide +kernel
theorem dL_law_783 : decode cL_law 783 = .ok (.iaload, 1) := by decide +kernel
theorem dL_law_784 : decode cL_law 784 = .ok (.invokevirtual 104, 3) := by decide +kernel
theorem dL_law_787 : decode cL_law 787 = .ok (.if_icmp .eq 512, 3) := by decide +kernel
theorem dL_law_790 : decode cL_law 790 = .ok (.iconst 0, 1) := by decide +kernel
theorem dL_law_791 : decode cL_law 791 = .ok (.ireturn, 1) := by decide +kernel
theorem dL_law_792 : decode cL_law 792 = .ok (.aload_n 1, 1) := by decide +kernel
theorem dL_law_793 : decode cL_law 793 = .ok (.aload_n 0, 1) := by decide +kernel
theorem dL_law_794 : decode cL_law 794 = .ok (.iload_n 3, 1) := by decide +kernel
theorem dL_law_795 : decode cL_law 795 = .ok (.iconst 1, 1) := by decide +kernel
theorem dL_law_796 : decode cL_law 796 = .ok (.iadd, 1) := by decide +kernel
theorem dL_law_797 : decode cL_law 797 = .ok (.iaload, 1) := by decide +kernel
theorem dL_law_798 : decode cL_law 798 = .ok (.aload_n 0, 1) := by decide +kernel
theorem dL_law_799 : decode cL_law 799 = .ok (.iload_n 3, 1) := by decide +kernel
theorem dL_law_800 : decode cL_law 800 = .ok (.iconst 2, 1) := by decide +kernel
theorem dL_law_801 : decode cL_law 801 = .ok (.iadd, 1) := by decide +kernel
theorem dL_law_802 : decode cL_law 802 = .ok (.iaload, 1) := by decide +kernel
theorem dL_law_803 : decode cL_law 803 = .ok (.aload_n 0, 1) := by decide +kernel
theorem dL_law_804 : decode cL_law 804 = .ok (.iload_n 3, 1) := by decide +kernel
theorem dL_law_805 : decode cL_law 805 = .ok (.iconst 3, 1) := by decide +kernel
theorem dL_law_806 : decode cL_law 806 = .ok (.iadd, 1) := by decide +kernel
theorem dL_law_807 : decode cL_law 807 = .ok (.iaload, 1) := by decide +kernel
theorem dL_law_808 : decode cL_law 808 = .ok (.invokevirtual 105, 3) := by decide +kernel
theorem dL_law_811 : decode cL_law 811 = .ok (.aload_n 2, 1) := by decide +kernel
theorem dL_law_812 : decode cL_law 812 = .ok (.aload_n 0, 1) := by decide +kernel
theorem dL_law_813 : decode cL_law 813 = .ok (.iload_n 3, 1) := by decide +kernel
theorem dL_law_814 : decode cL_law 814 = .ok (.iconst 1, 1) := by decide +kernel
theorem dL_law_815 : decode cL_law 815 = .ok (.iadd, 1) := by decide +kernel
theorem dL_law_816 : decode cL_law 816 = .ok (.iaload, 1) := by decide +kernel
theorem dL_law_817 : decode cL_law 817 = .ok (.aload_n 0, 1) := by decide +kernel
theorem dL_law_818 : decode cL_law 818 = .ok (.iload_n 3, 1) := by decide +kernel
theorem dL_law_819 : decode cL_law 819 = .ok (.iconst 2, 1) := by decide +kernel
theorem dL_law_820 : decode cL_law 820 = .ok (.iadd, 1) := by decide +kernel
theorem dL_law_821 : decode cL_law 821 = .ok (.iaload, 1) := by decide +kernel
theorem dL_law_822 : decode cL_law 822 = .ok (.aload_n 0, 1) := by decide +kernel
theorem dL_law_823 : decode cL_law 823 = .ok (.iload_n 3, 1) := by decide +kernel
theorem dL_law_824 : decode cL_law 824 = .ok (.iconst 3, 1) := by decide +kernel
theorem dL_law_825 : decode cL_law 825 = .ok (.iadd, 1) := by decide +kernel
theorem dL_law_826 : decode cL_law 826 = .ok (.iaload, 1) := by decide +kernel
theorem dL_law_827 : decode cL_law 827 = .ok (.invokevirtual 108, 3) := by decide +kernel
theorem dL_law_830 : decode cL_law 830 = .ok (.if_icmp .eq 469, 3) := by decide +kernel
theorem dL_law_833 : decode cL_law 833 = .ok (.iconst 0, 1) := by decide +kernel
theorem dL_law_834 : decode cL_law 834 = .ok (.ireturn, 1) := by decide +kernel
theorem dL_law_835 : decode cL_law 835 = .ok (.aload_n 1, 1) := by decide +kernel
theorem dL_law_836 : decode cL_law 836 = .ok (.invokevirtual 109, 3) := by decide +kernel
theorem dL_law_839 : decode cL_law 839 = .ok (.aload_n 2, 1) := by decide +kernel
theorem dL_law_840 : decode cL_law 840 = .ok (.invokevirtual 112, 3) := by decide +kernel
theorem dL_law_843 : decode cL_law 843 = .ok (.if_icmp .eq 456, 3) := by decide +kernel
theorem dL_law_846 : decode cL_law 846 = .ok (.iconst 0, 1) := by decide +kernel
theorem dL_law_847 : decode cL_law 847 = .ok (.ireturn, 1) := by decide +kernel
theorem dL_law_848 : decode cL_law 848 = .ok (.aload_n 1, 1) := by decide +kernel
theorem dL_law_849 : decode cL_law 849 = .ok (.invokevirtual 113, 3) := by decide +kernel
theorem dL_law_852 : decode cL_law 852 = .ok (.aload_n 2, 1) := by decide +kernel
theorem dL_law_853 : decode cL_law 853 = .ok (.invokevirtual 116, 3) := by decide +kernel
theorem dL_law_856 : decode cL_law 856 = .ok (.if_icmp .eq 443, 3) := by decide +kernel
theorem dL_law_859 : decode cL_law 859 = .ok (.iconst 0, 1) := by decide +kernel
theorem dL_law_860 : decode cL_law 860 = .ok (.ireturn, 1) := by decide +kernel
theorem dL_law_861 : decode cL_law 861 = .ok (.aload_n 1, 1) := by decide +kernel
theorem dL_law_862 : decode cL_law 862 = .ok (.aload_n 0, 1) := by decide +kernel
theorem dL_law_863 : decode cL_law 863 = .ok (.iload_n 3, 1) := by decide +kernel
theorem dL_law_864 : decode cL_law 864 = .ok (.iconst 1, 1) := by decide +kernel
theorem dL_law_865 : decode cL_law 865 = .ok (.iadd, 1) := by decide +kernel
theorem dL_law_866 : decode cL_law 866 = .ok (.iaload, 1) := by decide +kernel
theorem dL_law_867 : decode cL_law 867 = .ok (.aload_n 0, 1) := by decide +kernel
theorem dL_law_868 : decode cL_law 868 = .ok (.iload_n 3, 1) := by decide +kernel
theorem dL_law_869 : decode cL_law 869 = .ok (.iconst 2, 1) := by decide +kernel
theorem dL_law_870 : decode cL_law 870 = .ok (.iadd, 1) := by decide +kernel
theorem dL_law_871 : decode cL_law 871 = .ok (.iaload, 1) := by decide +kernel
theorem dL_law_872 : decode cL_law 872 = .ok (.invokevirtual 117, 3) := by decide +kernel
theorem dL_law_875 : decode cL_law 875 = .ok (.aload_n 2, 1) := by decide +kernel
theorem dL_law_876 : decode cL_law 876 = .ok (.aload_n 0, 1) := by decide +kernel
theorem dL_law_877 : decode cL_law 877 = .ok (.iload_n 3, 1) := by decide +kernel
theorem dL_law_878 : decode cL_law 878 = .ok (.iconst 1, 1) := by decide +kernel
theorem dL_law_879 : decode cL_law 879 = .ok (.iadd, 1) := by decide +kernel
theorem dL_law_880 : decode cL_law 880 = .ok (.iaload, 1) := by decide +kernel
theorem dL_law_881 : decode cL_law 881 = .ok (.aload_n 0, 1) := by decide +kernel
theorem dL_law_882 : decode cL_law 882 = .ok (.iload_n 3, 1) := by decide +kernel
theorem dL_law_883 : decode cL_law 883 = .ok (.iconst 2, 1) := by decide +kernel
theorem dL_law_884 : decode cL_law 884 = .ok (.iadd, 1) := by decide +kernel
theorem dL_law_885 : decode cL_law 885 = .ok (.iaload, 1) := by decide +kernel
theorem dL_law_886 : decode cL_law 886 = .ok (.invokevirtual 120, 3) := by decide +kernel
theorem dL_law_889 : decode cL_law 889 = .ok (.if_icmp .eq 410, 3) := by decide +kernel
theorem dL_law_892 : decode cL_law 892 = .ok (.iconst 0, 1) := by decide +kernel
theorem dL_law_893 : decode cL_law 893 = .ok (.ireturn, 1) := by decide +kernel
theorem dL_law_894 : decode cL_law 894 = .ok (.aload_n 1, 1) := by decide +kernel
theorem dL_law_895 : decode cL_law 895 = .ok (.aload_n 0, 1) := by decide +kernel
theorem dL_law_896 : decode cL_law 896 = .ok (.iload_n 3, 1) := by decide +kernel
theorem dL_law_897 : decode cL_law 897 = .ok (.iconst 1, 1) := by decide +kernel
theorem dL_law_898 : decode cL_law 898 = .ok (.iadd, 1) := by decide +kernel
theorem dL_law_899 : decode cL_law 899 = .ok (.iaload, 1) := by decide +kernel
theorem dL_law_900 : decode cL_law 900 = .ok (.invokevirtual 121, 3) := by decide +kernel
theorem dL_law_903 : decode cL_law 903 = .ok (.aload_n 2, 1) := by decide +kernel
theorem dL_law_904 : decode cL_law 904 = .ok (.aload_n 0, 1) := by decide +kernel
theorem dL_law_905 : decode cL_law 905 = .ok (.iload_n 3, 1) := by decide +kernel
theorem dL_law_906 : decode cL_law 906 = .ok (.iconst 1, 1) := by decide +kernel
theorem dL_law_907 : decode cL_law 907 = .ok (.iadd, 1) := by decide +kernel
theorem dL_law_908 : decode cL_law 908 = .ok (.iaload, 1) := by decide +kernel
theorem dL_law_909 : decode cL_law 909 = .ok (.invokevirtual 124, 3) := by decide +kernel
theorem dL_law_912 : decode cL_law 912 = .ok (.if_icmp .eq 387, 3) := by decide +kernel
theorem dL_law_915 : decode cL_law 915 = .ok (.iconst 0, 1) := by decide +kernel
theorem dL_law_916 : decode cL_law 916 = .ok (.ireturn, 1) := by decide +kernel
theorem dL_law_917 : decode cL_law 917 = .ok (.aload_n 1, 1) := by decide +kernel
theorem dL_law_918 : decode cL_law 918 = .ok (.aload_n 0, 1) := by decide +kernel
theorem dL_law_919 : decode cL_law 919 = .ok (.iload_n 3, 1) := by decide +kernel
theorem dL_law_920 : decode cL_law 920 = .ok (.iconst 1, 1) := by decide +kernel
theorem dL_law_921 : decode cL_law 921 = .ok (.iadd, 1) := by decide +kernel
theorem dL_law_922 : decode cL_law 922 = .ok (.iaload, 1) := by decide +kernel
theorem dL_law_923 : decode cL_law 923 = .ok (.aload_n 0, 1) := by decide +kernel
theorem dL_law_924 : decode cL_law 924 = .ok (.iload_n 3, 1) := by decide +kernel
theorem dL_law_925 : decode cL_law 925 = .ok (.iconst 2, 1) := by decide +kernel
theorem dL_law_926 : decode cL_law 926 = .ok (.iadd, 1) := by decide +kernel
theorem dL_law_927 : decode cL_law 927 = .ok (.iaload, 1) := by decide +kernel
theorem dL_law_928 : decode cL_law 928 = .ok (.aload_n 0, 1) := by decide +kernel
theorem dL_law_929 : decode cL_law 929 = .ok (.iload_n 3, 1) := by decide +kernel
theorem dL_law_930 : decode cL_law 930 = .ok (.iconst 3, 1) := by decide +kernel
theorem dL_law_931 : decode cL_law 931 = .ok (.iadd, 1) := by decide +kernel
theorem dL_law_932 : decode cL_law 932 = .ok (.iaload, 1) := by decide +kernel
theorem dL_law_933 : decode cL_law 933 = .ok (.invokevirtual 125, 3) := by decide +kernel
theorem dL_law_936 : decode cL_law 936 = .ok (.aload_n 2, 1) := by decide +kernel
theorem dL_law_937 : decode cL_law 937 = .ok (.aload_n 0, 1) := by decide +kernel
theorem dL_law_938 : decode cL_law 938 = .ok (.iload_n 3, 1) := by decide +kernel
theorem dL_law_939 : decode cL_law 939 = .ok (.iconst 1, 1) := by decide +kernel
theorem dL_law_940 : decode cL_law 940 = .ok (.iadd, 1) := by decide +kernel
theorem dL_law_941 : decode cL_law 941 = .ok (.iaload, 1) := by decide +kernel
theorem dL_law_942 : decode cL_law 942 = .ok (.aload_n 0, 1) := by decide +kernel
theorem dL_law_943 : decode cL_law 943 = .ok (.iload_n 3, 1) := by decide +kernel
theorem dL_law_944 : decode cL_law 944 = .ok (.iconst 2, 1) := by decide +kernel
theorem dL_law_945 : decode cL_law 945 = .ok (.iadd, 1) := by decide +kernel
theorem dL_law_946 : decode cL_law 946 = .ok (.iaload, 1) := by decide +kernel
theorem dL_law_947 : decode cL_law 947 = .ok (.aload_n 0, 1) := by decide +kernel
theorem dL_law_948 : decode cL_law 948 = .ok (.iload_n 3, 1) := by decide +kernel
theorem dL_law_949 : decode cL_law 949 = .ok (.iconst 3, 1) := by decide +kernel
theorem dL_law_950 : decode cL_law 950 = .ok (.iadd, 1) := by decide +kernel
theorem dL_law_951 : decode cL_law 951 = .ok (.iaload, 1) := by decide +kernel
theorem dL_law_952 : decode cL_law 952 = .ok (.invokevirtual 129, 3) := by decide +kernel
theorem dL_law_955 : decode cL_law 955 = .ok (.lcmp, 1) := by decide +kernel
theorem dL_law_956 : decode cL_law 956 = .ok (.ifCond .eq 343, 3) := by decide +kernel
theorem dL_law_959 : decode cL_law 959 = .ok (.iconst 0, 1) := by decide +kernel
theorem dL_law_960 : decode cL_law 960 = .ok (.ireturn, 1) := by decide +kernel
theorem dL_law_961 : decode cL_law 961 = .ok (.aload_n 1, 1) := by decide +kernel
theorem dL_law_962 : decode cL_law 962 = .ok (.aload_n 0, 1) := by decide +kernel
theorem dL_law_963 : decode cL_law 963 = .ok (.iload_n 3, 1) := by decide +kernel
theorem dL_law_964 : decode cL_law 964 = .ok (.iconst 1, 1) := by decide +kernel
theorem dL_law_965 : decode cL_law 965 = .ok (.iadd, 1) := by decide +kernel
theorem dL_law_966 : decode cL_law 966 = .ok (.iaload, 1) := by decide +kernel
theorem dL_law_967 : decode cL_law 967 = .ok (.aload_n 0, 1) := by decide +kernel
theorem dL_law_968 : decode cL_law 968 = .ok (.iload_n 3, 1) := by decide +kernel
theorem dL_law_969 : decode cL_law 969 = .ok (.iconst 2, 1) := by decide +kernel
theorem dL_law_970 : decode cL_law 970 = .ok (.iadd, 1) := by decide +kernel
theorem dL_law_971 : decode cL_law 971 = .ok (.iaload, 1) := by decide +kernel
theorem dL_law_972 : decode cL_law 972 = .ok (.aload_n 0, 1) := by decide +kernel
theorem dL_law_973 : decode cL_law 973 = .ok (.iload_n 3, 1) := by decide +kernel
theorem dL_law_974 : decode cL_law 974 = .ok (.iconst 3, 1) := by decide +kernel
theorem dL_law_975 : decode cL_law 975 = .ok (.iadd, 1) := by decide +kernel
theorem dL_law_976 : decode cL_law 976 = .ok (.iaload, 1) := by decide +kernel
theorem dL_law_977 : decode cL_law 977 = .ok (.invokevirtual 130, 3) := by decide +kernel
theorem dL_law_980 : decode cL_law 980 = .ok (.aload_n 2, 1) := by decide +kernel
theorem dL_law_981 : decode cL_law 981 = .ok (.aload_n 0, 1) := by decide +kernel
theorem dL_law_982 : decode cL_law 982 = .ok (.iload_n 3, 1) := by decide +kernel
theorem dL_law_983 : decode cL_law 983 = .ok (.iconst 1, 1) := by decide +kernel
theorem dL_law_984 : decode cL_law 984 = .ok (.iadd, 1) := by decide +kernel
theorem dL_law_985 : decode cL_law 985 = .ok (.iaload, 1) := by decide +kernel
theorem dL_law_986 : decode cL_law 986 = .ok (.aload_n 0, 1) := by decide +kernel
theorem dL_law_987 : decode cL_law 987 = .ok (.iload_n 3, 1) := by decide +kernel
theorem dL_law_988 : decode cL_law 988 = .ok (.iconst 2, 1) := by decide +kernel
theorem dL_law_989 : decode cL_law 989 = .ok (.iadd, 1) := by decide +kernel
theorem dL_law_990 : decode cL_law 990 = .ok (.iaload, 1) := by decide +kernel
theorem dL_law_991 : decode cL_law 991 = .ok (.aload_n 0, 1) := by decide +kernel
theorem dL_law_992 : decode cL_law 992 = .ok (.iload_n 3, 1) := by decide +kernel
theorem dL_law_993 : decode cL_law 993 = .ok (.iconst 3, 1) := by decide +kernel
theorem dL_law_994 : decode cL_law 994 = .ok (.iadd, 1) := by decide +kernel
theorem dL_law_995 : decode cL_law 995 = .ok (.iaload, 1) := by decide +kernel
theorem dL_law_996 : decode cL_law 996 = .ok (.invokevirtual 133, 3) := by decide +kernel
theorem dL_law_999 : decode cL_law 999 = .ok (.if_icmp .eq 300, 3) := by decide +kernel
theorem dL_law_1002 : decode cL_law 1002 = .ok (.iconst 0, 1) := by decide +kernel
theorem dL_law_1003 : decode cL_law 1003 = .ok (.ireturn, 1) := by decide +kernel
theorem dL_law_1004 : decode cL_law 1004 = .ok (.aload_n 1, 1) := by decide +kernel
theorem dL_law_1005 : decode cL_law 1005 = .ok (.aload_n 0, 1) := by decide +kernel
theorem dL_law_1006 : decode cL_law 1006 = .ok (.iload_n 3, 1) := by decide +kernel
theorem dL_law_1007 : decode cL_law 1007 = .ok (.iconst 1, 1) := by decide +kernel
theorem dL_law_1008 : decode cL_law 1008 = .ok (.iadd, 1) := by decide +kernel
theorem dL_law_1009 : decode cL_law 1009 = .ok (.iaload, 1) := by decide +kernel
theorem dL_law_1010 : decode cL_law 1010 = .ok (.aload_n 0, 1) := by decide +kernel
theorem dL_law_1011 : decode cL_law 1011 = .ok (.iload_n 3, 1) := by decide +kernel
theorem dL_law_1012 : decode cL_law 1012 = .ok (.iconst 2, 1) := by decide +kernel
theorem dL_law_1013 : decode cL_law 1013 = .ok (.iadd, 1) := by decide +kernel
theorem dL_law_1014 : decode cL_law 1014 = .ok (.iaload, 1) := by decide +kernel
theorem dL_law_1015 : decode cL_law 1015 = .ok (.aload_n 0, 1) := by decide +kernel
theorem dL_law_1016 : decode cL_law 1016 = .ok (.iload_n 3, 1) := by decide +kernel
theorem dL_law_1017 : decode cL_law 1017 = .ok (.iconst 3, 1) := by decide +kernel
theorem dL_law_1018 : decode cL_law 1018 = .ok (.iadd, 1) := by decide +kernel
theorem dL_law_1019 : decode cL_law 1019 = .ok (.iaload, 1) := by decide +kernel
theorem dL_law_1020 : decode cL_law 1020 = .ok (.invokevirtual 134, 3) := by decide +kernel
theorem dL_law_1023 : decode cL_law 1023 = .ok (.aload_n 2, 1) := by decide +kernel
theorem dL_law_1024 : decode cL_law 1024 = .ok (.aload_n 0, 1) := by decide +kernel
theorem dL_law_1025 : decode cL_law 1025 = .ok (.iload_n 3, 1) := by decide +kernel
theorem dL_law_1026 : decode cL_law 1026 = .ok (.iconst 1, 1) := by decide +kernel
theorem dL_law_1027 : decode cL_law 1027 = .ok (.iadd, 1) := by decide +kernel
theorem dL_law_1028 : decode cL_law 1028 = .ok (.iaload, 1) := by decide +kernel
theorem dL_law_1029 : decode cL_law 1029 = .ok (.aload_n 0, 1) := by decide +kernel
theorem dL_law_1030 : decode cL_law 1030 = .ok (.iload_n 3, 1) := by decide +kernel
theorem dL_law_1031 : decode cL_law 1031 = .ok (.iconst 2, 1) := by decide +kernel
theorem dL_law_1032 : decode cL_law 1032 = .ok (.iadd, 1) := by decide +kernel
theorem dL_law_1033 : decode cL_law 1033 = .ok (.iaload, 1) := by decide +kernel
theorem dL_law_1034 : decode cL_law 1034 = .ok (.aload_n 0, 1) := by decide +kernel
theorem dL_law_1035 : decode cL_law 1035 = .ok (.iload_n 3, 1) := by decide +kernel
theorem dL_law_1036 : decode cL_law 1036 = .ok (.iconst 3, 1) := by decide +kernel
theorem dL_law_1037 : decode cL_law 1037 = .ok (.iadd, 1) := by decide +kernel
theorem dL_law_1038 : decode cL_law 1038 = .ok (.iaload, 1) := by decide +kernel
theorem dL_law_1039 : decode cL_law 1039 = .ok (.invokevirtual 137, 3) := by decide +kernel
theorem dL_law_1042 : decode cL_law 1042 = .ok (.if_icmp .eq 257, 3) := by decide +kernel
theorem dL_law_1045 : decode cL_law 1045 = .ok (.iconst 0, 1) := by decide +kernel
theorem dL_law_1046 : decode cL_law 1046 = .ok (.ireturn, 1) := by decide +kernel
theorem dL_law_1047 : decode cL_law 1047 = .ok (.aload_n 1, 1) := by decide +kernel
theorem dL_law_1048 : decode cL_law 1048 = .ok (.aload_n 0, 1) := by decide +kernel
theorem dL_law_1049 : decode cL_law 1049 = .ok (.iload_n 3, 1) := by decide +kernel
theorem dL_law_1050 : decode cL_law 1050 = .ok (.iconst 1, 1) := by decide +kernel
theorem dL_law_1051 : decode cL_law 1051 = .ok (.iadd, 1) := by decide +kernel
theorem dL_law_1052 : decode cL_law 1052 = .ok (.iaload, 1) := by decide +kernel
theorem dL_law_1053 : decode cL_law 1053 = .ok (.invokevirtual 138, 3) := by decide +kernel
theorem dL_law_1056 : decode cL_law 1056 = .ok (.aload_n 2, 1) := by decide +kernel
theorem dL_law_1057 : decode cL_law 1057 = .ok (.aload_n 0, 1) := by decide +kernel
theorem dL_law_1058 : decode cL_law 1058 = .ok (.iload_n 3, 1) := by decide +kernel
theorem dL_law_1059 : decode cL_law 1059 = .ok (.iconst 1, 1) := by decide +kernel
theorem dL_law_1060 : decode cL_law 1060 = .ok (.iadd, 1) := by decide +kernel
theorem dL_law_1061 : decode cL_law 1061 = .ok (.iaload, 1) := by decide +kernel
theorem dL_law_1062 : decode cL_law 1062 = .ok (.invokevirtual 141, 3) := by decide +kernel
theorem dL_law_1065 : decode cL_law 1065 = .ok (.if_icmp .eq 234, 3) := by decide +kernel
theorem dL_law_1068 : decode cL_law 1068 = .ok (.iconst 0, 1) := by decide +kernel
theorem dL_law_1069 : decode cL_law 1069 = .ok (.ireturn, 1) := by decide +kernel
theorem dL_law_1070 : decode cL_law 1070 = .ok (.aload_n 1, 1) := by decide +kernel
theorem dL_law_1071 : decode cL_law 1071 = .ok (.aload_n 0, 1) := by decide +kernel
theorem dL_law_1072 : decode cL_law 1072 = .ok (.iload_n 3, 1) := by decide +kernel
theorem dL_law_1073 : decode cL_law 1073 = .ok (.iconst 1, 1) := by decide +kernel
theorem dL_law_1074 : decode cL_law 1074 = .ok (.iadd, 1) := by decide +kernel
theorem dL_law_1075 : decode cL_law 1075 = .ok (.iaload, 1) := by decide +kernel
theorem dL_law_1076 : decode cL_law 1076 = .ok (.aload_n 0, 1) := by decide +kernel
theorem dL_law_1077 : decode cL_law 1077 = .ok (.iload_n 3, 1) := by decide +kernel
theorem dL_law_1078 : decode cL_law 1078 = .ok (.iconst 2, 1) := by decide +kernel
theorem dL_law_1079 : decode cL_law 1079 = .ok (.iadd, 1) := by decide +kernel
theorem dL_law_1080 : decode cL_law 1080 = .ok (.iaload, 1) := by decide +kernel
theorem dL_law_1081 : decode cL_law 1081 = .ok (.aload_n 0, 1) := by decide +kernel
theorem dL_law_1082 : decode cL_law 1082 = .ok (.iload_n 3, 1) := by decide +kernel
theorem dL_law_1083 : decode cL_law 1083 = .ok (.iconst 3, 1) := by decide +kernel
theorem dL_law_1084 : decode cL_law 1084 = .ok (.iadd, 1) := by decide +kernel
theorem dL_law_1085 : decode cL_law 1085 = .ok (.iaload, 1) := by decide +kernel
theorem dL_law_1086 : decode cL_law 1086 = .ok (.aload_n 0, 1) := by decide +kernel
theorem dL_law_1087 : decode cL_law 1087 = .ok (.iload_n 3, 1) := by decide +kernel
theorem dL_law_1088 : decode cL_law 1088 = .ok (.iconst 4, 1) := by decide +kernel
theorem dL_law_1089 : decode cL_law 1089 = .ok (.iadd, 1) := by decide +kernel
theorem dL_law_1090 : decode cL_law 1090 = .ok (.iaload, 1) := by decide +kernel
theorem dL_law_1091 : decode cL_law 1091 = .ok (.invokevirtual 142, 3) := by decide +kernel
theorem dL_law_1094 : decode cL_law 1094 = .ok (.aload_n 2, 1) := by decide +kernel
theorem dL_law_1095 : decode cL_law 1095 = .ok (.aload_n 0, 1) := by decide +kernel
theorem dL_law_1096 : decode cL_law 1096 = .ok (.iload_n 3, 1) := by decide +kernel
theorem dL_law_1097 : decode cL_law 1097 = .ok (.iconst 1, 1) := by decide +kernel
theorem dL_law_1098 : decode cL_law 1098 = .ok (.iadd, 1) := by decide +kernel
theorem dL_law_1099 : decode cL_law 1099 = .ok (.iaload, 1) := by decide +kernel
theorem dL_law_1100 : decode cL_law 1100 = .ok (.aload_n 0, 1) := by decide +kernel
theorem dL_law_1101 : decode cL_law 1101 = .ok (.iload_n 3, 1) := by decide +kernel
theorem dL_law_1102 : decode cL_law 1102 = .ok (.iconst 2, 1) := by decide +kernel
theorem dL_law_1103 : decode cL_law 1103 = .ok (.iadd, 1) := by decide +kernel
theorem dL_law_1104 : decode cL_law 1104 = .ok (.iaload, 1) := by decide +kernel
theorem dL_law_1105 : decode cL_law 1105 = .ok (.aload_n 0, 1) := by decide +kernel
theorem dL_law_1106 : decode cL_law 1106 = .ok (.iload_n 3, 1) := by decide +kernel
theorem dL_law_1107 : decode cL_law 1107 = .ok (.iconst 3, 1) := by decide +kernel
theorem dL_law_1108 : decode cL_law 1108 = .ok (.iadd, 1) := by decide +kernel
theorem dL_law_1109 : decode cL_law 1109 = .ok (.iaload, 1) := by decide +kernel
theorem dL_law_1110 : decode cL_law 1110 = .ok (.aload_n 0, 1) := by decide +kernel
theorem dL_law_1111 : decode cL_law 1111 = .ok (.iload_n 3, 1) := by decide +kernel
theorem dL_law_1112 : decode cL_law 1112 = .ok (.iconst 4, 1) := by decide +kernel
theorem dL_law_1113 : decode cL_law 1113 = .ok (.iadd, 1) := by decide +kernel
theorem dL_law_1114 : decode cL_law 1114 = .ok (.iaload, 1) := by decide +kernel
theorem dL_law_1115 : decode cL_law 1115 = .ok (.invokevirtual 146, 3) := by decide +kernel
theorem dL_law_1118 : decode cL_law 1118 = .ok (.if_icmp .eq 181, 3) := by decide +kernel
theorem dL_law_1121 : decode cL_law 1121 = .ok (.iconst 0, 1) := by decide +kernel
theorem dL_law_1122 : decode cL_law 1122 = .ok (.ireturn, 1) := by decide +kernel
theorem dL_law_1123 : decode cL_law 1123 = .ok (.aload_n 1, 1) := by decide +kernel
theorem dL_law_1124 : decode cL_law 1124 = .ok (.aload_n 0, 1) := by decide +kernel
theorem dL_law_1125 : decode cL_law 1125 = .ok (.iload_n 3, 1) := by decide +kernel
theorem dL_law_1126 : decode cL_law 1126 = .ok (.iconst 1, 1) := by decide +kernel
theorem dL_law_1127 : decode cL_law 1127 = .ok (.iadd, 1) := by decide +kernel
theorem dL_law_1128 : decode cL_law 1128 = .ok (.iaload, 1) := by decide +kernel
theorem dL_law_1129 : decode cL_law 1129 = .ok (.aload_n 0, 1) := by decide +kernel
theorem dL_law_1130 : decode cL_law 1130 = .ok (.iload_n 3, 1) := by decide +kernel
theorem dL_law_1131 : decode cL_law 1131 = .ok (.iconst 2, 1) := by decide +kernel
theorem dL_law_1132 : decode cL_law 1132 = .ok (.iadd, 1) := by decide +kernel
theorem dL_law_1133 : decode cL_law 1133 = .ok (.iaload, 1) := by decide +kernel
theorem dL_law_1134 : decode cL_law 1134 = .ok (.aload_n 0, 1) := by decide +kernel
theorem dL_law_1135 : decode cL_law 1135 = .ok (.iload_n 3, 1) := by decide +kernel
theorem dL_law_1136 : decode cL_law 1136 = .ok (.iconst 3, 1) := by decide +kernel
theorem dL_law_1137 : decode cL_law 1137 = .ok (.iadd, 1) := by decide +kernel
theorem dL_law_1138 : decode cL_law 1138 = .ok (.iaload, 1) := by decide +kernel
theorem dL_law_1139 : decode cL_law 1139 = .ok (.invokevirtual 147, 3) := by decide +kernel
theorem dL_law_1142 : decode cL_law 1142 = .ok (.aload_n 2, 1) := by decide +kernel
theorem dL_law_1143 : decode cL_law 1143 = .ok (.aload_n 0, 1) := by decide +kernel
theorem dL_law_1144 : decode cL_law 1144 = .ok (.iload_n 3, 1) := by decide +kernel
theorem dL_law_1145 : decode cL_law 1145 = .ok (.iconst 1, 1) := by decide +kernel
theorem dL_law_1146 : decode cL_law 1146 = .ok (.iadd, 1) := by decide +kernel
theorem dL_law_1147 : decode cL_law 1147 = .ok (.iaload, 1) := by decide +kernel
theorem dL_law_1148 : decode cL_law 1148 = .ok (.aload_n 0, 1) := by decide +kernel
theorem dL_law_1149 : decode cL_law 1149 = .ok (.iload_n 3, 1) := by decide +kernel
theorem dL_law_1150 : decode cL_law 1150 = .ok (.iconst 2, 1) := by decide +kernel
theorem dL_law_1151 : decode cL_law 1151 = .ok (.iadd, 1) := by decide +kernel
theorem dL_law_1152 : decode cL_law 1152 = .ok (.iaload, 1) := by decide +kernel
theorem dL_law_1153 : decode cL_law 1153 = .ok (.aload_n 0, 1) := by decide +kernel
theorem dL_law_1154 : decode cL_law 1154 = .ok (.iload_n 3, 1) := by decide +kernel
theorem dL_law_1155 : decode cL_law 1155 = .ok (.iconst 3, 1) := by decide +kernel
theorem dL_law_1156 : decode cL_law 1156 = .ok (.iadd, 1) := by decide +kernel
theorem dL_law_1157 : decode cL_law 1157 = .ok (.iaload, 1) := by decide +kernel
theorem dL_law_1158 : decode cL_law 1158 = .ok (.invokevirtual 150, 3) := by decide +kernel
theorem dL_law_1161 : decode cL_law 1161 = .ok (.if_icmp .eq 138, 3) := by decide +kernel
theorem dL_law_1164 : decode cL_law 1164 = .ok (.iconst 0, 1) := by decide +kernel
theorem dL_law_1165 : decode cL_law 1165 = .ok (.ireturn, 1) := by decide +kernel
theorem dL_law_1166 : decode cL_law 1166 = .ok (.aload_n 1, 1) := by decide +kernel
theorem dL_law_1167 : decode cL_law 1167 = .ok (.aload_n 0, 1) := by decide +kernel
theorem dL_law_1168 : decode cL_law 1168 = .ok (.iload_n 3, 1) := by decide +kernel
theorem dL_law_1169 : decode cL_law 1169 = .ok (.iconst 1, 1) := by decide +kernel
theorem dL_law_1170 : decode cL_law 1170 = .ok (.iadd, 1) := by decide +kernel
theorem dL_law_1171 : decode cL_law 1171 = .ok (.iaload, 1) := by decide +kernel
theorem dL_law_1172 : decode cL_law 1172 = .ok (.aload_n 0, 1) := by decide +kernel
theorem dL_law_1173 : decode cL_law 1173 = .ok (.iload_n 3, 1) := by decide +kernel
theorem dL_law_1174 : decode cL_law 1174 = .ok (.iconst 2, 1) := by decide +kernel
theorem dL_law_1175 : decode cL_law 1175 = .ok (.iadd, 1) := by decide +kernel
theorem dL_law_1176 : decode cL_law 1176 = .ok (.iaload, 1) := by decide +kernel
theorem dL_law_1177 : decode cL_law 1177 = .ok (.aload_n 0, 1) := by decide +kernel
theorem dL_law_1178 : decode cL_law 1178 = .ok (.iload_n 3, 1) := by decide +kernel
theorem dL_law_1179 : decode cL_law 1179 = .ok (.iconst 3, 1) := by decide +kernel
theorem dL_law_1180 : decode cL_law 1180 = .ok (.iadd, 1) := by decide +kernel
theorem dL_law_1181 : decode cL_law 1181 = .ok (.iaload, 1) := by decide +kernel
theorem dL_law_1182 : decode cL_law 1182 = .ok (.aload_n 0, 1) := by decide +kernel
theorem dL_law_1183 : decode cL_law 1183 = .ok (.iload_n 3, 1) := by decide +kernel
theorem dL_law_1184 : decode cL_law 1184 = .ok (.iconst 4, 1) := by decide +kernel
theorem dL_law_1185 : decode cL_law 1185 = .ok (.iadd, 1) := by decide +kernel
theorem dL_law_1186 : decode cL_law 1186 = .ok (.iaload, 1) := by decide +kernel
theorem dL_law_1187 : decode cL_law 1187 = .ok (.aload_n 0, 1) := by decide +kernel
theorem dL_law_1188 : decode cL_law 1188 = .ok (.iload_n 3, 1) := by decide +kernel
theorem dL_law_1189 : decode cL_law 1189 = .ok (.iconst 5, 1) := by decide +kernel
theorem dL_law_1190 : decode cL_law 1190 = .ok (.iadd, 1) := by decide +kernel
theorem dL_law_1191 : decode cL_law 1191 = .ok (.iaload, 1) := by decide +kernel
theorem dL_law_1192 : decode cL_law 1192 = .ok (.invokevirtual 151, 3) := by decide +kernel
theorem dL_law_1195 : decode cL_law 1195 = .ok (.aload_n 2, 1) := by decide +kernel
theorem dL_law_1196 : decode cL_law 1196 = .ok (.aload_n 0, 1) := by decide +kernel
theorem dL_law_1197 : decode cL_law 1197 = .ok (.iload_n 3, 1) := by decide +kernel
theorem dL_law_1198 : decode cL_law 1198 = .ok (.iconst 1, 1) := by decide +kernel
theorem dL_law_1199 : decode cL_law 1199 = .ok (.iadd, 1) := by decide +kernel
theorem dL_law_1200 : decode cL_law 1200 = .ok (.iaload, 1) := by decide +kernel
theorem dL_law_1201 : decode cL_law 1201 = .ok (.aload_n 0, 1) := by decide +kernel
theorem dL_law_1202 : decode cL_law 1202 = .ok (.iload_n 3, 1) := by decide +kernel
theorem dL_law_1203 : decode cL_law 1203 = .ok (.iconst 2, 1) := by decide +kernel
theorem dL_law_1204 : decode cL_law 1204 = .ok (.iadd, 1) := by decide +kernel
theorem dL_law_1205 : decode cL_law 1205 = .ok (.iaload, 1) := by decide +kernel
theorem dL_law_1206 : decode cL_law 1206 = .ok (.aload_n 0, 1) := by decide +kernel
theorem dL_law_1207 : decode cL_law 1207 = .ok (.iload_n 3, 1) := by decide +kernel
theorem dL_law_1208 : decode cL_law 1208 = .ok (.iconst 3, 1) := by decide +kernel
theorem dL_law_1209 : decode cL_law 1209 = .ok (.iadd, 1) := by decide +kernel
theorem dL_law_1210 : decode cL_law 1210 = .ok (.iaload, 1) := by decide +kernel
theorem dL_law_1211 : decode cL_law 1211 = .ok (.aload_n 0, 1) := by decide +kernel
theorem dL_law_1212 : decode cL_law 1212 = .ok (.iload_n 3, 1) := by decide +kernel
theorem dL_law_1213 : decode cL_law 1213 = .ok (.iconst 4, 1) := by decide +kernel
theorem dL_law_1214 : decode cL_law 1214 = .ok (.iadd, 1) := by decide +kernel
theorem dL_law_1215 : decode cL_law 1215 = .ok (.iaload, 1) := by decide +kernel
theorem dL_law_1216 : decode cL_law 1216 = .ok (.aload_n 0, 1) := by decide +kernel
theorem dL_law_1217 : decode cL_law 1217 = .ok (.iload_n 3, 1) := by decide +kernel
theorem dL_law_1218 : decode cL_law 1218 = .ok (.iconst 5, 1) := by decide +kernel
theorem dL_law_1219 : decode cL_law 1219 = .ok (.iadd, 1) := by decide +kernel
theorem dL_law_1220 : decode cL_law 1220 = .ok (.iaload, 1) := by decide +kernel
theorem dL_law_1221 : decode cL_law 1221 = .ok (.invokevirtual 155, 3) := by decide +kernel
theorem dL_law_1224 : decode cL_law 1224 = .ok (.if_icmp .eq 75, 3) := by decide +kernel
theorem dL_law_1227 : decode cL_law 1227 = .ok (.iconst 0, 1) := by decide +kernel
theorem dL_law_1228 : decode cL_law 1228 = .ok (.ireturn, 1) := by decide +kernel
theorem dL_law_1229 : decode cL_law 1229 = .ok (.aload_n 1, 1) := by decide +kernel
theorem dL_law_1230 : decode cL_law 1230 = .ok (.aload_n 0, 1) := by decide +kernel
theorem dL_law_1231 : decode cL_law 1231 = .ok (.iload_n 3, 1) := by decide +kernel
theorem dL_law_1232 : decode cL_law 1232 = .ok (.iconst 1, 1) := by decide +kernel
theorem dL_law_1233 : decode cL_law 1233 = .ok (.iadd, 1) := by decide +kernel
theorem dL_law_1234 : decode cL_law 1234 = .ok (.iaload, 1) := by decide +kernel
theorem dL_law_1235 : decode cL_law 1235 = .ok (.aload_n 0, 1) := by decide +kernel
theorem dL_law_1236 : decode cL_law 1236 = .ok (.iload_n 3, 1) := by decide +kernel
theorem dL_law_1237 : decode cL_law 1237 = .ok (.iconst 2, 1) := by decide +kernel
theorem dL_law_1238 : decode cL_law 1238 = .ok (.iadd, 1) := by decide +kernel
theorem dL_law_1239 : decode cL_law 1239 = .ok (.iaload, 1) := by decide +kernel
theorem dL_law_1240 : decode cL_law 1240 = .ok (.invokevirtual 156, 3) := by decide +kernel
theorem dL_law_1243 : decode cL_law 1243 = .ok (.aload_n 2, 1) := by decide +kernel
theorem dL_law_1244 : decode cL_law 1244 = .ok (.aload_n 0, 1) := by decide +kernel
theorem dL_law_1245 : decode cL_law 1245 = .ok (.iload_n 3, 1) := by decide +kernel
theorem dL_law_1246 : decode cL_law 1246 = .ok (.iconst 1, 1) := by decide +kernel
theorem dL_law_1247 : decode cL_law 1247 = .ok (.iadd, 1) := by decide +kernel
theorem dL_law_1248 : decode cL_law 1248 = .ok (.iaload, 1) := by decide +kernel
theorem dL_law_1249 : decode cL_law 1249 = .ok (.aload_n 0, 1) := by decide +kernel
theorem dL_law_1250 : decode cL_law 1250 = .ok (.iload_n 3, 1) := by decide +kernel
theorem dL_law_1251 : decode cL_law 1251 = .ok (.iconst 2, 1) := by decide +kernel
theorem dL_law_1252 : decode cL_law 1252 = .ok (.iadd, 1) := by decide +kernel
theorem dL_law_1253 : decode cL_law 1253 = .ok (.iaload, 1) := by decide +kernel
theorem dL_law_1254 : decode cL_law 1254 = .ok (.invokevirtual 159, 3) := by decide +kernel
theorem dL_law_1257 : decode cL_law 1257 = .ok (.if_icmp .eq 42, 3) := by decide +kernel
theorem dL_law_1260 : decode cL_law 1260 = .ok (.iconst 0, 1) := by decide +kernel
theorem dL_law_1261 : decode cL_law 1261 = .ok (.ireturn, 1) := by decide +kernel
theorem dL_law_1262 : decode cL_law 1262 = .ok (.aload_n 1, 1) := by decide +kernel
theorem dL_law_1263 : decode cL_law 1263 = .ok (.aload_n 0, 1) := by decide +kernel
theorem dL_law_1264 : decode cL_law 1264 = .ok (.iload_n 3, 1) := by decide +kernel
theorem dL_law_1265 : decode cL_law 1265 = .ok (.iconst 1, 1) := by decide +kernel
theorem dL_law_1266 : decode cL_law 1266 = .ok (.iadd, 1) := by decide +kernel
theorem dL_law_1267 : decode cL_law 1267 = .ok (.iaload, 1) := by decide +kernel
theorem dL_law_1268 : decode cL_law 1268 = .ok (.invokevirtual 160, 3) := by decide +kernel
theorem dL_law_1271 : decode cL_law 1271 = .ok (.aload_n 2, 1) := by decide +kernel
theorem dL_law_1272 : decode cL_law 1272 = .ok (.aload_n 0, 1) := by decide +kernel
theorem dL_law_1273 : decode cL_law 1273 = .ok (.iload_n 3, 1) := by decide +kernel
theorem dL_law_1274 : decode cL_law 1274 = .ok (.iconst 1, 1) := by decide +kernel
theorem dL_law_1275 : decode cL_law 1275 = .ok (.iadd, 1) := by decide +kernel
theorem dL_law_1276 : decode cL_law 1276 = .ok (.iaload, 1) := by decide +kernel
theorem dL_law_1277 : decode cL_law 1277 = .ok (.invokevirtual 163, 3) := by decide +kernel
theorem dL_law_1280 : decode cL_law 1280 = .ok (.if_icmp .eq 19, 3) := by decide +kernel
theorem dL_law_1283 : decode cL_law 1283 = .ok (.iconst 0, 1) := by decide +kernel
theorem dL_law_1284 : decode cL_law 1284 = .ok (.ireturn, 1) := by decide +kernel
theorem dL_law_1285 : decode cL_law 1285 = .ok (.aload_n 1, 1) := by decide +kernel
theorem dL_law_1286 : decode cL_law 1286 = .ok (.invokevirtual 164, 3) := by decide +kernel
theorem dL_law_1289 : decode cL_law 1289 = .ok (.aload_n 2, 1) := by decide +kernel
theorem dL_law_1290 : decode cL_law 1290 = .ok (.invokevirtual 168, 3) := by decide +kernel
theorem dL_law_1293 : decode cL_law 1293 = .ok (.lcmp, 1) := by decide +kernel
theorem dL_law_1294 : decode cL_law 1294 = .ok (.ifCond .eq 5, 3) := by decide +kernel
theorem dL_law_1297 : decode cL_law 1297 = .ok (.iconst 0, 1) := by decide +kernel
theorem dL_law_1298 : decode cL_law 1298 = .ok (.ireturn, 1) := by decide +kernel
theorem dL_law_1299 : decode cL_law 1299 = .ok (.iinc 3 6, 3) := by decide +kernel
theorem dL_law_1302 : decode cL_law 1302 = .ok (.goto (-1284), 3) := by decide +kernel
theorem dL_law_1305 : decode cL_law 1305 = .ok (.iconst 1, 1) := by decide +kernel
theorem dL_law_1306 : decode cL_law 1306 = .ok (.ireturn, 1) := by decide +kernel
