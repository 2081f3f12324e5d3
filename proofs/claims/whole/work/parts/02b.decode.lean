theorem dX9_init_0 : decode cX9_init 0 = .ok (.aload_n 0, 1) := by decide +kernel
theorem dX9_init_1 : decode cX9_init 1 = .ok (.invokespecial 1, 3) := by decide +kernel
theorem dX9_init_4 : decode cX9_init 4 = .ok (.aload_n 0, 1) := by decide +kernel
theorem dX9_init_5 : decode cX9_init 5 = .ok (.new 7, 3) := by decide +kernel
theorem dX9_init_8 : decode cX9_init 8 = .ok (.dup, 1) := by decide +kernel
theorem dX9_init_9 : decode cX9_init 9 = .ok (.bipush 39, 2) := by decide +kernel
theorem dX9_init_11 : decode cX9_init 11 = .ok (.invokespecial 11, 3) := by decide +kernel
theorem dX9_init_14 : decode cX9_init 14 = .ok (.putfield 14, 3) := by decide +kernel
theorem dX9_init_17 : decode cX9_init 17 = .ok (.aload_n 0, 1) := by decide +kernel
theorem dX9_init_18 : decode cX9_init 18 = .ok (.new 7, 3) := by decide +kernel
theorem dX9_init_21 : decode cX9_init 21 = .ok (.dup, 1) := by decide +kernel
theorem dX9_init_22 : decode cX9_init 22 = .ok (.bipush 31, 2) := by decide +kernel
theorem dX9_init_24 : decode cX9_init 24 = .ok (.invokespecial 11, 3) := by decide +kernel
theorem dX9_init_27 : decode cX9_init 27 = .ok (.putfield 18, 3) := by decide +kernel
theorem dX9_init_30 : decode cX9_init 30 = .ok (.aload_n 0, 1) := by decide +kernel
theorem dX9_init_31 : decode cX9_init 31 = .ok (.new 21, 3) := by decide +kernel
theorem dX9_init_34 : decode cX9_init 34 = .ok (.dup, 1) := by decide +kernel
theorem dX9_init_35 : decode cX9_init 35 = .ok (.invokespecial 23, 3) := by decide +kernel
theorem dX9_init_38 : decode cX9_init 38 = .ok (.putfield 24, 3) := by decide +kernel
theorem dX9_init_41 : decode cX9_init 41 = .ok (.aload_n 0, 1) := by decide +kernel
theorem dX9_init_42 : decode cX9_init 42 = .ok (.new 28, 3) := by decide +kernel
theorem dX9_init_45 : decode cX9_init 45 = .ok (.dup, 1) := by decide +kernel
theorem dX9_init_46 : decode cX9_init 46 = .ok (.invokespecial 30, 3) := by decide +kernel
theorem dX9_init_49 : decode cX9_init 49 = .ok (.putfield 31, 3) := by decide +kernel
theorem dX9_init_52 : decode cX9_init 52 = .ok (.aload_n 0, 1) := by decide +kernel
theorem dX9_init_53 : decode cX9_init 53 = .ok (.new 35, 3) := by decide +kernel
theorem dX9_init_56 : decode cX9_init 56 = .ok (.dup, 1) := by decide +kernel
theorem dX9_init_57 : decode cX9_init 57 = .ok (.invokespecial 37, 3) := by decide +kernel
theorem dX9_init_60 : decode cX9_init 60 = .ok (.putfield 38, 3) := by decide +kernel
theorem dX9_init_63 : decode cX9_init 63 = .ok (.aload_n 0, 1) := by decide +kernel
theorem dX9_init_64 : decode cX9_init 64 = .ok (.new 35, 3) := by decide +kernel
theorem dX9_init_67 : decode cX9_init 67 = .ok (.dup, 1) := by decide +kernel
theorem dX9_init_68 : decode cX9_init 68 = .ok (.invokespecial 37, 3) := by decide +kernel
theorem dX9_init_71 : decode cX9_init 71 = .ok (.putfield 42, 3) := by decide +kernel
theorem dX9_init_74 : decode cX9_init 74 = .ok (.aload_n 0, 1) := by decide +kernel
theorem dX9_init_75 : decode cX9_init 75 = .ok (.new 45, 3) := by decide +kernel
theorem dX9_init_78 : decode cX9_init 78 = .ok (.dup, 1) := by decide +kernel
theorem dX9_init_79 : decode cX9_init 79 = .ok (.invokespecial 47, 3) := by decide +kernel
theorem dX9_init_82 : decode cX9_init 82 = .ok (.putfield 48, 3) := by decide +kernel
theorem dX9_init_85 : decode cX9_init 85 = .ok (.aload_n 0, 1) := by decide +kernel
theorem dX9_init_86 : decode cX9_init 86 = .ok (.new 52, 3) := by decide +kernel
theorem dX9_init_89 : decode cX9_init 89 = .ok (.dup, 1) := by decide +kernel
theorem dX9_init_90 : decode cX9_init 90 = .ok (.invokespecial 54, 3) := by decide +kernel
theorem dX9_init_93 : decode cX9_init 93 = .ok (.putfield 55, 3) := by decide +kernel
theorem dX9_init_96 : decode cX9_init 96 = .ok (.aload_n 0, 1) := by decide +kernel
theorem dX9_init_97 : decode cX9_init 97 = .ok (.new 52, 3) := by decide +kernel
theorem dX9_init_100 : decode cX9_init 100 = .ok (.dup, 1) := by decide +kernel
theorem dX9_init_101 : decode cX9_init 101 = .ok (.invokespecial 54, 3) := by decide +kernel
theorem dX9_init_104 : decode cX9_init 104 = .ok (.putfield 59, 3) := by decide +kernel
theorem dX9_init_107 : decode cX9_init 107 = .ok (.aload_n 0, 1) := by decide +kernel
theorem dX9_init_108 : decode cX9_init 108 = .ok (.new 62, 3) := by decide +kernel
theorem dX9_init_111 : decode cX9_init 111 = .ok (.dup, 1) := by decide +kernel
theorem dX9_init_112 : decode cX9_init 112 = .ok (.invokespecial 64, 3) := by decide +kernel
theorem dX9_init_115 : decode cX9_init 115 = .ok (.putfield 65, 3) := by decide +kernel
theorem dX9_init_118 : decode cX9_init 118 = .ok (.aload_n 0, 1) := by decide +kernel
theorem dX9_init_119 : decode cX9_init 119 = .ok (.sipush 216, 3) := by decide +kernel
theorem dX9_init_122 : decode cX9_init 122 = .ok (.newarray .int, 2) := by decide +kernel
theorem dX9_init_124 : decode cX9_init 124 = .ok (.putfield 69, 3) := by decide +kernel
theorem dX9_init_127 : decode cX9_init 127 = .ok (.aload_n 0, 1) := by decide +kernel
theorem dX9_init_128 : decode cX9_init 128 = .ok (.iconst 4, 1) := by decide +kernel
theorem dX9_init_129 : decode cX9_init 129 = .ok (.anewarray 73, 3) := by decide +kernel
theorem dX9_init_132 : decode cX9_init 132 = .ok (.putfield 75, 3) := by decide +kernel
theorem dX9_init_135 : decode cX9_init 135 = .ok (.aload_n 0, 1) := by decide +kernel
theorem dX9_init_136 : decode cX9_init 136 = .ok (.iconst 1, 1) := by decide +kernel
theorem dX9_init_137 : decode cX9_init 137 = .ok (.putfield 79, 3) := by decide +kernel
theorem dX9_init_140 : decode cX9_init 140 = .ok (.aload_n 0, 1) := by decide +kernel
theorem dX9_init_141 : decode cX9_init 141 = .ok (.iconst 1, 1) := by decide +kernel
theorem dX9_init_142 : decode cX9_init 142 = .ok (.putfield 83, 3) := by decide +kernel
theorem dX9_init_145 : decode cX9_init 145 = .ok (.aload_n 0, 1) := by decide +kernel
theorem dX9_init_146 : decode cX9_init 146 = .ok (.iconst 0, 1) := by decide +kernel
theorem dX9_init_147 : decode cX9_init 147 = .ok (.putfield 86, 3) := by decide +kernel
theorem dX9_init_150 : decode cX9_init 150 = .ok (.iconst 0, 1) := by decide +kernel
theorem dX9_init_151 : decode cX9_init 151 = .ok (.istore_n 1, 1) := by decide +kernel
theorem dX9_init_152 : decode cX9_init 152 = .ok (.iload_n 1, 1) := by decide +kernel
theorem dX9_init_153 : decode cX9_init 153 = .ok (.iconst 4, 1) := by decide +kernel
theorem dX9_init_154 : decode cX9_init 154 = .ok (.if_icmp .ge 22, 3) := by decide +kernel
theorem dX9_init_157 : decode cX9_init 157 = .ok (.aload_n 0, 1) := by decide +kernel
theorem dX9_init_158 : decode cX9_init 158 = .ok (.getfield 75, 3) := by decide +kernel
theorem dX9_init_161 : decode cX9_init 161 = .ok (.iload_n 1, 1) := by decide +kernel
theorem dX9_init_162 : decode cX9_init 162 = .ok (.new 73, 3) := by decide +kernel
theorem dX9_init_165 : decode cX9_init 165 = .ok (.dup, 1) := by decide +kernel
theorem dX9_init_166 : decode cX9_init 166 = .ok (.invokespecial 90, 3) := by decide +kernel
theorem dX9_init_169 : decode cX9_init 169 = .ok (.aastore, 1) := by decide +kernel
theorem dX9_init_170 : decode cX9_init 170 = .ok (.iinc 1 1, 3) := by decide +kernel
theorem dX9_init_173 : decode cX9_init 173 = .ok (.goto (-21), 3) := by decide +kernel
theorem dX9_init_176 : decode cX9_init 176 = .ok (.return_, 1) := by decide +kernel
theorem dX9_type_0 : decode cX9_type 0 = .ok (.iload_n 1, 1) := by decide +kernel
theorem dX9_type_1 : decode cX9_type 1 = .ok (.iconst 2, 1) := by decide +kernel
theorem dX9_type_2 : decode cX9_type 2 = .ok (.invokestatic 91, 3) := by decide +kernel
theorem dX9_type_5 : decode cX9_type 5 = .ok (.ifCond .eq 13, 3) := by decide +kernel
theorem dX9_type_8 : decode cX9_type 8 = .ok (.iload_n 2, 1) := by decide +kernel
theorem dX9_type_9 : decode cX9_type 9 = .ok (.sipush 256, 3) := by decide +kernel
theorem dX9_type_12 : decode cX9_type 12 = .ok (.invokestatic 91, 3) := by decide +kernel
theorem dX9_type_15 : decode cX9_type 15 = .ok (.ifCond .ne 6, 3) := by decide +kernel
theorem dX9_type_18 : decode cX9_type 18 = .ok (.bipush (-2), 2) := by decide +kernel
theorem dX9_type_20 : decode cX9_type 20 = .ok (.ireturn, 1) := by decide +kernel
theorem dX9_type_21 : decode cX9_type 21 = .ok (.aload_n 0, 1) := by decide +kernel
theorem dX9_type_22 : decode cX9_type 22 = .ok (.iload_n 1, 1) := by decide +kernel
theorem dX9_type_23 : decode cX9_type 23 = .ok (.invokevirtual 95, 3) := by decide +kernel
theorem dX9_type_26 : decode cX9_type 26 = .ok (.astore_n 3, 1) := by decide +kernel
theorem dX9_type_27 : decode cX9_type 27 = .ok (.aload_n 3, 1) := by decide +kernel
theorem dX9_type_28 : decode cX9_type 28 = .ok (.getfield 99, 3) := by decide +kernel
theorem dX9_type_31 : decode cX9_type 31 = .ok (.aload_n 3, 1) := by decide +kernel
theorem dX9_type_32 : decode cX9_type 32 = .ok (.getfield 102, 3) := by decide +kernel
theorem dX9_type_35 : decode cX9_type 35 = .ok (.if_icmp .lt 6, 3) := by decide +kernel
theorem dX9_type_38 : decode cX9_type 38 = .ok (.bipush (-4), 2) := by decide +kernel
theorem dX9_type_40 : decode cX9_type 40 = .ok (.ireturn, 1) := by decide +kernel
theorem dX9_type_41 : decode cX9_type 41 = .ok (.aload_n 3, 1) := by decide +kernel
theorem dX9_type_42 : decode cX9_type 42 = .ok (.iload_n 2, 1) := by decide +kernel
theorem dX9_type_43 : decode cX9_type 43 = .ok (.invokevirtual 105, 3) := by decide +kernel
theorem dX9_type_46 : decode cX9_type 46 = .ok (.aload_n 0, 1) := by decide +kernel
theorem dX9_type_47 : decode cX9_type 47 = .ok (.iload_n 1, 1) := by decide +kernel
theorem dX9_type_48 : decode cX9_type 48 = .ok (.invokevirtual 108, 3) := by decide +kernel
theorem dX9_type_51 : decode cX9_type 51 = .ok (.aload_n 3, 1) := by decide +kernel
theorem dX9_type_52 : decode cX9_type 52 = .ok (.getfield 99, 3) := by decide +kernel
theorem dX9_type_55 : decode cX9_type 55 = .ok (.ireturn, 1) := by decide +kernel
theorem dX9_wipe_0 : decode cX9_wipe 0 = .ok (.iload_n 1, 1) := by decide +kernel
theorem dX9_wipe_1 : decode cX9_wipe 1 = .ok (.iconst 2, 1) := by decide +kernel
theorem dX9_wipe_2 : decode cX9_wipe 2 = .ok (.invokestatic 91, 3) := by decide +kernel
theorem dX9_wipe_5 : decode cX9_wipe 5 = .ok (.ifCond .ne 6, 3) := by decide +kernel
theorem dX9_wipe_8 : decode cX9_wipe 8 = .ok (.bipush (-2), 2) := by decide +kernel
theorem dX9_wipe_10 : decode cX9_wipe 10 = .ok (.ireturn, 1) := by decide +kernel
theorem dX9_wipe_11 : decode cX9_wipe 11 = .ok (.aload_n 0, 1) := by decide +kernel
theorem dX9_wipe_12 : decode cX9_wipe 12 = .ok (.iload_n 1, 1) := by decide +kernel
theorem dX9_wipe_13 : decode cX9_wipe 13 = .ok (.invokevirtual 95, 3) := by decide +kernel
theorem dX9_wipe_16 : decode cX9_wipe 16 = .ok (.astore_n 2, 1) := by decide +kernel
theorem dX9_wipe_17 : decode cX9_wipe 17 = .ok (.aload_n 2, 1) := by decide +kernel
theorem dX9_wipe_18 : decode cX9_wipe 18 = .ok (.getfield 99, 3) := by decide +kernel
theorem dX9_wipe_21 : decode cX9_wipe 21 = .ok (.istore_n 3, 1) := by decide +kernel
theorem dX9_wipe_22 : decode cX9_wipe 22 = .ok (.aload_n 2, 1) := by decide +kernel
theorem dX9_wipe_23 : decode cX9_wipe 23 = .ok (.iconst 0, 1) := by decide +kernel
theorem dX9_wipe_24 : decode cX9_wipe 24 = .ok (.putfield 99, 3) := by decide +kernel
theorem dX9_wipe_27 : decode cX9_wipe 27 = .ok (.aload_n 0, 1) := by decide +kernel
theorem dX9_wipe_28 : decode cX9_wipe 28 = .ok (.iload_n 1, 1) := by decide +kernel
theorem dX9_wipe_29 : decode cX9_wipe 29 = .ok (.invokevirtual 108, 3) := by decide +kernel
theorem dX9_wipe_32 : decode cX9_wipe 32 = .ok (.iload_n 3, 1) := by decide +kernel
theorem dX9_wipe_33 : decode cX9_wipe 33 = .ok (.ireturn, 1) := by decide +kernel
theorem dX9_undo_0 : decode cX9_undo 0 = .ok (.iload_n 1, 1) := by decide +kernel
theorem dX9_undo_1 : decode cX9_undo 1 = .ok (.iconst 2, 1) := by decide +kernel
theorem dX9_undo_2 : decode cX9_undo 2 = .ok (.invokestatic 91, 3) := by decide +kernel
theorem dX9_undo_5 : decode cX9_undo 5 = .ok (.ifCond .ne 6, 3) := by decide +kernel
theorem dX9_undo_8 : decode cX9_undo 8 = .ok (.bipush (-2), 2) := by decide +kernel
theorem dX9_undo_10 : decode cX9_undo 10 = .ok (.ireturn, 1) := by decide +kernel
theorem dX9_undo_11 : decode cX9_undo 11 = .ok (.aload_n 0, 1) := by decide +kernel
theorem dX9_undo_12 : decode cX9_undo 12 = .ok (.iload_n 1, 1) := by decide +kernel
theorem dX9_undo_13 : decode cX9_undo 13 = .ok (.invokevirtual 95, 3) := by decide +kernel
theorem dX9_undo_16 : decode cX9_undo 16 = .ok (.astore_n 2, 1) := by decide +kernel
theorem dX9_undo_17 : decode cX9_undo 17 = .ok (.aload_n 2, 1) := by decide +kernel
theorem dX9_undo_18 : decode cX9_undo 18 = .ok (.getfield 99, 3) := by decide +kernel
theorem dX9_undo_21 : decode cX9_undo 21 = .ok (.ifCond .ne 6, 3) := by decide +kernel
theorem dX9_undo_24 : decode cX9_undo 24 = .ok (.bipush (-3), 2) := by decide +kernel
theorem dX9_undo_26 : decode cX9_undo 26 = .ok (.ireturn, 1) := by decide +kernel
theorem dX9_undo_27 : decode cX9_undo 27 = .ok (.aload_n 2, 1) := by decide +kernel
theorem dX9_undo_28 : decode cX9_undo 28 = .ok (.dup, 1) := by decide +kernel
theorem dX9_undo_29 : decode cX9_undo 29 = .ok (.getfield 99, 3) := by decide +kernel
theorem dX9_undo_32 : decode cX9_undo 32 = .ok (.iconst 1, 1) := by decide +kernel
theorem dX9_undo_33 : decode cX9_undo 33 = .ok (.isub, 1) := by decide +kernel
theorem dX9_undo_34 : decode cX9_undo 34 = .ok (.putfield 99, 3) := by decide +kernel
theorem dX9_undo_37 : decode cX9_undo 37 = .ok (.aload_n 0, 1) := by decide +kernel
theorem dX9_undo_38 : decode cX9_undo 38 = .ok (.iload_n 1, 1) := by decide +kernel
theorem dX9_undo_39 : decode cX9_undo 39 = .ok (.invokevirtual 108, 3) := by decide +kernel
theorem dX9_undo_42 : decode cX9_undo 42 = .ok (.aload_n 2, 1) := by decide +kernel
theorem dX9_undo_43 : decode cX9_undo 43 = .ok (.getfield 99, 3) := by decide +kernel
theorem dX9_undo_46 : decode cX9_undo 46 = .ok (.ireturn, 1) := by decide +kernel
theorem dX9_fault_0 : decode cX9_fault 0 = .ok (.iload_n 1, 1) := by decide +kernel
theorem dX9_fault_1 : decode cX9_fault 1 = .ok (.iconst 2, 1) := by decide +kernel
theorem dX9_fault_2 : decode cX9_fault 2 = .ok (.invokestatic 91, 3) := by decide +kernel
theorem dX9_fault_5 : decode cX9_fault 5 = .ok (.ifCond .ne 6, 3) := by decide +kernel
theorem dX9_fault_8 : decode cX9_fault 8 = .ok (.bipush (-2), 2) := by decide +kernel
theorem dX9_fault_10 : decode cX9_fault 10 = .ok (.ireturn, 1) := by decide +kernel
theorem dX9_fault_11 : decode cX9_fault 11 = .ok (.iload_n 1, 1) := by decide +kernel
theorem dX9_fault_12 : decode cX9_fault 12 = .ok (.ifCond .ne 13, 3) := by decide +kernel
theorem dX9_fault_15 : decode cX9_fault 15 = .ok (.aload_n 0, 1) := by decide +kernel
theorem dX9_fault_16 : decode cX9_fault 16 = .ok (.getfield 24, 3) := by decide +kernel
theorem dX9_fault_19 : decode cX9_fault 19 = .ok (.getfield 111, 3) := by decide +kernel
theorem dX9_fault_22 : decode cX9_fault 22 = .ok (.goto 10, 3) := by decide +kernel
theorem dX9_fault_25 : decode cX9_fault 25 = .ok (.aload_n 0, 1) := by decide +kernel
theorem dX9_fault_26 : decode cX9_fault 26 = .ok (.getfield 31, 3) := by decide +kernel
theorem dX9_fault_29 : decode cX9_fault 29 = .ok (.getfield 114, 3) := by decide +kernel
theorem dX9_fault_32 : decode cX9_fault 32 = .ok (.ireturn, 1) := by decide +kernel
theorem dX9_gone_0 : decode cX9_gone 0 = .ok (.iload_n 1, 1) := by decide +kernel
theorem dX9_gone_1 : decode cX9_gone 1 = .ok (.aload_n 0, 1) := by decide +kernel
theorem dX9_gone_2 : decode cX9_gone 2 = .ok (.getfield 24, 3) := by decide +kernel
theorem dX9_gone_5 : decode cX9_gone 5 = .ok (.getfield 115, 3) := by decide +kernel
theorem dX9_gone_8 : decode cX9_gone 8 = .ok (.invokestatic 91, 3) := by decide +kernel
theorem dX9_gone_11 : decode cX9_gone 11 = .ok (.ifCond .eq 11, 3) := by decide +kernel
theorem dX9_gone_14 : decode cX9_gone 14 = .ok (.iload_n 2, 1) := by decide +kernel
theorem dX9_gone_15 : decode cX9_gone 15 = .ok (.iconst 4, 1) := by decide +kernel
theorem dX9_gone_16 : decode cX9_gone 16 = .ok (.invokestatic 91, 3) := by decide +kernel
theorem dX9_gone_19 : decode cX9_gone 19 = .ok (.ifCond .ne 6, 3) := by decide +kernel
theorem dX9_gone_22 : decode cX9_gone 22 = .ok (.bipush (-2), 2) := by decide +kernel
theorem dX9_gone_24 : decode cX9_gone 24 = .ok (.ireturn, 1) := by decide +kernel
theorem dX9_gone_25 : decode cX9_gone 25 = .ok (.iload_n 2, 1) := by decide +kernel
theorem dX9_gone_26 : decode cX9_gone 26 = .ok (.tableswitch 56 0 2 #[26, 36, 46], 26) := by decide +kernel
theorem dX9_gone_52 : decode cX9_gone 52 = .ok (.aload_n 0, 1) := by decide +kernel
theorem dX9_gone_53 : decode cX9_gone 53 = .ok (.getfield 24, 3) := by decide +kernel
theorem dX9_gone_56 : decode cX9_gone 56 = .ok (.getfield 116, 3) := by decide +kernel
theorem dX9_gone_59 : decode cX9_gone 59 = .ok (.iload_n 1, 1) := by decide +kernel
theorem dX9_gone_60 : decode cX9_gone 60 = .ok (.iaload, 1) := by decide +kernel
theorem dX9_gone_61 : decode cX9_gone 61 = .ok (.ireturn, 1) := by decide +kernel
theorem dX9_gone_62 : decode cX9_gone 62 = .ok (.aload_n 0, 1) := by decide +kernel
theorem dX9_gone_63 : decode cX9_gone 63 = .ok (.getfield 24, 3) := by decide +kernel
theorem dX9_gone_66 : decode cX9_gone 66 = .ok (.getfield 119, 3) := by decide +kernel
theorem dX9_gone_69 : decode cX9_gone 69 = .ok (.iload_n 1, 1) := by decide +kernel
theorem dX9_gone_70 : decode cX9_gone 70 = .ok (.iaload, 1) := by decide +kernel
theorem dX9_gone_71 : decode cX9_gone 71 = .ok (.ireturn, 1) := by decide +kernel
theorem dX9_gone_72 : decode cX9_gone 72 = .ok (.aload_n 0, 1) := by decide +kernel
theorem dX9_gone_73 : decode cX9_gone 73 = .ok (.getfield 24, 3) := by decide +kernel
theorem dX9_gone_76 : decode cX9_gone 76 = .ok (.getfield 122, 3) := by decide +kernel
theorem dX9_gone_79 : decode cX9_gone 79 = .ok (.iload_n 1, 1) := by decide +kernel
theorem dX9_gone_80 : decode cX9_gone 80 = .ok (.iaload, 1) := by decide +kernel
theorem dX9_gone_81 : decode cX9_gone 81 = .ok (.ireturn, 1) := by decide +kernel
theorem dX9_gone_82 : decode cX9_gone 82 = .ok (.aload_n 0, 1) := by decide +kernel
theorem dX9_gone_83 : decode cX9_gone 83 = .ok (.getfield 24, 3) := by decide +kernel
theorem dX9_gone_86 : decode cX9_gone 86 = .ok (.getfield 125, 3) := by decide +kernel
theorem dX9_gone_89 : decode cX9_gone 89 = .ok (.iload_n 1, 1) := by decide +kernel
theorem dX9_gone_90 : decode cX9_gone 90 = .ok (.iaload, 1) := by decide +kernel
theorem dX9_gone_91 : decode cX9_gone 91 = .ok (.ireturn, 1) := by decide +kernel
theorem dX9_need_0 : decode cX9_need 0 = .ok (.iload_n 1, 1) := by decide +kernel
theorem dX9_need_1 : decode cX9_need 1 = .ok (.aload_n 0, 1) := by decide +kernel
theorem dX9_need_2 : decode cX9_need 2 = .ok (.getfield 31, 3) := by decide +kernel
theorem dX9_need_5 : decode cX9_need 5 = .ok (.getfield 128, 3) := by decide +kernel
theorem dX9_need_8 : decode cX9_need 8 = .ok (.invokestatic 91, 3) := by decide +kernel
theorem dX9_need_11 : decode cX9_need 11 = .ok (.ifCond .eq 11, 3) := by decide +kernel
theorem dX9_need_14 : decode cX9_need 14 = .ok (.iload_n 2, 1) := by decide +kernel
theorem dX9_need_15 : decode cX9_need 15 = .ok (.iconst 3, 1) := by decide +kernel
theorem dX9_need_16 : decode cX9_need 16 = .ok (.invokestatic 91, 3) := by decide +kernel
theorem dX9_need_19 : decode cX9_need 19 = .ok (.ifCond .ne 6, 3) := by decide +kernel
theorem dX9_need_22 : decode cX9_need 22 = .ok (.bipush (-2), 2) := by decide +kernel
theorem dX9_need_24 : decode cX9_need 24 = .ok (.ireturn, 1) := by decide +kernel
theorem dX9_need_25 : decode cX9_need 25 = .ok (.iload_n 2, 1) := by decide +kernel
theorem dX9_need_26 : decode cX9_need 26 = .ok (.lookupswitch 46 #[(0, 26), (1, 36)], 26) := by decide +kernel
theorem dX9_need_52 : decode cX9_need 52 = .ok (.aload_n 0, 1) := by decide +kernel
theorem dX9_need_53 : decode cX9_need 53 = .ok (.getfield 31, 3) := by decide +kernel
theorem dX9_need_56 : decode cX9_need 56 = .ok (.getfield 129, 3) := by decide +kernel
theorem dX9_need_59 : decode cX9_need 59 = .ok (.iload_n 1, 1) := by decide +kernel
theorem dX9_need_60 : decode cX9_need 60 = .ok (.iaload, 1) := by decide +kernel
theorem dX9_need_61 : decode cX9_need 61 = .ok (.ireturn, 1) := by decide +kernel
theorem dX9_need_62 : decode cX9_need 62 = .ok (.aload_n 0, 1) := by decide +kernel
theorem dX9_need_63 : decode cX9_need 63 = .ok (.getfield 31, 3) := by decide +kernel
theorem dX9_need_66 : decode cX9_need 66 = .ok (.getfield 132, 3) := by decide +kernel
theorem dX9_need_69 : decode cX9_need 69 = .ok (.iload_n 1, 1) := by decide +kernel
theorem dX9_need_70 : decode cX9_need 70 = .ok (.iaload, 1) := by decide +kernel
theorem dX9_need_71 : decode cX9_need 71 = .ok (.ireturn, 1) := by decide +kernel
theorem dX9_need_72 : decode cX9_need 72 = .ok (.aload_n 0, 1) := by decide +kernel
theorem dX9_need_73 : decode cX9_need 73 = .ok (.getfield 31, 3) := by decide +kernel
theorem dX9_need_76 : decode cX9_need 76 = .ok (.getfield 135, 3) := by decide +kernel
theorem dX9_need_79 : decode cX9_need 79 = .ok (.iload_n 1, 1) := by decide +kernel
theorem dX9_need_80 : decode cX9_need 80 = .ok (.iaload, 1) := by decide +kernel
theorem dX9_need_81 : decode cX9_need 81 = .ok (.ireturn, 1) := by decide +kernel
theorem dX9_event_0 : decode cX9_event 0 = .ok (.iload_n 1, 1) := by decide +kernel
theorem dX9_event_1 : decode cX9_event 1 = .ok (.iconst 2, 1) := by decide +kernel
theorem dX9_event_2 : decode cX9_event 2 = .ok (.invokestatic 91, 3) := by decide +kernel
theorem dX9_event_5 : decode cX9_event 5 = .ok (.ifCond .eq 21, 3) := by decide +kernel
theorem dX9_event_8 : decode cX9_event 8 = .ok (.iload_n 2, 1) := by decide +kernel
theorem dX9_event_9 : decode cX9_event 9 = .ok (.bipush 24, 2) := by decide +kernel
theorem dX9_event_11 : decode cX9_event 11 = .ok (.invokestatic 91, 3) := by decide +kernel
theorem dX9_event_14 : decode cX9_event 14 = .ok (.ifCond .eq 12, 3) := by decide +kernel
theorem dX9_event_17 : decode cX9_event 17 = .ok (.iload_n 3, 1) := by decide +kernel
theorem dX9_event_18 : decode cX9_event 18 = .ok (.bipush 6, 2) := by decide +kernel
theorem dX9_event_20 : decode cX9_event 20 = .ok (.invokestatic 91, 3) := by decide +kernel
theorem dX9_event_23 : decode cX9_event 23 = .ok (.ifCond .ne 6, 3) := by decide +kernel
theorem dX9_event_26 : decode cX9_event 26 = .ok (.bipush (-2), 2) := by decide +kernel
theorem dX9_event_28 : decode cX9_event 28 = .ok (.ireturn, 1) := by decide +kernel
theorem dX9_event_29 : decode cX9_event 29 = .ok (.aload_n 0, 1) := by decide +kernel
theorem dX9_event_30 : decode cX9_event 30 = .ok (.getfield 38, 3) := by decide +kernel
theorem dX9_event_33 : decode cX9_event 33 = .ok (.getfield 138, 3) := by decide +kernel
theorem dX9_event_36 : decode cX9_event 36 = .ok (.bipush 8, 2) := by decide +kernel
theorem dX9_event_38 : decode cX9_event 38 = .ok (.if_icmp .lt 6, 3) := by decide +kernel
theorem dX9_event_41 : decode cX9_event 41 = .ok (.bipush (-4), 2) := by decide +kernel
theorem dX9_event_43 : decode cX9_event 43 = .ok (.ireturn, 1) := by decide +kernel
theorem dX9_event_44 : decode cX9_event 44 = .ok (.aload_n 0, 1) := by decide +kernel
theorem dX9_event_45 : decode cX9_event 45 = .ok (.getfield 38, 3) := by decide +kernel
theorem dX9_event_48 : decode cX9_event 48 = .ok (.iload_n 1, 1) := by decide +kernel
theorem dX9_event_49 : decode cX9_event 49 = .ok (.iload_n 2, 1) := by decide +kernel
theorem dX9_event_50 : decode cX9_event 50 = .ok (.iload_n 3, 1) := by decide +kernel
theorem dX9_event_51 : decode cX9_event 51 = .ok (.invokevirtual 139, 3) := by decide +kernel
theorem dX9_event_54 : decode cX9_event 54 = .ok (.aload_n 0, 1) := by decide +kernel
theorem dX9_event_55 : decode cX9_event 55 = .ok (.invokevirtual 142, 3) := by decide +kernel
theorem dX9_event_58 : decode cX9_event 58 = .ok (.aload_n 0, 1) := by decide +kernel
theorem dX9_event_59 : decode cX9_event 59 = .ok (.getfield 38, 3) := by decide +kernel
theorem dX9_event_62 : decode cX9_event 62 = .ok (.getfield 138, 3) := by decide +kernel
theorem dX9_event_65 : decode cX9_event 65 = .ok (.ireturn, 1) := by decide +kernel
theorem dX9_back_0 : decode cX9_back 0 = .ok (.aload_n 0, 1) := by decide +kernel
theorem dX9_back_1 : decode cX9_back 1 = .ok (.getfield 38, 3) := by decide +kernel
theorem dX9_back_4 : decode cX9_back 4 = .ok (.getfield 138, 3) := by decide +kernel
theorem dX9_back_7 : decode cX9_back 7 = .ok (.ifCond .ne 6, 3) := by decide +kernel
theorem dX9_back_10 : decode cX9_back 10 = .ok (.bipush (-3), 2) := by decide +kernel
theorem dX9_back_12 : decode cX9_back 12 = .ok (.ireturn, 1) := by decide +kernel
theorem dX9_back_13 : decode cX9_back 13 = .ok (.aload_n 0, 1) := by decide +kernel
theorem dX9_back_14 : decode cX9_back 14 = .ok (.getfield 38, 3) := by decide +kernel
theorem dX9_back_17 : decode cX9_back 17 = .ok (.invokevirtual 145, 3) := by decide +kernel
theorem dX9_back_20 : decode cX9_back 20 = .ok (.aload_n 0, 1) := by decide +kernel
theorem dX9_back_21 : decode cX9_back 21 = .ok (.invokevirtual 142, 3) := by decide +kernel
theorem dX9_back_24 : decode cX9_back 24 = .ok (.aload_n 0, 1) := by decide +kernel
theorem dX9_back_25 : decode cX9_back 25 = .ok (.getfield 38, 3) := by decide +kernel
theorem dX9_back_28 : decode cX9_back 28 = .ok (.getfield 138, 3) := by decide +kernel
theorem dX9_back_31 : decode cX9_back 31 = .ok (.ireturn, 1) := by decide +kernel
theorem dX9_read_0 : decode cX9_read 0 = .ok (.iload_n 1, 1) := by decide +kernel
theorem dX9_read_1 : decode cX9_read 1 = .ok (.iconst 4, 1) := by decide +kernel
theorem dX9_read_2 : decode cX9_read 2 = .ok (.invokestatic 91, 3) := by decide +kernel
theorem dX9_read_5 : decode cX9_read 5 = .ok (.ifCond .ne 6, 3) := by decide +kernel
theorem dX9_read_8 : decode cX9_read 8 = .ok (.bipush (-2), 2) := by decide +kernel
theorem dX9_read_10 : decode cX9_read 10 = .ok (.ireturn, 1) := by decide +kernel
theorem dX9_read_11 : decode cX9_read 11 = .ok (.aload_n 0, 1) := by decide +kernel
theorem dX9_read_12 : decode cX9_read 12 = .ok (.getfield 75, 3) := by decide +kernel
theorem dX9_read_15 : decode cX9_read 15 = .ok (.iload_n 1, 1) := by decide +kernel
theorem dX9_read_16 : decode cX9_read 16 = .ok (.aaload, 1) := by decide +kernel
theorem dX9_read_17 : decode cX9_read 17 = .ok (.astore_n 2, 1) := by decide +kernel
theorem dX9_read_18 : decode cX9_read 18 = .ok (.aload_n 2, 1) := by decide +kernel
theorem dX9_read_19 : decode cX9_read 19 = .ok (.getfield 148, 3) := by decide +kernel
theorem dX9_read_22 : decode cX9_read 22 = .ok (.iconst (-1), 1) := by decide +kernel
theorem dX9_read_23 : decode cX9_read 23 = .ok (.if_icmp .ne 9, 3) := by decide +kernel
theorem dX9_read_26 : decode cX9_read 26 = .ok (.aload_n 0, 1) := by decide +kernel
theorem dX9_read_27 : decode cX9_read 27 = .ok (.iconst 1, 1) := by decide +kernel
theorem dX9_read_28 : decode cX9_read 28 = .ok (.invokevirtual 151, 3) := by decide +kernel
theorem dX9_read_31 : decode cX9_read 31 = .ok (.ireturn, 1) := by decide +kernel
theorem dX9_read_32 : decode cX9_read 32 = .ok (.iconst 0, 1) := by decide +kernel
theorem dX9_read_33 : decode cX9_read 33 = .ok (.istore_n 3, 1) := by decide +kernel
theorem dX9_read_34 : decode cX9_read 34 = .ok (.iconst 0, 1) := by decide +kernel
theorem dX9_read_35 : decode cX9_read 35 = .ok (.istore 4, 2) := by decide +kernel
theorem dX9_read_37 : decode cX9_read 37 = .ok (.iload 4, 2) := by decide +kernel
theorem dX9_read_39 : decode cX9_read 39 = .ok (.iconst 2, 1) := by decide +kernel
theorem dX9_read_40 : decode cX9_read 40 = .ok (.iadd, 1) := by decide +kernel
theorem dX9_read_41 : decode cX9_read 41 = .ok (.aload_n 2, 1) := by decide +kernel
theorem dX9_read_42 : decode cX9_read 42 = .ok (.getfield 155, 3) := by decide +kernel
theorem dX9_read_45 : decode cX9_read 45 = .ok (.if_icmp .ge 47, 3) := by decide +kernel
theorem dX9_read_48 : decode cX9_read 48 = .ok (.aload_n 0, 1) := by decide +kernel
theorem dX9_read_49 : decode cX9_read 49 = .ok (.aload_n 2, 1) := by decide +kernel
theorem dX9_read_50 : decode cX9_read 50 = .ok (.getfield 156, 3) := by decide +kernel
theorem dX9_read_53 : decode cX9_read 53 = .ok (.iload 4, 2) := by decide +kernel
theorem dX9_read_55 : decode cX9_read 55 = .ok (.iaload, 1) := by decide +kernel
theorem dX9_read_56 : decode cX9_read 56 = .ok (.aload_n 2, 1) := by decide +kernel
theorem dX9_read_57 : decode cX9_read 57 = .ok (.getfield 156, 3) := by decide +kernel
theorem dX9_read_60 : decode cX9_read 60 = .ok (.iload 4, 2) := by decide +kernel
theorem dX9_read_62 : decode cX9_read 62 = .ok (.iconst 1, 1) := by decide +kernel
theorem dX9_read_63 : decode cX9_read 63 = .ok (.iadd, 1) := by decide +kernel
theorem dX9_read_64 : decode cX9_read 64 = .ok (.iaload, 1) := by decide +kernel
theorem dX9_read_65 : decode cX9_read 65 = .ok (.aload_n 2, 1) := by decide +kernel
theorem dX9_read_66 : decode cX9_read 66 = .ok (.getfield 156, 3) := by decide +kernel
theorem dX9_read_69 : decode cX9_read 69 = .ok (.iload 4, 2) := by decide +kernel
theorem dX9_read_71 : decode cX9_read 71 = .ok (.iconst 2, 1) := by decide +kernel
theorem dX9_read_72 : decode cX9_read 72 = .ok (.iadd, 1) := by decide +kernel
theorem dX9_read_73 : decode cX9_read 73 = .ok (.iaload, 1) := by decide +kernel
theorem dX9_read_74 : decode cX9_read 74 = .ok (.invokevirtual 159, 3) := by decide +kernel
theorem dX9_read_77 : decode cX9_read 77 = .ok (.ifCond .ge 6, 3) := by decide +kernel
theorem dX9_read_80 : decode cX9_read 80 = .ok (.goto 12, 3) := by decide +kernel
theorem dX9_read_83 : decode cX9_read 83 = .ok (.iinc 3 1, 3) := by decide +kernel
theorem dX9_read_86 : decode cX9_read 86 = .ok (.iinc 4 3, 3) := by decide +kernel
theorem dX9_read_89 : decode cX9_read 89 = .ok (.goto (-52), 3) := by decide +kernel
theorem dX9_read_92 : decode cX9_read 92 = .ok (.iload_n 3, 1) := by decide +kernel
theorem dX9_read_93 : decode cX9_read 93 = .ok (.ireturn, 1) := by decide +kernel
theorem dX9_at_0 : decode cX9_at 0 = .ok (.iload_n 1, 1) := by decide +kernel
theorem dX9_at_1 : decode cX9_at 1 = .ok (.bipush 24, 2) := by decide +kernel
theorem dX9_at_3 : decode cX9_at 3 = .ok (.invokestatic 91, 3) := by decide +kernel
theorem dX9_at_6 : decode cX9_at 6 = .ok (.ifCond .eq 25, 3) := by decide +kernel
theorem dX9_at_9 : decode cX9_at 9 = .ok (.iload_n 2, 1) := by decide +kernel
theorem dX9_at_10 : decode cX9_at 10 = .ok (.aload_n 0, 1) := by decide +kernel
theorem dX9_at_11 : decode cX9_at 11 = .ok (.getfield 24, 3) := by decide +kernel
theorem dX9_at_14 : decode cX9_at 14 = .ok (.getfield 115, 3) := by decide +kernel
theorem dX9_at_17 : decode cX9_at 17 = .ok (.invokestatic 91, 3) := by decide +kernel
theorem dX9_at_20 : decode cX9_at 20 = .ok (.ifCond .eq 11, 3) := by decide +kernel
theorem dX9_at_23 : decode cX9_at 23 = .ok (.iload_n 3, 1) := by decide +kernel
theorem dX9_at_24 : decode cX9_at 24 = .ok (.iconst 3, 1) := by decide +kernel
theorem dX9_at_25 : decode cX9_at 25 = .ok (.invokestatic 91, 3) := by decide +kernel
theorem dX9_at_28 : decode cX9_at 28 = .ok (.ifCond .ne 6, 3) := by decide +kernel
theorem dX9_at_31 : decode cX9_at 31 = .ok (.bipush (-2), 2) := by decide +kernel
theorem dX9_at_33 : decode cX9_at 33 = .ok (.ireturn, 1) := by decide +kernel
theorem dX9_at_34 : decode cX9_at 34 = .ok (.aload_n 0, 1) := by decide +kernel
theorem dX9_at_35 : decode cX9_at 35 = .ok (.invokevirtual 163, 3) := by decide +kernel
theorem dX9_at_38 : decode cX9_at 38 = .ok (.astore 4, 2) := by decide +kernel
theorem dX9_at_40 : decode cX9_at 40 = .ok (.iload_n 3, 1) := by decide +kernel
theorem dX9_at_41 : decode cX9_at 41 = .ok (.lookupswitch 55 #[(0, 27), (1, 43)], 27) := by decide +kernel
theorem dX9_at_68 : decode cX9_at 68 = .ok (.aload 4, 2) := by decide +kernel
theorem dX9_at_70 : decode cX9_at 70 = .ok (.iload_n 1, 1) := by decide +kernel
theorem dX9_at_71 : decode cX9_at 71 = .ok (.iload_n 2, 1) := by decide +kernel
theorem dX9_at_72 : decode cX9_at 72 = .ok (.invokevirtual 167, 3) := by decide +kernel
theorem dX9_at_75 : decode cX9_at 75 = .ok (.ifCond .eq 7, 3) := by decide +kernel
theorem dX9_at_78 : decode cX9_at 78 = .ok (.iconst 1, 1) := by decide +kernel
theorem dX9_at_79 : decode cX9_at 79 = .ok (.goto 4, 3) := by decide +kernel
theorem dX9_at_82 : decode cX9_at 82 = .ok (.iconst 0, 1) := by decide +kernel
theorem dX9_at_83 : decode cX9_at 83 = .ok (.ireturn, 1) := by decide +kernel
theorem dX9_at_84 : decode cX9_at 84 = .ok (.aload 4, 2) := by decide +kernel
theorem dX9_at_86 : decode cX9_at 86 = .ok (.aload_n 0, 1) := by decide +kernel
theorem dX9_at_87 : decode cX9_at 87 = .ok (.getfield 31, 3) := by decide +kernel
theorem dX9_at_90 : decode cX9_at 90 = .ok (.iload_n 1, 1) := by decide +kernel
theorem dX9_at_91 : decode cX9_at 91 = .ok (.iload_n 2, 1) := by decide +kernel
theorem dX9_at_92 : decode cX9_at 92 = .ok (.invokevirtual 170, 3) := by decide +kernel
theorem dX9_at_95 : decode cX9_at 95 = .ok (.ireturn, 1) := by decide +kernel
theorem dX9_at_96 : decode cX9_at 96 = .ok (.aload 4, 2) := by decide +kernel
theorem dX9_at_98 : decode cX9_at 98 = .ok (.iload_n 1, 1) := by decide +kernel
theorem dX9_at_99 : decode cX9_at 99 = .ok (.iload_n 2, 1) := by decide +kernel
theorem dX9_at_100 : decode cX9_at 100 = .ok (.invokevirtual 174, 3) := by decide +kernel
theorem dX9_at_103 : decode cX9_at 103 = .ok (.ireturn, 1) := by decide +kernel
theorem dX9_field_0 : decode cX9_field 0 = .ok (.iload_n 1, 1) := by decide +kernel
theorem dX9_field_1 : decode cX9_field 1 = .ok (.bipush 24, 2) := by decide +kernel
theorem dX9_field_3 : decode cX9_field 3 = .ok (.invokestatic 91, 3) := by decide +kernel
theorem dX9_field_6 : decode cX9_field 6 = .ok (.ifCond .eq 21, 3) := by decide +kernel
theorem dX9_field_9 : decode cX9_field 9 = .ok (.iload_n 2, 1) := by decide +kernel
theorem dX9_field_10 : decode cX9_field 10 = .ok (.bipush 6, 2) := by decide +kernel
theorem dX9_field_12 : decode cX9_field 12 = .ok (.invokestatic 91, 3) := by decide +kernel
theorem dX9_field_15 : decode cX9_field 15 = .ok (.ifCond .eq 12, 3) := by decide +kernel
theorem dX9_field_18 : decode cX9_field 18 = .ok (.iload_n 3, 1) := by decide +kernel
theorem dX9_field_19 : decode cX9_field 19 = .ok (.bipush 6, 2) := by decide +kernel
theorem dX9_field_21 : decode cX9_field 21 = .ok (.invokestatic 91, 3) := by decide +kernel
theorem dX9_field_24 : decode cX9_field 24 = .ok (.ifCond .ne 6, 3) := by decide +kernel
theorem dX9_field_27 : decode cX9_field 27 = .ok (.bipush (-2), 2) := by decide +kernel
theorem dX9_field_29 : decode cX9_field 29 = .ok (.ireturn, 1) := by decide +kernel
theorem dX9_field_30 : decode cX9_field 30 = .ok (.aload_n 0, 1) := by decide +kernel
theorem dX9_field_31 : decode cX9_field 31 = .ok (.invokevirtual 163, 3) := by decide +kernel
theorem dX9_field_34 : decode cX9_field 34 = .ok (.astore 4, 2) := by decide +kernel
theorem dX9_field_36 : decode cX9_field 36 = .ok (.iconst 0, 1) := by decide +kernel
theorem dX9_field_37 : decode cX9_field 37 = .ok (.istore 5, 2) := by decide +kernel
theorem dX9_field_39 : decode cX9_field 39 = .ok (.iload 5, 2) := by decide +kernel
theorem dX9_field_41 : decode cX9_field 41 = .ok (.aload_n 0, 1) := by decide +kernel
theorem dX9_field_42 : decode cX9_field 42 = .ok (.getfield 24, 3) := by decide +kernel
theorem dX9_field_45 : decode cX9_field 45 = .ok (.getfield 115, 3) := by decide +kernel
theorem dX9_field_48 : decode cX9_field 48 = .ok (.if_icmp .ge 51, 3) := by decide +kernel
theorem dX9_field_51 : decode cX9_field 51 = .ok (.aload_n 0, 1) := by decide +kernel
theorem dX9_field_52 : decode cX9_field 52 = .ok (.getfield 24, 3) := by decide +kernel
theorem dX9_field_55 : decode cX9_field 55 = .ok (.getfield 119, 3) := by decide +kernel
theorem dX9_field_58 : decode cX9_field 58 = .ok (.iload 5, 2) := by decide +kernel
theorem dX9_field_60 : decode cX9_field 60 = .ok (.iaload, 1) := by decide +kernel
theorem dX9_field_61 : decode cX9_field 61 = .ok (.iload_n 2, 1) := by decide +kernel
theorem dX9_field_62 : decode cX9_field 62 = .ok (.if_icmp .ne 31, 3) := by decide +kernel
theorem dX9_field_65 : decode cX9_field 65 = .ok (.aload_n 0, 1) := by decide +kernel
theorem dX9_field_66 : decode cX9_field 66 = .ok (.getfield 24, 3) := by decide +kernel
theorem dX9_field_69 : decode cX9_field 69 = .ok (.getfield 122, 3) := by decide +kernel
theorem dX9_field_72 : decode cX9_field 72 = .ok (.iload 5, 2) := by decide +kernel
theorem dX9_field_74 : decode cX9_field 74 = .ok (.iaload, 1) := by decide +kernel
theorem dX9_field_75 : decode cX9_field 75 = .ok (.iload_n 3, 1) := by decide +kernel
theorem dX9_field_76 : decode cX9_field 76 = .ok (.if_icmp .ne 17, 3) := by decide +kernel
theorem dX9_field_79 : decode cX9_field 79 = .ok (.aload 4, 2) := by decide +kernel
theorem dX9_field_81 : decode cX9_field 81 = .ok (.iload_n 1, 1) := by decide +kernel
theorem dX9_field_82 : decode cX9_field 82 = .ok (.iload 5, 2) := by decide +kernel
theorem dX9_field_84 : decode cX9_field 84 = .ok (.invokevirtual 167, 3) := by decide +kernel
theorem dX9_field_87 : decode cX9_field 87 = .ok (.ifCond .eq 6, 3) := by decide +kernel
theorem dX9_field_90 : decode cX9_field 90 = .ok (.iload 5, 2) := by decide +kernel
theorem dX9_field_92 : decode cX9_field 92 = .ok (.ireturn, 1) := by decide +kernel
theorem dX9_field_93 : decode cX9_field 93 = .ok (.iinc 5 1, 3) := by decide +kernel
theorem dX9_field_96 : decode cX9_field 96 = .ok (.goto (-57), 3) := by decide +kernel
theorem dX9_field_99 : decode cX9_field 99 = .ok (.iconst (-1), 1) := by decide +kernel
theorem dX9_field_100 : decode cX9_field 100 = .ok (.ireturn, 1) := by decide +kernel
theorem dX9_up_0 : decode cX9_up 0 = .ok (.iload_n 1, 1) := by decide +kernel
theorem dX9_up_1 : decode cX9_up 1 = .ok (.bipush 24, 2) := by decide +kernel
theorem dX9_up_3 : decode cX9_up 3 = .ok (.invokestatic 91, 3) := by decide +kernel
theorem dX9_up_6 : decode cX9_up 6 = .ok (.ifCond .eq 11, 3) := by decide +kernel
theorem dX9_up_9 : decode cX9_up 9 = .ok (.iload_n 2, 1) := by decide +kernel
theorem dX9_up_10 : decode cX9_up 10 = .ok (.iconst 2, 1) := by decide +kernel
theorem dX9_up_11 : decode cX9_up 11 = .ok (.invokestatic 91, 3) := by decide +kernel
theorem dX9_up_14 : decode cX9_up 14 = .ok (.ifCond .ne 6, 3) := by decide +kernel
theorem dX9_up_17 : decode cX9_up 17 = .ok (.bipush (-2), 2) := by decide +kernel
theorem dX9_up_19 : decode cX9_up 19 = .ok (.ireturn, 1) := by decide +kernel
theorem dX9_up_20 : decode cX9_up 20 = .ok (.aload_n 0, 1) := by decide +kernel
theorem dX9_up_21 : decode cX9_up 21 = .ok (.invokevirtual 163, 3) := by decide +kernel
theorem dX9_up_24 : decode cX9_up 24 = .ok (.astore_n 3, 1) := by decide +kernel
theorem dX9_up_25 : decode cX9_up 25 = .ok (.iload_n 2, 1) := by decide +kernel
theorem dX9_up_26 : decode cX9_up 26 = .ok (.ifCond .ne 15, 3) := by decide +kernel
theorem dX9_up_29 : decode cX9_up 29 = .ok (.aload_n 3, 1) := by decide +kernel
theorem dX9_up_30 : decode cX9_up 30 = .ok (.getfield 178, 3) := by decide +kernel
theorem dX9_up_33 : decode cX9_up 33 = .ok (.iload_n 1, 1) := by decide +kernel
theorem dX9_up_34 : decode cX9_up 34 = .ok (.iaload, 1) := by decide +kernel
theorem dX9_up_35 : decode cX9_up 35 = .ok (.invokestatic 181, 3) := by decide +kernel
theorem dX9_up_38 : decode cX9_up 38 = .ok (.goto 12, 3) := by decide +kernel
theorem dX9_up_41 : decode cX9_up 41 = .ok (.aload_n 3, 1) := by decide +kernel
theorem dX9_up_42 : decode cX9_up 42 = .ok (.aload_n 0, 1) := by decide +kernel
theorem dX9_up_43 : decode cX9_up 43 = .ok (.getfield 31, 3) := by decide +kernel
theorem dX9_up_46 : decode cX9_up 46 = .ok (.iload_n 1, 1) := by decide +kernel
theorem dX9_up_47 : decode cX9_up 47 = .ok (.invokevirtual 186, 3) := by decide +kernel
theorem dX9_up_50 : decode cX9_up 50 = .ok (.ireturn, 1) := by decide +kernel
theorem dX9_met_0 : decode cX9_met 0 = .ok (.iload_n 1, 1) := by decide +kernel
theorem dX9_met_1 : decode cX9_met 1 = .ok (.aload_n 0, 1) := by decide +kernel
theorem dX9_met_2 : decode cX9_met 2 = .ok (.getfield 31, 3) := by decide +kernel
theorem dX9_met_5 : decode cX9_met 5 = .ok (.getfield 128, 3) := by decide +kernel
theorem dX9_met_8 : decode cX9_met 8 = .ok (.invokestatic 91, 3) := by decide +kernel
theorem dX9_met_11 : decode cX9_met 11 = .ok (.ifCond .ne 6, 3) := by decide +kernel
theorem dX9_met_14 : decode cX9_met 14 = .ok (.bipush (-2), 2) := by decide +kernel
theorem dX9_met_16 : decode cX9_met 16 = .ok (.ireturn, 1) := by decide +kernel
theorem dX9_met_17 : decode cX9_met 17 = .ok (.aload_n 0, 1) := by decide +kernel
theorem dX9_met_18 : decode cX9_met 18 = .ok (.invokevirtual 163, 3) := by decide +kernel
theorem dX9_met_21 : decode cX9_met 21 = .ok (.getfield 190, 3) := by decide +kernel
theorem dX9_met_24 : decode cX9_met 24 = .ok (.iload_n 1, 1) := by decide +kernel
theorem dX9_met_25 : decode cX9_met 25 = .ok (.iaload, 1) := by decide +kernel
theorem dX9_met_26 : decode cX9_met 26 = .ok (.ireturn, 1) := by decide +kernel
theorem dX9_stood_0 : decode cX9_stood 0 = .ok (.iload_n 1, 1) := by decide +kernel
theorem dX9_stood_1 : decode cX9_stood 1 = .ok (.aload_n 0, 1) := by decide +kernel
theorem dX9_stood_2 : decode cX9_stood 2 = .ok (.getfield 24, 3) := by decide +kernel
theorem dX9_stood_5 : decode cX9_stood 5 = .ok (.getfield 115, 3) := by decide +kernel
theorem dX9_stood_8 : decode cX9_stood 8 = .ok (.invokestatic 91, 3) := by decide +kernel
theorem dX9_stood_11 : decode cX9_stood 11 = .ok (.ifCond .ne 6, 3) := by decide +kernel
theorem dX9_stood_14 : decode cX9_stood 14 = .ok (.bipush (-2), 2) := by decide +kernel
theorem dX9_stood_16 : decode cX9_stood 16 = .ok (.ireturn, 1) := by decide +kernel
theorem dX9_stood_17 : decode cX9_stood 17 = .ok (.aload_n 0, 1) := by decide +kernel
theorem dX9_stood_18 : decode cX9_stood 18 = .ok (.invokevirtual 163, 3) := by decide +kernel
theorem dX9_stood_21 : decode cX9_stood 21 = .ok (.iload_n 1, 1) := by decide +kernel
theorem dX9_stood_22 : decode cX9_stood 22 = .ok (.invokevirtual 193, 3) := by decide +kernel
theorem dX9_stood_25 : decode cX9_stood 25 = .ok (.ireturn, 1) := by decide +kernel
theorem dX9_wrongly_0 : decode cX9_wrongly 0 = .ok (.aload_n 0, 1) := by decide +kernel
theorem dX9_wrongly_1 : decode cX9_wrongly 1 = .ok (.invokevirtual 163, 3) := by decide +kernel
theorem dX9_wrongly_4 : decode cX9_wrongly 4 = .ok (.getfield 196, 3) := by decide +kernel
theorem dX9_wrongly_7 : decode cX9_wrongly 7 = .ok (.ireturn, 1) := by decide +kernel
theorem dX9_first_0 : decode cX9_first 0 = .ok (.iload_n 1, 1) := by decide +kernel
theorem dX9_first_1 : decode cX9_first 1 = .ok (.iconst 2, 1) := by decide +kernel
theorem dX9_first_2 : decode cX9_first 2 = .ok (.invokestatic 91, 3) := by decide +kernel
theorem dX9_first_5 : decode cX9_first 5 = .ok (.ifCond .ne 6, 3) := by decide +kernel
theorem dX9_first_8 : decode cX9_first 8 = .ok (.bipush (-2), 2) := by decide +kernel
theorem dX9_first_10 : decode cX9_first 10 = .ok (.ireturn, 1) := by decide +kernel
theorem dX9_first_11 : decode cX9_first 11 = .ok (.aload_n 0, 1) := by decide +kernel
theorem dX9_first_12 : decode cX9_first 12 = .ok (.invokevirtual 163, 3) := by decide +kernel
theorem dX9_first_15 : decode cX9_first 15 = .ok (.astore_n 2, 1) := by decide +kernel
theorem dX9_first_16 : decode cX9_first 16 = .ok (.aload_n 2, 1) := by decide +kernel
theorem dX9_first_17 : decode cX9_first 17 = .ok (.getfield 199, 3) := by decide +kernel
theorem dX9_first_20 : decode cX9_first 20 = .ok (.ifCond .ne 5, 3) := by decide +kernel
theorem dX9_first_23 : decode cX9_first 23 = .ok (.iconst (-1), 1) := by decide +kernel
theorem dX9_first_24 : decode cX9_first 24 = .ok (.ireturn, 1) := by decide +kernel
theorem dX9_first_25 : decode cX9_first 25 = .ok (.iload_n 1, 1) := by decide +kernel
theorem dX9_first_26 : decode cX9_first 26 = .ok (.ifCond .ne 12, 3) := by decide +kernel
theorem dX9_first_29 : decode cX9_first 29 = .ok (.aload_n 2, 1) := by decide +kernel
theorem dX9_first_30 : decode cX9_first 30 = .ok (.getfield 202, 3) := by decide +kernel
theorem dX9_first_33 : decode cX9_first 33 = .ok (.iconst 0, 1) := by decide +kernel
theorem dX9_first_34 : decode cX9_first 34 = .ok (.iaload, 1) := by decide +kernel
theorem dX9_first_35 : decode cX9_first 35 = .ok (.goto 9, 3) := by decide +kernel
theorem dX9_first_38 : decode cX9_first 38 = .ok (.aload_n 2, 1) := by decide +kernel
theorem dX9_first_39 : decode cX9_first 39 = .ok (.getfield 205, 3) := by decide +kernel
theorem dX9_first_42 : decode cX9_first 42 = .ok (.iconst 0, 1) := by decide +kernel
theorem dX9_first_43 : decode cX9_first 43 = .ok (.iaload, 1) := by decide +kernel
theorem dX9_first_44 : decode cX9_first 44 = .ok (.ireturn, 1) := by decide +kernel
theorem dX9_gate_0 : decode cX9_gate 0 = .ok (.aload_n 0, 1) := by decide +kernel
theorem dX9_gate_1 : decode cX9_gate 1 = .ok (.invokevirtual 163, 3) := by decide +kernel
theorem dX9_gate_4 : decode cX9_gate 4 = .ok (.astore_n 1, 1) := by decide +kernel
theorem dX9_gate_5 : decode cX9_gate 5 = .ok (.iconst (-1), 1) := by decide +kernel
theorem dX9_gate_6 : decode cX9_gate 6 = .ok (.istore_n 2, 1) := by decide +kernel
theorem dX9_gate_7 : decode cX9_gate 7 = .ok (.iconst 0, 1) := by decide +kernel
theorem dX9_gate_8 : decode cX9_gate 8 = .ok (.istore_n 3, 1) := by decide +kernel
theorem dX9_gate_9 : decode cX9_gate 9 = .ok (.iconst 0, 1) := by decide +kernel
theorem dX9_gate_10 : decode cX9_gate 10 = .ok (.istore 4, 2) := by decide +kernel
theorem dX9_gate_12 : decode cX9_gate 12 = .ok (.iload 4, 2) := by decide +kernel
theorem dX9_gate_14 : decode cX9_gate 14 = .ok (.aload_n 0, 1) := by decide +kernel
theorem dX9_gate_15 : decode cX9_gate 15 = .ok (.getfield 24, 3) := by decide +kernel
theorem dX9_gate_18 : decode cX9_gate 18 = .ok (.getfield 115, 3) := by decide +kernel
theorem dX9_gate_21 : decode cX9_gate 21 = .ok (.if_icmp .ge 31, 3) := by decide +kernel
theorem dX9_gate_24 : decode cX9_gate 24 = .ok (.aload_n 1, 1) := by decide +kernel
theorem dX9_gate_25 : decode cX9_gate 25 = .ok (.getfield 208, 3) := by decide +kernel
theorem dX9_gate_28 : decode cX9_gate 28 = .ok (.iload 4, 2) := by decide +kernel
theorem dX9_gate_30 : decode cX9_gate 30 = .ok (.iaload, 1) := by decide +kernel
theorem dX9_gate_31 : decode cX9_gate 31 = .ok (.iload_n 3, 1) := by decide +kernel
theorem dX9_gate_32 : decode cX9_gate 32 = .ok (.if_icmp .le 14, 3) := by decide +kernel
theorem dX9_gate_35 : decode cX9_gate 35 = .ok (.aload_n 1, 1) := by decide +kernel
theorem dX9_gate_36 : decode cX9_gate 36 = .ok (.getfield 208, 3) := by decide +kernel
theorem dX9_gate_39 : decode cX9_gate 39 = .ok (.iload 4, 2) := by decide +kernel
theorem dX9_gate_41 : decode cX9_gate 41 = .ok (.iaload, 1) := by decide +kernel
theorem dX9_gate_42 : decode cX9_gate 42 = .ok (.istore_n 3, 1) := by decide +kernel
theorem dX9_gate_43 : decode cX9_gate 43 = .ok (.iload 4, 2) := by decide +kernel
theorem dX9_gate_45 : decode cX9_gate 45 = .ok (.istore_n 2, 1) := by decide +kernel
theorem dX9_gate_46 : decode cX9_gate 46 = .ok (.iinc 4 1, 3) := by decide +kernel
theorem dX9_gate_49 : decode cX9_gate 49 = .ok (.goto (-37), 3) := by decide +kernel
theorem dX9_gate_52 : decode cX9_gate 52 = .ok (.iload_n 2, 1) := by decide +kernel
theorem dX9_gate_53 : decode cX9_gate 53 = .ok (.ireturn, 1) := by decide +kernel
theorem dX9_rest_0 : decode cX9_rest 0 = .ok (.aload_n 0, 1) := by decide +kernel
theorem dX9_rest_1 : decode cX9_rest 1 = .ok (.invokevirtual 163, 3) := by decide +kernel
theorem dX9_rest_4 : decode cX9_rest 4 = .ok (.astore_n 1, 1) := by decide +kernel
theorem dX9_rest_5 : decode cX9_rest 5 = .ok (.iconst 0, 1) := by decide +kernel
theorem dX9_rest_6 : decode cX9_rest 6 = .ok (.istore_n 2, 1) := by decide +kernel
theorem dX9_rest_7 : decode cX9_rest 7 = .ok (.iconst 0, 1) := by decide +kernel
theorem dX9_rest_8 : decode cX9_rest 8 = .ok (.istore_n 3, 1) := by decide +kernel
theorem dX9_rest_9 : decode cX9_rest 9 = .ok (.iload_n 3, 1) := by decide +kernel
theorem dX9_rest_10 : decode cX9_rest 10 = .ok (.aload_n 0, 1) := by decide +kernel
theorem dX9_rest_11 : decode cX9_rest 11 = .ok (.getfield 24, 3) := by decide +kernel
theorem dX9_rest_14 : decode cX9_rest 14 = .ok (.getfield 115, 3) := by decide +kernel
theorem dX9_rest_17 : decode cX9_rest 17 = .ok (.if_icmp .ge 24, 3) := by decide +kernel
theorem dX9_rest_20 : decode cX9_rest 20 = .ok (.aload_n 1, 1) := by decide +kernel
theorem dX9_rest_21 : decode cX9_rest 21 = .ok (.getfield 208, 3) := by decide +kernel
theorem dX9_rest_24 : decode cX9_rest 24 = .ok (.iload_n 3, 1) := by decide +kernel
theorem dX9_rest_25 : decode cX9_rest 25 = .ok (.iaload, 1) := by decide +kernel
theorem dX9_rest_26 : decode cX9_rest 26 = .ok (.ifCond .ne 9, 3) := by decide +kernel
theorem dX9_rest_29 : decode cX9_rest 29 = .ok (.iload_n 2, 1) := by decide +kernel
theorem dX9_rest_30 : decode cX9_rest 30 = .ok (.iconst 1, 1) := by decide +kernel
theorem dX9_rest_31 : decode cX9_rest 31 = .ok (.iload_n 3, 1) := by decide +kernel
theorem dX9_rest_32 : decode cX9_rest 32 = .ok (.ishl, 1) := by decide +kernel
theorem dX9_rest_33 : decode cX9_rest 33 = .ok (.ior, 1) := by decide +kernel
theorem dX9_rest_34 : decode cX9_rest 34 = .ok (.istore_n 2, 1) := by decide +kernel
theorem dX9_rest_35 : decode cX9_rest 35 = .ok (.iinc 3 1, 3) := by decide +kernel
theorem dX9_rest_38 : decode cX9_rest 38 = .ok (.goto (-29), 3) := by decide +kernel
theorem dX9_rest_41 : decode cX9_rest 41 = .ok (.iload_n 2, 1) := by decide +kernel
theorem dX9_rest_42 : decode cX9_rest 42 = .ok (.ireturn, 1) := by decide +kernel
theorem dX9_plough_0 : decode cX9_plough 0 = .ok (.iload_n 1, 1) := by decide +kernel
theorem dX9_plough_1 : decode cX9_plough 1 = .ok (.bipush 24, 2) := by decide +kernel
theorem dX9_plough_3 : decode cX9_plough 3 = .ok (.invokestatic 91, 3) := by decide +kernel
theorem dX9_plough_6 : decode cX9_plough 6 = .ok (.ifCond .eq 11, 3) := by decide +kernel
theorem dX9_plough_9 : decode cX9_plough 9 = .ok (.iload_n 2, 1) := by decide +kernel
theorem dX9_plough_10 : decode cX9_plough 10 = .ok (.iconst 2, 1) := by decide +kernel
theorem dX9_plough_11 : decode cX9_plough 11 = .ok (.invokestatic 91, 3) := by decide +kernel
theorem dX9_plough_14 : decode cX9_plough 14 = .ok (.ifCond .ne 6, 3) := by decide +kernel
theorem dX9_plough_17 : decode cX9_plough 17 = .ok (.bipush (-2), 2) := by decide +kernel
theorem dX9_plough_19 : decode cX9_plough 19 = .ok (.ireturn, 1) := by decide +kernel
theorem dX9_plough_20 : decode cX9_plough 20 = .ok (.aload_n 0, 1) := by decide +kernel
theorem dX9_plough_21 : decode cX9_plough 21 = .ok (.iload_n 1, 1) := by decide +kernel
theorem dX9_plough_22 : decode cX9_plough 22 = .ok (.invokevirtual 211, 3) := by decide +kernel
theorem dX9_plough_25 : decode cX9_plough 25 = .ok (.istore_n 3, 1) := by decide +kernel
theorem dX9_plough_26 : decode cX9_plough 26 = .ok (.iload_n 2, 1) := by decide +kernel
theorem dX9_plough_27 : decode cX9_plough 27 = .ok (.ifCond .ne 7, 3) := by decide +kernel
theorem dX9_plough_30 : decode cX9_plough 30 = .ok (.iload_n 3, 1) := by decide +kernel
theorem dX9_plough_31 : decode cX9_plough 31 = .ok (.goto 9, 3) := by decide +kernel
theorem dX9_plough_34 : decode cX9_plough 34 = .ok (.aload_n 0, 1) := by decide +kernel
theorem dX9_plough_35 : decode cX9_plough 35 = .ok (.iload_n 1, 1) := by decide +kernel
theorem dX9_plough_36 : decode cX9_plough 36 = .ok (.iload_n 3, 1) := by decide +kernel
theorem dX9_plough_37 : decode cX9_plough 37 = .ok (.invokevirtual 214, 3) := by decide +kernel
theorem dX9_plough_40 : decode cX9_plough 40 = .ok (.ireturn, 1) := by decide +kernel
theorem dX9_lie_0 : decode cX9_lie 0 = .ok (.iload_n 1, 1) := by decide +kernel
theorem dX9_lie_1 : decode cX9_lie 1 = .ok (.aload_n 0, 1) := by decide +kernel
theorem dX9_lie_2 : decode cX9_lie 2 = .ok (.getfield 24, 3) := by decide +kernel
theorem dX9_lie_5 : decode cX9_lie 5 = .ok (.getfield 115, 3) := by decide +kernel
theorem dX9_lie_8 : decode cX9_lie 8 = .ok (.invokestatic 91, 3) := by decide +kernel
theorem dX9_lie_11 : decode cX9_lie 11 = .ok (.ifCond .eq 11, 3) := by decide +kernel
theorem dX9_lie_14 : decode cX9_lie 14 = .ok (.iload_n 2, 1) := by decide +kernel
theorem dX9_lie_15 : decode cX9_lie 15 = .ok (.iconst 3, 1) := by decide +kernel
theorem dX9_lie_16 : decode cX9_lie 16 = .ok (.invokestatic 91, 3) := by decide +kernel
theorem dX9_lie_19 : decode cX9_lie 19 = .ok (.ifCond .ne 6, 3) := by decide +kernel
theorem dX9_lie_22 : decode cX9_lie 22 = .ok (.bipush (-2), 2) := by decide +kernel
theorem dX9_lie_24 : decode cX9_lie 24 = .ok (.ireturn, 1) := by decide +kernel
theorem dX9_lie_25 : decode cX9_lie 25 = .ok (.aload_n 0, 1) := by decide +kernel
theorem dX9_lie_26 : decode cX9_lie 26 = .ok (.iload_n 1, 1) := by decide +kernel
theorem dX9_lie_27 : decode cX9_lie 27 = .ok (.aload_n 0, 1) := by decide +kernel
theorem dX9_lie_28 : decode cX9_lie 28 = .ok (.iload_n 1, 1) := by decide +kernel
theorem dX9_lie_29 : decode cX9_lie 29 = .ok (.invokevirtual 217, 3) := by decide +kernel
theorem dX9_lie_32 : decode cX9_lie 32 = .ok (.iload_n 2, 1) := by decide +kernel
theorem dX9_lie_33 : decode cX9_lie 33 = .ok (.invokevirtual 220, 3) := by decide +kernel
theorem dX9_lie_36 : decode cX9_lie 36 = .ok (.ireturn, 1) := by decide +kernel
theorem dX9_when_0 : decode cX9_when 0 = .ok (.iload_n 1, 1) := by decide +kernel
theorem dX9_when_1 : decode cX9_when 1 = .ok (.bipush 6, 2) := by decide +kernel
theorem dX9_when_3 : decode cX9_when 3 = .ok (.invokestatic 91, 3) := by decide +kernel
theorem dX9_when_6 : decode cX9_when 6 = .ok (.ifCond .eq 11, 3) := by decide +kernel
theorem dX9_when_9 : decode cX9_when 9 = .ok (.iload_n 2, 1) := by decide +kernel
theorem dX9_when_10 : decode cX9_when 10 = .ok (.iconst 2, 1) := by decide +kernel
theorem dX9_when_11 : decode cX9_when 11 = .ok (.invokestatic 91, 3) := by decide +kernel
theorem dX9_when_14 : decode cX9_when 14 = .ok (.ifCond .ne 6, 3) := by decide +kernel
theorem dX9_when_17 : decode cX9_when 17 = .ok (.bipush (-2), 2) := by decide +kernel
theorem dX9_when_19 : decode cX9_when 19 = .ok (.ireturn, 1) := by decide +kernel
theorem dX9_when_20 : decode cX9_when 20 = .ok (.aload_n 0, 1) := by decide +kernel
theorem dX9_when_21 : decode cX9_when 21 = .ok (.iload_n 1, 1) := by decide +kernel
theorem dX9_when_22 : decode cX9_when 22 = .ok (.invokevirtual 223, 3) := by decide +kernel
theorem dX9_when_25 : decode cX9_when 25 = .ok (.istore_n 3, 1) := by decide +kernel
theorem dX9_when_26 : decode cX9_when 26 = .ok (.iload_n 2, 1) := by decide +kernel
theorem dX9_when_27 : decode cX9_when 27 = .ok (.ifCond .ne 7, 3) := by decide +kernel
theorem dX9_when_30 : decode cX9_when 30 = .ok (.iload_n 3, 1) := by decide +kernel
theorem dX9_when_31 : decode cX9_when 31 = .ok (.goto 9, 3) := by decide +kernel
theorem dX9_when_34 : decode cX9_when 34 = .ok (.aload_n 0, 1) := by decide +kernel
theorem dX9_when_35 : decode cX9_when 35 = .ok (.iload_n 3, 1) := by decide +kernel
theorem dX9_when_36 : decode cX9_when 36 = .ok (.iload_n 1, 1) := by decide +kernel
theorem dX9_when_37 : decode cX9_when 37 = .ok (.invokevirtual 214, 3) := by decide +kernel
theorem dX9_when_40 : decode cX9_when 40 = .ok (.ireturn, 1) := by decide +kernel
theorem dX9_spare_0 : decode cX9_spare 0 = .ok (.iload_n 1, 1) := by decide +kernel
theorem dX9_spare_1 : decode cX9_spare 1 = .ok (.iconst (-1), 1) := by decide +kernel
theorem dX9_spare_2 : decode cX9_spare 2 = .ok (.if_icmp .eq 14, 3) := by decide +kernel
theorem dX9_spare_5 : decode cX9_spare 5 = .ok (.iload_n 1, 1) := by decide +kernel
theorem dX9_spare_6 : decode cX9_spare 6 = .ok (.iconst 2, 1) := by decide +kernel
theorem dX9_spare_7 : decode cX9_spare 7 = .ok (.invokestatic 91, 3) := by decide +kernel
theorem dX9_spare_10 : decode cX9_spare 10 = .ok (.ifCond .ne 6, 3) := by decide +kernel
theorem dX9_spare_13 : decode cX9_spare 13 = .ok (.bipush (-2), 2) := by decide +kernel
theorem dX9_spare_15 : decode cX9_spare 15 = .ok (.ireturn, 1) := by decide +kernel
theorem dX9_spare_16 : decode cX9_spare 16 = .ok (.aload_n 0, 1) := by decide +kernel
theorem dX9_spare_17 : decode cX9_spare 17 = .ok (.invokevirtual 226, 3) := by decide +kernel
theorem dX9_spare_20 : decode cX9_spare 20 = .ok (.istore_n 2, 1) := by decide +kernel
theorem dX9_spare_21 : decode cX9_spare 21 = .ok (.iload_n 2, 1) := by decide +kernel
theorem dX9_spare_22 : decode cX9_spare 22 = .ok (.iconst (-1), 1) := by decide +kernel
theorem dX9_spare_23 : decode cX9_spare 23 = .ok (.if_icmp .ne 5, 3) := by decide +kernel
theorem dX9_spare_26 : decode cX9_spare 26 = .ok (.iconst (-1), 1) := by decide +kernel
theorem dX9_spare_27 : decode cX9_spare 27 = .ok (.ireturn, 1) := by decide +kernel
theorem dX9_spare_28 : decode cX9_spare 28 = .ok (.iload_n 1, 1) := by decide +kernel
theorem dX9_spare_29 : decode cX9_spare 29 = .ok (.iconst (-1), 1) := by decide +kernel
theorem dX9_spare_30 : decode cX9_spare 30 = .ok (.if_icmp .ne 10, 3) := by decide +kernel
theorem dX9_spare_33 : decode cX9_spare 33 = .ok (.iload_n 2, 1) := by decide +kernel
theorem dX9_spare_34 : decode cX9_spare 34 = .ok (.invokestatic 181, 3) := by decide +kernel
theorem dX9_spare_37 : decode cX9_spare 37 = .ok (.goto 8, 3) := by decide +kernel
theorem dX9_spare_40 : decode cX9_spare 40 = .ok (.iload_n 2, 1) := by decide +kernel
theorem dX9_spare_41 : decode cX9_spare 41 = .ok (.iload_n 1, 1) := by decide +kernel
theorem dX9_spare_42 : decode cX9_spare 42 = .ok (.invokestatic 230, 3) := by decide +kernel
theorem dX9_spare_45 : decode cX9_spare 45 = .ok (.ireturn, 1) := by decide +kernel
theorem dX9_seen_0 : decode cX9_seen 0 = .ok (.iload_n 1, 1) := by decide +kernel
theorem dX9_seen_1 : decode cX9_seen 1 = .ok (.bipush 24, 2) := by decide +kernel
theorem dX9_seen_3 : decode cX9_seen 3 = .ok (.invokestatic 91, 3) := by decide +kernel
theorem dX9_seen_6 : decode cX9_seen 6 = .ok (.ifCond .eq 20, 3) := by decide +kernel
theorem dX9_seen_9 : decode cX9_seen 9 = .ok (.iload_n 2, 1) := by decide +kernel
theorem dX9_seen_10 : decode cX9_seen 10 = .ok (.bipush 8, 2) := by decide +kernel
theorem dX9_seen_12 : decode cX9_seen 12 = .ok (.invokestatic 91, 3) := by decide +kernel
theorem dX9_seen_15 : decode cX9_seen 15 = .ok (.ifCond .eq 11, 3) := by decide +kernel
theorem dX9_seen_18 : decode cX9_seen 18 = .ok (.iload_n 3, 1) := by decide +kernel
theorem dX9_seen_19 : decode cX9_seen 19 = .ok (.iconst 2, 1) := by decide +kernel
theorem dX9_seen_20 : decode cX9_seen 20 = .ok (.invokestatic 91, 3) := by decide +kernel
theorem dX9_seen_23 : decode cX9_seen 23 = .ok (.ifCond .ne 6, 3) := by decide +kernel
theorem dX9_seen_26 : decode cX9_seen 26 = .ok (.bipush (-2), 2) := by decide +kernel
theorem dX9_seen_28 : decode cX9_seen 28 = .ok (.ireturn, 1) := by decide +kernel
theorem dX9_seen_29 : decode cX9_seen 29 = .ok (.aload_n 0, 1) := by decide +kernel
theorem dX9_seen_30 : decode cX9_seen 30 = .ok (.getfield 48, 3) := by decide +kernel
theorem dX9_seen_33 : decode cX9_seen 33 = .ok (.getfield 233, 3) := by decide +kernel
theorem dX9_seen_36 : decode cX9_seen 36 = .ok (.bipush 8, 2) := by decide +kernel
theorem dX9_seen_38 : decode cX9_seen 38 = .ok (.if_icmp .lt 6, 3) := by decide +kernel
theorem dX9_seen_41 : decode cX9_seen 41 = .ok (.bipush (-4), 2) := by decide +kernel
theorem dX9_seen_43 : decode cX9_seen 43 = .ok (.ireturn, 1) := by decide +kernel
theorem dX9_seen_44 : decode cX9_seen 44 = .ok (.aload_n 0, 1) := by decide +kernel
theorem dX9_seen_45 : decode cX9_seen 45 = .ok (.getfield 48, 3) := by decide +kernel
theorem dX9_seen_48 : decode cX9_seen 48 = .ok (.iload_n 1, 1) := by decide +kernel
theorem dX9_seen_49 : decode cX9_seen 49 = .ok (.iload_n 2, 1) := by decide +kernel
theorem dX9_seen_50 : decode cX9_seen 50 = .ok (.iload_n 3, 1) := by decide +kernel
theorem dX9_seen_51 : decode cX9_seen 51 = .ok (.invokevirtual 234, 3) := by decide +kernel
theorem dX9_seen_54 : decode cX9_seen 54 = .ok (.aload_n 0, 1) := by decide +kernel
theorem dX9_seen_55 : decode cX9_seen 55 = .ok (.getfield 48, 3) := by decide +kernel
theorem dX9_seen_58 : decode cX9_seen 58 = .ok (.getfield 233, 3) := by decide +kernel
theorem dX9_seen_61 : decode cX9_seen 61 = .ok (.ireturn, 1) := by decide +kernel
theorem dX9_forget_0 : decode cX9_forget 0 = .ok (.aload_n 0, 1) := by decide +kernel
theorem dX9_forget_1 : decode cX9_forget 1 = .ok (.getfield 48, 3) := by decide +kernel
theorem dX9_forget_4 : decode cX9_forget 4 = .ok (.getfield 233, 3) := by decide +kernel
theorem dX9_forget_7 : decode cX9_forget 7 = .ok (.istore_n 1, 1) := by decide +kernel
theorem dX9_forget_8 : decode cX9_forget 8 = .ok (.aload_n 0, 1) := by decide +kernel
theorem dX9_forget_9 : decode cX9_forget 9 = .ok (.getfield 48, 3) := by decide +kernel
theorem dX9_forget_12 : decode cX9_forget 12 = .ok (.iconst 0, 1) := by decide +kernel
theorem dX9_forget_13 : decode cX9_forget 13 = .ok (.putfield 233, 3) := by decide +kernel
theorem dX9_forget_16 : decode cX9_forget 16 = .ok (.iload_n 1, 1) := by decide +kernel
theorem dX9_forget_17 : decode cX9_forget 17 = .ok (.ireturn, 1) := by decide +kernel
theorem dX9_never_0 : decode cX9_never 0 = .ok (.iconst 0, 1) := by decide +kernel
theorem dX9_never_1 : decode cX9_never 1 = .ok (.istore_n 1, 1) := by decide +kernel
theorem dX9_never_2 : decode cX9_never 2 = .ok (.iconst 0, 1) := by decide +kernel
theorem dX9_never_3 : decode cX9_never 3 = .ok (.istore_n 2, 1) := by decide +kernel
theorem dX9_never_4 : decode cX9_never 4 = .ok (.iload_n 2, 1) := by decide +kernel
theorem dX9_never_5 : decode cX9_never 5 = .ok (.aload_n 0, 1) := by decide +kernel
theorem dX9_never_6 : decode cX9_never 6 = .ok (.getfield 38, 3) := by decide +kernel
theorem dX9_never_9 : decode cX9_never 9 = .ok (.getfield 138, 3) := by decide +kernel
theorem dX9_never_12 : decode cX9_never 12 = .ok (.if_icmp .ge 60, 3) := by decide +kernel
theorem dX9_never_15 : decode cX9_never 15 = .ok (.aload_n 0, 1) := by decide +kernel
theorem dX9_never_16 : decode cX9_never 16 = .ok (.getfield 59, 3) := by decide +kernel
theorem dX9_never_19 : decode cX9_never 19 = .ok (.aload_n 0, 1) := by decide +kernel
theorem dX9_never_20 : decode cX9_never 20 = .ok (.getfield 24, 3) := by decide +kernel
theorem dX9_never_23 : decode cX9_never 23 = .ok (.aload_n 0, 1) := by decide +kernel
theorem dX9_never_24 : decode cX9_never 24 = .ok (.getfield 31, 3) := by decide +kernel
theorem dX9_never_27 : decode cX9_never 27 = .ok (.aload_n 0, 1) := by decide +kernel
theorem dX9_never_28 : decode cX9_never 28 = .ok (.getfield 38, 3) := by decide +kernel
theorem dX9_never_31 : decode cX9_never 31 = .ok (.iconst 1, 1) := by decide +kernel
theorem dX9_never_32 : decode cX9_never 32 = .ok (.iload_n 2, 1) := by decide +kernel
theorem dX9_never_33 : decode cX9_never 33 = .ok (.ishl, 1) := by decide +kernel
theorem dX9_never_34 : decode cX9_never 34 = .ok (.iconst (-1), 1) := by decide +kernel
theorem dX9_never_35 : decode cX9_never 35 = .ok (.ixor, 1) := by decide +kernel
theorem dX9_never_36 : decode cX9_never 36 = .ok (.invokevirtual 235, 3) := by decide +kernel
theorem dX9_never_39 : decode cX9_never 39 = .ok (.aload_n 0, 1) := by decide +kernel
theorem dX9_never_40 : decode cX9_never 40 = .ok (.getfield 48, 3) := by decide +kernel
theorem dX9_never_43 : decode cX9_never 43 = .ok (.aload_n 0, 1) := by decide +kernel
theorem dX9_never_44 : decode cX9_never 44 = .ok (.getfield 59, 3) := by decide +kernel
theorem dX9_never_47 : decode cX9_never 47 = .ok (.aload_n 0, 1) := by decide +kernel
theorem dX9_never_48 : decode cX9_never 48 = .ok (.getfield 24, 3) := by decide +kernel
theorem dX9_never_51 : decode cX9_never 51 = .ok (.getfield 115, 3) := by decide +kernel
theorem dX9_never_54 : decode cX9_never 54 = .ok (.invokevirtual 239, 3) := by decide +kernel
theorem dX9_never_57 : decode cX9_never 57 = .ok (.ifCond .eq 9, 3) := by decide +kernel
theorem dX9_never_60 : decode cX9_never 60 = .ok (.iload_n 1, 1) := by decide +kernel
theorem dX9_never_61 : decode cX9_never 61 = .ok (.iconst 1, 1) := by decide +kernel
theorem dX9_never_62 : decode cX9_never 62 = .ok (.iload_n 2, 1) := by decide +kernel
theorem dX9_never_63 : decode cX9_never 63 = .ok (.ishl, 1) := by decide +kernel
theorem dX9_never_64 : decode cX9_never 64 = .ok (.ior, 1) := by decide +kernel
theorem dX9_never_65 : decode cX9_never 65 = .ok (.istore_n 1, 1) := by decide +kernel
theorem dX9_never_66 : decode cX9_never 66 = .ok (.iinc 2 1, 3) := by decide +kernel
theorem dX9_never_69 : decode cX9_never 69 = .ok (.goto (-65), 3) := by decide +kernel
theorem dX9_never_72 : decode cX9_never 72 = .ok (.iload_n 1, 1) := by decide +kernel
theorem dX9_never_73 : decode cX9_never 73 = .ok (.ireturn, 1) := by decide +kernel
theorem dX9_was_0 : decode cX9_was 0 = .ok (.iload_n 1, 1) := by decide +kernel
theorem dX9_was_1 : decode cX9_was 1 = .ok (.aload_n 0, 1) := by decide +kernel
theorem dX9_was_2 : decode cX9_was 2 = .ok (.getfield 24, 3) := by decide +kernel
theorem dX9_was_5 : decode cX9_was 5 = .ok (.getfield 115, 3) := by decide +kernel
theorem dX9_was_8 : decode cX9_was 8 = .ok (.invokestatic 91, 3) := by decide +kernel
theorem dX9_was_11 : decode cX9_was 11 = .ok (.ifCond .eq 11, 3) := by decide +kernel
theorem dX9_was_14 : decode cX9_was 14 = .ok (.iload_n 2, 1) := by decide +kernel
theorem dX9_was_15 : decode cX9_was 15 = .ok (.iconst 2, 1) := by decide +kernel
theorem dX9_was_16 : decode cX9_was 16 = .ok (.invokestatic 91, 3) := by decide +kernel
theorem dX9_was_19 : decode cX9_was 19 = .ok (.ifCond .ne 6, 3) := by decide +kernel
theorem dX9_was_22 : decode cX9_was 22 = .ok (.bipush (-2), 2) := by decide +kernel
theorem dX9_was_24 : decode cX9_was 24 = .ok (.ireturn, 1) := by decide +kernel
theorem dX9_was_25 : decode cX9_was 25 = .ok (.iload_n 2, 1) := by decide +kernel
theorem dX9_was_26 : decode cX9_was 26 = .ok (.ifCond .ne 11, 3) := by decide +kernel
theorem dX9_was_29 : decode cX9_was 29 = .ok (.aload_n 0, 1) := by decide +kernel
theorem dX9_was_30 : decode cX9_was 30 = .ok (.iload_n 1, 1) := by decide +kernel
theorem dX9_was_31 : decode cX9_was 31 = .ok (.invokevirtual 243, 3) := by decide +kernel
theorem dX9_was_34 : decode cX9_was 34 = .ok (.goto 8, 3) := by decide +kernel
theorem dX9_was_37 : decode cX9_was 37 = .ok (.aload_n 0, 1) := by decide +kernel
theorem dX9_was_38 : decode cX9_was 38 = .ok (.iload_n 1, 1) := by decide +kernel
theorem dX9_was_39 : decode cX9_was 39 = .ok (.invokevirtual 246, 3) := by decide +kernel
theorem dX9_was_42 : decode cX9_was 42 = .ok (.ireturn, 1) := by decide +kernel
theorem dX9_ask_0 : decode cX9_ask 0 = .ok (.iload_n 1, 1) := by decide +kernel
theorem dX9_ask_1 : decode cX9_ask 1 = .ok (.aload_n 0, 1) := by decide +kernel
theorem dX9_ask_2 : decode cX9_ask 2 = .ok (.getfield 24, 3) := by decide +kernel
theorem dX9_ask_5 : decode cX9_ask 5 = .ok (.getfield 115, 3) := by decide +kernel
theorem dX9_ask_8 : decode cX9_ask 8 = .ok (.invokestatic 91, 3) := by decide +kernel
theorem dX9_ask_11 : decode cX9_ask 11 = .ok (.ifCond .ne 6, 3) := by decide +kernel
theorem dX9_ask_14 : decode cX9_ask 14 = .ok (.bipush (-2), 2) := by decide +kernel
theorem dX9_ask_16 : decode cX9_ask 16 = .ok (.ireturn, 1) := by decide +kernel
theorem dX9_ask_17 : decode cX9_ask 17 = .ok (.aload_n 0, 1) := by decide +kernel
theorem dX9_ask_18 : decode cX9_ask 18 = .ok (.iload_n 1, 1) := by decide +kernel
theorem dX9_ask_19 : decode cX9_ask 19 = .ok (.invokevirtual 246, 3) := by decide +kernel
theorem dX9_ask_22 : decode cX9_ask 22 = .ok (.invokestatic 181, 3) := by decide +kernel
theorem dX9_ask_25 : decode cX9_ask 25 = .ok (.istore_n 2, 1) := by decide +kernel
theorem dX9_ask_26 : decode cX9_ask 26 = .ok (.iconst 0, 1) := by decide +kernel
theorem dX9_ask_27 : decode cX9_ask 27 = .ok (.istore_n 3, 1) := by decide +kernel
theorem dX9_ask_28 : decode cX9_ask 28 = .ok (.bipush 10, 2) := by decide +kernel
theorem dX9_ask_30 : decode cX9_ask 30 = .ok (.istore 4, 2) := by decide +kernel
theorem dX9_ask_32 : decode cX9_ask 32 = .ok (.iconst 0, 1) := by decide +kernel
theorem dX9_ask_33 : decode cX9_ask 33 = .ok (.istore 5, 2) := by decide +kernel
theorem dX9_ask_35 : decode cX9_ask 35 = .ok (.iload 5, 2) := by decide +kernel
theorem dX9_ask_37 : decode cX9_ask 37 = .ok (.bipush 24, 2) := by decide +kernel
theorem dX9_ask_39 : decode cX9_ask 39 = .ok (.if_icmp .ge 32, 3) := by decide +kernel
theorem dX9_ask_42 : decode cX9_ask 42 = .ok (.aload_n 0, 1) := by decide +kernel
theorem dX9_ask_43 : decode cX9_ask 43 = .ok (.iload 5, 2) := by decide +kernel
theorem dX9_ask_45 : decode cX9_ask 45 = .ok (.iload_n 2, 1) := by decide +kernel
theorem dX9_ask_46 : decode cX9_ask 46 = .ok (.invokevirtual 249, 3) := by decide +kernel
theorem dX9_ask_49 : decode cX9_ask 49 = .ok (.istore 6, 2) := by decide +kernel
theorem dX9_ask_51 : decode cX9_ask 51 = .ok (.iload 6, 2) := by decide +kernel
theorem dX9_ask_53 : decode cX9_ask 53 = .ok (.iload 4, 2) := by decide +kernel
theorem dX9_ask_55 : decode cX9_ask 55 = .ok (.if_icmp .ge 10, 3) := by decide +kernel
theorem dX9_ask_58 : decode cX9_ask 58 = .ok (.iload 6, 2) := by decide +kernel
theorem dX9_ask_60 : decode cX9_ask 60 = .ok (.istore 4, 2) := by decide +kernel
theorem dX9_ask_62 : decode cX9_ask 62 = .ok (.iload 5, 2) := by decide +kernel
theorem dX9_ask_64 : decode cX9_ask 64 = .ok (.istore_n 3, 1) := by decide +kernel
theorem dX9_ask_65 : decode cX9_ask 65 = .ok (.iinc 5 1, 3) := by decide +kernel
theorem dX9_ask_68 : decode cX9_ask 68 = .ok (.goto (-33), 3) := by decide +kernel
theorem dX9_ask_71 : decode cX9_ask 71 = .ok (.iload_n 3, 1) := by decide +kernel
theorem dX9_ask_72 : decode cX9_ask 72 = .ok (.ireturn, 1) := by decide +kernel
theorem dX9_chance_0 : decode cX9_chance 0 = .ok (.iload_n 1, 1) := by decide +kernel
theorem dX9_chance_1 : decode cX9_chance 1 = .ok (.bipush 17, 2) := by decide +kernel
theorem dX9_chance_3 : decode cX9_chance 3 = .ok (.invokestatic 91, 3) := by decide +kernel
theorem dX9_chance_6 : decode cX9_chance 6 = .ok (.ifCond .eq 25, 3) := by decide +kernel
theorem dX9_chance_9 : decode cX9_chance 9 = .ok (.iload_n 2, 1) := by decide +kernel
theorem dX9_chance_10 : decode cX9_chance 10 = .ok (.aload_n 0, 1) := by decide +kernel
theorem dX9_chance_11 : decode cX9_chance 11 = .ok (.getfield 31, 3) := by decide +kernel
theorem dX9_chance_14 : decode cX9_chance 14 = .ok (.getfield 128, 3) := by decide +kernel
theorem dX9_chance_17 : decode cX9_chance 17 = .ok (.invokestatic 91, 3) := by decide +kernel
theorem dX9_chance_20 : decode cX9_chance 20 = .ok (.ifCond .eq 11, 3) := by decide +kernel
theorem dX9_chance_23 : decode cX9_chance 23 = .ok (.iload_n 3, 1) := by decide +kernel
theorem dX9_chance_24 : decode cX9_chance 24 = .ok (.iconst 2, 1) := by decide +kernel
theorem dX9_chance_25 : decode cX9_chance 25 = .ok (.invokestatic 91, 3) := by decide +kernel
theorem dX9_chance_28 : decode cX9_chance 28 = .ok (.ifCond .ne 7, 3) := by decide +kernel
theorem dX9_chance_31 : decode cX9_chance 31 = .ok (.ldc2_w 252, 3) := by decide +kernel
theorem dX9_chance_34 : decode cX9_chance 34 = .ok (.lreturn, 1) := by decide +kernel
theorem dX9_chance_35 : decode cX9_chance 35 = .ok (.aload_n 0, 1) := by decide +kernel
theorem dX9_chance_36 : decode cX9_chance 36 = .ok (.getfield 83, 3) := by decide +kernel
theorem dX9_chance_39 : decode cX9_chance 39 = .ok (.ifCond .eq 31, 3) := by decide +kernel
theorem dX9_chance_42 : decode cX9_chance 42 = .ok (.aload_n 0, 1) := by decide +kernel
theorem dX9_chance_43 : decode cX9_chance 43 = .ok (.getfield 65, 3) := by decide +kernel
theorem dX9_chance_46 : decode cX9_chance 46 = .ok (.aload_n 0, 1) := by decide +kernel
theorem dX9_chance_47 : decode cX9_chance 47 = .ok (.getfield 24, 3) := by decide +kernel
theorem dX9_chance_50 : decode cX9_chance 50 = .ok (.aload_n 0, 1) := by decide +kernel
theorem dX9_chance_51 : decode cX9_chance 51 = .ok (.getfield 31, 3) := by decide +kernel
theorem dX9_chance_54 : decode cX9_chance 54 = .ok (.aload_n 0, 1) := by decide +kernel
theorem dX9_chance_55 : decode cX9_chance 55 = .ok (.getfield 38, 3) := by decide +kernel
theorem dX9_chance_58 : decode cX9_chance 58 = .ok (.aload_n 0, 1) := by decide +kernel
theorem dX9_chance_59 : decode cX9_chance 59 = .ok (.getfield 59, 3) := by decide +kernel
theorem dX9_chance_62 : decode cX9_chance 62 = .ok (.invokevirtual 254, 3) := by decide +kernel
theorem dX9_chance_65 : decode cX9_chance 65 = .ok (.aload_n 0, 1) := by decide +kernel
theorem dX9_chance_66 : decode cX9_chance 66 = .ok (.iconst 0, 1) := by decide +kernel
theorem dX9_chance_67 : decode cX9_chance 67 = .ok (.putfield 83, 3) := by decide +kernel
theorem dX9_chance_70 : decode cX9_chance 70 = .ok (.aload_n 0, 1) := by decide +kernel
theorem dX9_chance_71 : decode cX9_chance 71 = .ok (.getfield 65, 3) := by decide +kernel
theorem dX9_chance_74 : decode cX9_chance 74 = .ok (.iload_n 2, 1) := by decide +kernel
theorem dX9_chance_75 : decode cX9_chance 75 = .ok (.iload_n 1, 1) := by decide +kernel
theorem dX9_chance_76 : decode cX9_chance 76 = .ok (.aload_n 0, 1) := by decide +kernel
theorem dX9_chance_77 : decode cX9_chance 77 = .ok (.getfield 38, 3) := by decide +kernel
theorem dX9_chance_80 : decode cX9_chance 80 = .ok (.getfield 138, 3) := by decide +kernel
theorem dX9_chance_83 : decode cX9_chance 83 = .ok (.iload_n 3, 1) := by decide +kernel
theorem dX9_chance_84 : decode cX9_chance 84 = .ok (.invokevirtual 258, 3) := by decide +kernel
theorem dX9_chance_87 : decode cX9_chance 87 = .ok (.lreturn, 1) := by decide +kernel
theorem dX9_years_0 : decode cX9_years 0 = .ok (.iload_n 2, 1) := by decide +kernel
theorem dX9_years_1 : decode cX9_years 1 = .ok (.bipush 9, 2) := by decide +kernel
theorem dX9_years_3 : decode cX9_years 3 = .ok (.invokestatic 91, 3) := by decide +kernel
theorem dX9_years_6 : decode cX9_years 6 = .ok (.ifCond .eq 11, 3) := by decide +kernel
theorem dX9_years_9 : decode cX9_years 9 = .ok (.iload_n 3, 1) := by decide +kernel
theorem dX9_years_10 : decode cX9_years 10 = .ok (.iconst 2, 1) := by decide +kernel
theorem dX9_years_11 : decode cX9_years 11 = .ok (.invokestatic 91, 3) := by decide +kernel
theorem dX9_years_14 : decode cX9_years 14 = .ok (.ifCond .ne 6, 3) := by decide +kernel
theorem dX9_years_17 : decode cX9_years 17 = .ok (.bipush (-2), 2) := by decide +kernel
theorem dX9_years_19 : decode cX9_years 19 = .ok (.ireturn, 1) := by decide +kernel
theorem dX9_years_20 : decode cX9_years 20 = .ok (.aload_n 0, 1) := by decide +kernel
theorem dX9_years_21 : decode cX9_years 21 = .ok (.iload_n 1, 1) := by decide +kernel
theorem dX9_years_22 : decode cX9_years 22 = .ok (.iload_n 2, 1) := by decide +kernel
theorem dX9_years_23 : decode cX9_years 23 = .ok (.invokevirtual 262, 3) := by decide +kernel
theorem dX9_years_26 : decode cX9_years 26 = .ok (.aload_n 0, 1) := by decide +kernel
theorem dX9_years_27 : decode cX9_years 27 = .ok (.getfield 59, 3) := by decide +kernel
theorem dX9_years_30 : decode cX9_years 30 = .ok (.aload_n 0, 1) := by decide +kernel
theorem dX9_years_31 : decode cX9_years 31 = .ok (.getfield 24, 3) := by decide +kernel
theorem dX9_years_34 : decode cX9_years 34 = .ok (.aload_n 0, 1) := by decide +kernel
theorem dX9_years_35 : decode cX9_years 35 = .ok (.getfield 31, 3) := by decide +kernel
theorem dX9_years_38 : decode cX9_years 38 = .ok (.aload_n 0, 1) := by decide +kernel
theorem dX9_years_39 : decode cX9_years 39 = .ok (.getfield 42, 3) := by decide +kernel
theorem dX9_years_42 : decode cX9_years 42 = .ok (.iconst (-1), 1) := by decide +kernel
theorem dX9_years_43 : decode cX9_years 43 = .ok (.invokevirtual 235, 3) := by decide +kernel
theorem dX9_years_46 : decode cX9_years 46 = .ok (.iload_n 3, 1) := by decide +kernel
theorem dX9_years_47 : decode cX9_years 47 = .ok (.ifCond .ne 17, 3) := by decide +kernel
theorem dX9_years_50 : decode cX9_years 50 = .ok (.aload_n 0, 1) := by decide +kernel
theorem dX9_years_51 : decode cX9_years 51 = .ok (.getfield 59, 3) := by decide +kernel
theorem dX9_years_54 : decode cX9_years 54 = .ok (.aload_n 0, 1) := by decide +kernel
theorem dX9_years_55 : decode cX9_years 55 = .ok (.getfield 31, 3) := by decide +kernel
theorem dX9_years_58 : decode cX9_years 58 = .ok (.invokevirtual 266, 3) := by decide +kernel
theorem dX9_years_61 : decode cX9_years 61 = .ok (.goto 10, 3) := by decide +kernel
theorem dX9_years_64 : decode cX9_years 64 = .ok (.aload_n 0, 1) := by decide +kernel
theorem dX9_years_65 : decode cX9_years 65 = .ok (.getfield 59, 3) := by decide +kernel
theorem dX9_years_68 : decode cX9_years 68 = .ok (.getfield 196, 3) := by decide +kernel
theorem dX9_years_71 : decode cX9_years 71 = .ok (.ireturn, 1) := by decide +kernel
theorem dX9_sheet_0 : decode cX9_sheet 0 = .ok (.iload_n 1, 1) := by decide +kernel
theorem dX9_sheet_1 : decode cX9_sheet 1 = .ok (.iconst 4, 1) := by decide +kernel
theorem dX9_sheet_2 : decode cX9_sheet 2 = .ok (.invokestatic 91, 3) := by decide +kernel
theorem dX9_sheet_5 : decode cX9_sheet 5 = .ok (.ifCond .eq 17, 3) := by decide +kernel
theorem dX9_sheet_8 : decode cX9_sheet 8 = .ok (.iload_n 2, 1) := by decide +kernel
theorem dX9_sheet_9 : decode cX9_sheet 9 = .ok (.iconst 3, 1) := by decide +kernel
theorem dX9_sheet_10 : decode cX9_sheet 10 = .ok (.invokestatic 91, 3) := by decide +kernel
theorem dX9_sheet_13 : decode cX9_sheet 13 = .ok (.ifCond .eq 9, 3) := by decide +kernel
theorem dX9_sheet_16 : decode cX9_sheet 16 = .ok (.iload_n 3, 1) := by decide +kernel
theorem dX9_sheet_17 : decode cX9_sheet 17 = .ok (.bipush 60, 2) := by decide +kernel
theorem dX9_sheet_19 : decode cX9_sheet 19 = .ok (.if_icmp .le 6, 3) := by decide +kernel
theorem dX9_sheet_22 : decode cX9_sheet 22 = .ok (.bipush (-2), 2) := by decide +kernel
theorem dX9_sheet_24 : decode cX9_sheet 24 = .ok (.ireturn, 1) := by decide +kernel
theorem dX9_sheet_25 : decode cX9_sheet 25 = .ok (.iload_n 3, 1) := by decide +kernel
theorem dX9_sheet_26 : decode cX9_sheet 26 = .ok (.ifCond .ge 9, 3) := by decide +kernel
theorem dX9_sheet_29 : decode cX9_sheet 29 = .ok (.aload_n 0, 1) := by decide +kernel
theorem dX9_sheet_30 : decode cX9_sheet 30 = .ok (.iconst 5, 1) := by decide +kernel
theorem dX9_sheet_31 : decode cX9_sheet 31 = .ok (.invokevirtual 151, 3) := by decide +kernel
theorem dX9_sheet_34 : decode cX9_sheet 34 = .ok (.ireturn, 1) := by decide +kernel
theorem dX9_sheet_35 : decode cX9_sheet 35 = .ok (.aload_n 0, 1) := by decide +kernel
theorem dX9_sheet_36 : decode cX9_sheet 36 = .ok (.getfield 75, 3) := by decide +kernel
theorem dX9_sheet_39 : decode cX9_sheet 39 = .ok (.iload_n 1, 1) := by decide +kernel
theorem dX9_sheet_40 : decode cX9_sheet 40 = .ok (.aaload, 1) := by decide +kernel
theorem dX9_sheet_41 : decode cX9_sheet 41 = .ok (.iload_n 2, 1) := by decide +kernel
theorem dX9_sheet_42 : decode cX9_sheet 42 = .ok (.iload_n 3, 1) := by decide +kernel
theorem dX9_sheet_43 : decode cX9_sheet 43 = .ok (.invokevirtual 270, 3) := by decide +kernel
theorem dX9_sheet_46 : decode cX9_sheet 46 = .ok (.iload_n 3, 1) := by decide +kernel
theorem dX9_sheet_47 : decode cX9_sheet 47 = .ok (.ireturn, 1) := by decide +kernel
theorem dX9_lose_0 : decode cX9_lose 0 = .ok (.iload_n 1, 1) := by decide +kernel
theorem dX9_lose_1 : decode cX9_lose 1 = .ok (.iconst 4, 1) := by decide +kernel
theorem dX9_lose_2 : decode cX9_lose 2 = .ok (.invokestatic 91, 3) := by decide +kernel
theorem dX9_lose_5 : decode cX9_lose 5 = .ok (.ifCond .ne 6, 3) := by decide +kernel
theorem dX9_lose_8 : decode cX9_lose 8 = .ok (.bipush (-2), 2) := by decide +kernel
theorem dX9_lose_10 : decode cX9_lose 10 = .ok (.ireturn, 1) := by decide +kernel
theorem dX9_lose_11 : decode cX9_lose 11 = .ok (.aload_n 0, 1) := by decide +kernel
theorem dX9_lose_12 : decode cX9_lose 12 = .ok (.getfield 75, 3) := by decide +kernel
theorem dX9_lose_15 : decode cX9_lose 15 = .ok (.iload_n 1, 1) := by decide +kernel
theorem dX9_lose_16 : decode cX9_lose 16 = .ok (.aaload, 1) := by decide +kernel
theorem dX9_lose_17 : decode cX9_lose 17 = .ok (.astore_n 2, 1) := by decide +kernel
theorem dX9_lose_18 : decode cX9_lose 18 = .ok (.aload_n 2, 1) := by decide +kernel
theorem dX9_lose_19 : decode cX9_lose 19 = .ok (.getfield 148, 3) := by decide +kernel
theorem dX9_lose_22 : decode cX9_lose 22 = .ok (.iconst (-1), 1) := by decide +kernel
theorem dX9_lose_23 : decode cX9_lose 23 = .ok (.if_icmp .ne 9, 3) := by decide +kernel
theorem dX9_lose_26 : decode cX9_lose 26 = .ok (.aload_n 0, 1) := by decide +kernel
theorem dX9_lose_27 : decode cX9_lose 27 = .ok (.iconst 1, 1) := by decide +kernel
theorem dX9_lose_28 : decode cX9_lose 28 = .ok (.invokevirtual 151, 3) := by decide +kernel
theorem dX9_lose_31 : decode cX9_lose 31 = .ok (.ireturn, 1) := by decide +kernel
theorem dX9_lose_32 : decode cX9_lose 32 = .ok (.aload_n 2, 1) := by decide +kernel
theorem dX9_lose_33 : decode cX9_lose 33 = .ok (.getfield 155, 3) := by decide +kernel
theorem dX9_lose_36 : decode cX9_lose 36 = .ok (.istore_n 3, 1) := by decide +kernel
theorem dX9_lose_37 : decode cX9_lose 37 = .ok (.aload_n 2, 1) := by decide +kernel
theorem dX9_lose_38 : decode cX9_lose 38 = .ok (.iconst (-1), 1) := by decide +kernel
theorem dX9_lose_39 : decode cX9_lose 39 = .ok (.putfield 148, 3) := by decide +kernel
theorem dX9_lose_42 : decode cX9_lose 42 = .ok (.aload_n 2, 1) := by decide +kernel
theorem dX9_lose_43 : decode cX9_lose 43 = .ok (.iconst 0, 1) := by decide +kernel
theorem dX9_lose_44 : decode cX9_lose 44 = .ok (.putfield 155, 3) := by decide +kernel
theorem dX9_lose_47 : decode cX9_lose 47 = .ok (.iload_n 3, 1) := by decide +kernel
theorem dX9_lose_48 : decode cX9_lose 48 = .ok (.ireturn, 1) := by decide +kernel
theorem dX9_put_0 : decode cX9_put 0 = .ok (.aload_n 0, 1) := by decide +kernel
theorem dX9_put_1 : decode cX9_put 1 = .ok (.iload_n 1, 1) := by decide +kernel
theorem dX9_put_2 : decode cX9_put 2 = .ok (.iload_n 2, 1) := by decide +kernel
theorem dX9_put_3 : decode cX9_put 3 = .ok (.iload_n 3, 1) := by decide +kernel
theorem dX9_put_4 : decode cX9_put 4 = .ok (.invokevirtual 273, 3) := by decide +kernel
theorem dX9_put_7 : decode cX9_put 7 = .ok (.istore 5, 2) := by decide +kernel
theorem dX9_put_9 : decode cX9_put 9 = .ok (.iload 5, 2) := by decide +kernel
theorem dX9_put_11 : decode cX9_put 11 = .ok (.ifCond .eq 6, 3) := by decide +kernel
theorem dX9_put_14 : decode cX9_put 14 = .ok (.iload 5, 2) := by decide +kernel
theorem dX9_put_16 : decode cX9_put 16 = .ok (.ireturn, 1) := by decide +kernel
theorem dX9_put_17 : decode cX9_put 17 = .ok (.aload_n 0, 1) := by decide +kernel
theorem dX9_put_18 : decode cX9_put 18 = .ok (.getfield 75, 3) := by decide +kernel
theorem dX9_put_21 : decode cX9_put 21 = .ok (.iload_n 1, 1) := by decide +kernel
theorem dX9_put_22 : decode cX9_put 22 = .ok (.aaload, 1) := by decide +kernel
theorem dX9_put_23 : decode cX9_put 23 = .ok (.iload_n 3, 1) := by decide +kernel
theorem dX9_put_24 : decode cX9_put 24 = .ok (.iload 4, 2) := by decide +kernel
theorem dX9_put_26 : decode cX9_put 26 = .ok (.invokevirtual 276, 3) := by decide +kernel
theorem dX9_put_29 : decode cX9_put 29 = .ok (.iconst 1, 1) := by decide +kernel
theorem dX9_put_30 : decode cX9_put 30 = .ok (.ireturn, 1) := by decide +kernel
theorem dX9_get_0 : decode cX9_get 0 = .ok (.aload_n 0, 1) := by decide +kernel
theorem dX9_get_1 : decode cX9_get 1 = .ok (.iload_n 1, 1) := by decide +kernel
theorem dX9_get_2 : decode cX9_get 2 = .ok (.iload_n 2, 1) := by decide +kernel
theorem dX9_get_3 : decode cX9_get 3 = .ok (.iload_n 3, 1) := by decide +kernel
theorem dX9_get_4 : decode cX9_get 4 = .ok (.invokevirtual 273, 3) := by decide +kernel
theorem dX9_get_7 : decode cX9_get 7 = .ok (.ifCond .eq 7, 3) := by decide +kernel
theorem dX9_get_10 : decode cX9_get 10 = .ok (.ldc_w 279, 3) := by decide +kernel
theorem dX9_get_13 : decode cX9_get 13 = .ok (.ireturn, 1) := by decide +kernel
theorem dX9_get_14 : decode cX9_get 14 = .ok (.aload_n 0, 1) := by decide +kernel
theorem dX9_get_15 : decode cX9_get 15 = .ok (.getfield 75, 3) := by decide +kernel
theorem dX9_get_18 : decode cX9_get 18 = .ok (.iload_n 1, 1) := by decide +kernel
theorem dX9_get_19 : decode cX9_get 19 = .ok (.aaload, 1) := by decide +kernel
theorem dX9_get_20 : decode cX9_get 20 = .ok (.getfield 156, 3) := by decide +kernel
theorem dX9_get_23 : decode cX9_get 23 = .ok (.iload_n 3, 1) := by decide +kernel
theorem dX9_get_24 : decode cX9_get 24 = .ok (.iaload, 1) := by decide +kernel
theorem dX9_get_25 : decode cX9_get 25 = .ok (.ireturn, 1) := by decide +kernel
theorem dX9_copy_0 : decode cX9_copy 0 = .ok (.iload_n 1, 1) := by decide +kernel
theorem dX9_copy_1 : decode cX9_copy 1 = .ok (.iconst 4, 1) := by decide +kernel
theorem dX9_copy_2 : decode cX9_copy 2 = .ok (.invokestatic 91, 3) := by decide +kernel
theorem dX9_copy_5 : decode cX9_copy 5 = .ok (.ifCond .eq 11, 3) := by decide +kernel
theorem dX9_copy_8 : decode cX9_copy 8 = .ok (.iload_n 3, 1) := by decide +kernel
theorem dX9_copy_9 : decode cX9_copy 9 = .ok (.iconst 4, 1) := by decide +kernel
theorem dX9_copy_10 : decode cX9_copy 10 = .ok (.invokestatic 91, 3) := by decide +kernel
theorem dX9_copy_13 : decode cX9_copy 13 = .ok (.ifCond .ne 6, 3) := by decide +kernel
theorem dX9_copy_16 : decode cX9_copy 16 = .ok (.bipush (-2), 2) := by decide +kernel
theorem dX9_copy_18 : decode cX9_copy 18 = .ok (.ireturn, 1) := by decide +kernel
theorem dX9_copy_19 : decode cX9_copy 19 = .ok (.aload_n 0, 1) := by decide +kernel
theorem dX9_copy_20 : decode cX9_copy 20 = .ok (.getfield 75, 3) := by decide +kernel
theorem dX9_copy_23 : decode cX9_copy 23 = .ok (.iload_n 1, 1) := by decide +kernel
theorem dX9_copy_24 : decode cX9_copy 24 = .ok (.aaload, 1) := by decide +kernel
theorem dX9_copy_25 : decode cX9_copy 25 = .ok (.astore 6, 2) := by decide +kernel
theorem dX9_copy_27 : decode cX9_copy 27 = .ok (.aload_n 0, 1) := by decide +kernel
theorem dX9_copy_28 : decode cX9_copy 28 = .ok (.getfield 75, 3) := by decide +kernel
theorem dX9_copy_31 : decode cX9_copy 31 = .ok (.iload_n 3, 1) := by decide +kernel
theorem dX9_copy_32 : decode cX9_copy 32 = .ok (.aaload, 1) := by decide +kernel
theorem dX9_copy_33 : decode cX9_copy 33 = .ok (.astore 7, 2) := by decide +kernel
theorem dX9_copy_35 : decode cX9_copy 35 = .ok (.aload 6, 2) := by decide +kernel
theorem dX9_copy_37 : decode cX9_copy 37 = .ok (.getfield 148, 3) := by decide +kernel
theorem dX9_copy_40 : decode cX9_copy 40 = .ok (.iconst (-1), 1) := by decide +kernel
theorem dX9_copy_41 : decode cX9_copy 41 = .ok (.if_icmp .eq 12, 3) := by decide +kernel
theorem dX9_copy_44 : decode cX9_copy 44 = .ok (.aload 7, 2) := by decide +kernel
theorem dX9_copy_46 : decode cX9_copy 46 = .ok (.getfield 148, 3) := by decide +kernel
theorem dX9_copy_49 : decode cX9_copy 49 = .ok (.iconst (-1), 1) := by decide +kernel
theorem dX9_copy_50 : decode cX9_copy 50 = .ok (.if_icmp .ne 9, 3) := by decide +kernel
theorem dX9_copy_53 : decode cX9_copy 53 = .ok (.aload_n 0, 1) := by decide +kernel
theorem dX9_copy_54 : decode cX9_copy 54 = .ok (.iconst 1, 1) := by decide +kernel
theorem dX9_copy_55 : decode cX9_copy 55 = .ok (.invokevirtual 151, 3) := by decide +kernel
theorem dX9_copy_58 : decode cX9_copy 58 = .ok (.ireturn, 1) := by decide +kernel
theorem dX9_copy_59 : decode cX9_copy 59 = .ok (.aload 6, 2) := by decide +kernel
theorem dX9_copy_61 : decode cX9_copy 61 = .ok (.getfield 148, 3) := by decide +kernel
theorem dX9_copy_64 : decode cX9_copy 64 = .ok (.aload 7, 2) := by decide +kernel
theorem dX9_copy_66 : decode cX9_copy 66 = .ok (.getfield 148, 3) := by decide +kernel
theorem dX9_copy_69 : decode cX9_copy 69 = .ok (.if_icmp .eq 9, 3) := by decide +kernel
theorem dX9_copy_72 : decode cX9_copy 72 = .ok (.aload_n 0, 1) := by decide +kernel
theorem dX9_copy_73 : decode cX9_copy 73 = .ok (.iconst 4, 1) := by decide +kernel
theorem dX9_copy_74 : decode cX9_copy 74 = .ok (.invokevirtual 151, 3) := by decide +kernel
theorem dX9_copy_77 : decode cX9_copy 77 = .ok (.ireturn, 1) := by decide +kernel
theorem dX9_copy_78 : decode cX9_copy 78 = .ok (.aload 6, 2) := by decide +kernel
theorem dX9_copy_80 : decode cX9_copy 80 = .ok (.iload_n 2, 1) := by decide +kernel
theorem dX9_copy_81 : decode cX9_copy 81 = .ok (.iload 5, 2) := by decide +kernel
theorem dX9_copy_83 : decode cX9_copy 83 = .ok (.invokevirtual 280, 3) := by decide +kernel
theorem dX9_copy_86 : decode cX9_copy 86 = .ok (.ifCond .eq 15, 3) := by decide +kernel
theorem dX9_copy_89 : decode cX9_copy 89 = .ok (.aload 7, 2) := by decide +kernel
theorem dX9_copy_91 : decode cX9_copy 91 = .ok (.iload 4, 2) := by decide +kernel
theorem dX9_copy_93 : decode cX9_copy 93 = .ok (.iload 5, 2) := by decide +kernel
theorem dX9_copy_95 : decode cX9_copy 95 = .ok (.invokevirtual 280, 3) := by decide +kernel
theorem dX9_copy_98 : decode cX9_copy 98 = .ok (.ifCond .ne 9, 3) := by decide +kernel
theorem dX9_copy_101 : decode cX9_copy 101 = .ok (.aload_n 0, 1) := by decide +kernel
theorem dX9_copy_102 : decode cX9_copy 102 = .ok (.iconst 2, 1) := by decide +kernel
theorem dX9_copy_103 : decode cX9_copy 103 = .ok (.invokevirtual 151, 3) := by decide +kernel
theorem dX9_copy_106 : decode cX9_copy 106 = .ok (.ireturn, 1) := by decide +kernel
theorem dX9_copy_107 : decode cX9_copy 107 = .ok (.aload 6, 2) := by decide +kernel
theorem dX9_copy_109 : decode cX9_copy 109 = .ok (.getfield 156, 3) := by decide +kernel
theorem dX9_copy_112 : decode cX9_copy 112 = .ok (.iload_n 2, 1) := by decide +kernel
theorem dX9_copy_113 : decode cX9_copy 113 = .ok (.aload 7, 2) := by decide +kernel
theorem dX9_copy_115 : decode cX9_copy 115 = .ok (.getfield 156, 3) := by decide +kernel
theorem dX9_copy_118 : decode cX9_copy 118 = .ok (.iload 4, 2) := by decide +kernel
theorem dX9_copy_120 : decode cX9_copy 120 = .ok (.iload 5, 2) := by decide +kernel
theorem dX9_copy_122 : decode cX9_copy 122 = .ok (.invokestatic 283, 3) := by decide +kernel
theorem dX9_copy_125 : decode cX9_copy 125 = .ok (.iconst 1, 1) := by decide +kernel
theorem dX9_copy_126 : decode cX9_copy 126 = .ok (.ireturn, 1) := by decide +kernel
theorem dX9_write_0 : decode cX9_write 0 = .ok (.iload_n 1, 1) := by decide +kernel
theorem dX9_write_1 : decode cX9_write 1 = .ok (.aload_n 0, 1) := by decide +kernel
theorem dX9_write_2 : decode cX9_write 2 = .ok (.getfield 24, 3) := by decide +kernel
theorem dX9_write_5 : decode cX9_write 5 = .ok (.getfield 115, 3) := by decide +kernel
theorem dX9_write_8 : decode cX9_write 8 = .ok (.invokestatic 91, 3) := by decide +kernel
theorem dX9_write_11 : decode cX9_write 11 = .ok (.ifCond .eq 11, 3) := by decide +kernel
theorem dX9_write_14 : decode cX9_write 14 = .ok (.iload_n 2, 1) := by decide +kernel
theorem dX9_write_15 : decode cX9_write 15 = .ok (.iconst 4, 1) := by decide +kernel
theorem dX9_write_16 : decode cX9_write 16 = .ok (.invokestatic 91, 3) := by decide +kernel
theorem dX9_write_19 : decode cX9_write 19 = .ok (.ifCond .ne 6, 3) := by decide +kernel
theorem dX9_write_22 : decode cX9_write 22 = .ok (.bipush (-2), 2) := by decide +kernel
theorem dX9_write_24 : decode cX9_write 24 = .ok (.ireturn, 1) := by decide +kernel
theorem dX9_write_25 : decode cX9_write 25 = .ok (.aload_n 0, 1) := by decide +kernel
theorem dX9_write_26 : decode cX9_write 26 = .ok (.getfield 75, 3) := by decide +kernel
theorem dX9_write_29 : decode cX9_write 29 = .ok (.iload_n 2, 1) := by decide +kernel
theorem dX9_write_30 : decode cX9_write 30 = .ok (.aaload, 1) := by decide +kernel
theorem dX9_write_31 : decode cX9_write 31 = .ok (.astore_n 3, 1) := by decide +kernel
theorem dX9_write_32 : decode cX9_write 32 = .ok (.aload_n 3, 1) := by decide +kernel
theorem dX9_write_33 : decode cX9_write 33 = .ok (.getfield 148, 3) := by decide +kernel
theorem dX9_write_36 : decode cX9_write 36 = .ok (.iconst (-1), 1) := by decide +kernel
theorem dX9_write_37 : decode cX9_write 37 = .ok (.if_icmp .ne 9, 3) := by decide +kernel
theorem dX9_write_40 : decode cX9_write 40 = .ok (.aload_n 0, 1) := by decide +kernel
theorem dX9_write_41 : decode cX9_write 41 = .ok (.iconst 1, 1) := by decide +kernel
theorem dX9_write_42 : decode cX9_write 42 = .ok (.invokevirtual 151, 3) := by decide +kernel
theorem dX9_write_45 : decode cX9_write 45 = .ok (.ireturn, 1) := by decide +kernel
theorem dX9_write_46 : decode cX9_write 46 = .ok (.aload_n 0, 1) := by decide +kernel
theorem dX9_write_47 : decode cX9_write 47 = .ok (.invokevirtual 163, 3) := by decide +kernel
theorem dX9_write_50 : decode cX9_write 50 = .ok (.astore 4, 2) := by decide +kernel
theorem dX9_write_52 : decode cX9_write 52 = .ok (.aload_n 3, 1) := by decide +kernel
theorem dX9_write_53 : decode cX9_write 53 = .ok (.getfield 155, 3) := by decide +kernel
theorem dX9_write_56 : decode cX9_write 56 = .ok (.bipush 24, 2) := by decide +kernel
theorem dX9_write_58 : decode cX9_write 58 = .ok (.invokestatic 289, 3) := by decide +kernel
theorem dX9_write_61 : decode cX9_write 61 = .ok (.istore 5, 2) := by decide +kernel
theorem dX9_write_63 : decode cX9_write 63 = .ok (.iconst 0, 1) := by decide +kernel
theorem dX9_write_64 : decode cX9_write 64 = .ok (.istore 6, 2) := by decide +kernel
theorem dX9_write_66 : decode cX9_write 66 = .ok (.iload 6, 2) := by decide +kernel
theorem dX9_write_68 : decode cX9_write 68 = .ok (.iload 5, 2) := by decide +kernel
theorem dX9_write_70 : decode cX9_write 70 = .ok (.if_icmp .ge 27, 3) := by decide +kernel
theorem dX9_write_73 : decode cX9_write 73 = .ok (.aload_n 3, 1) := by decide +kernel
theorem dX9_write_74 : decode cX9_write 74 = .ok (.iload 6, 2) := by decide +kernel
theorem dX9_write_76 : decode cX9_write 76 = .ok (.aload 4, 2) := by decide +kernel
theorem dX9_write_78 : decode cX9_write 78 = .ok (.aload_n 0, 1) := by decide +kernel
theorem dX9_write_79 : decode cX9_write 79 = .ok (.getfield 31, 3) := by decide +kernel
theorem dX9_write_82 : decode cX9_write 82 = .ok (.iload 6, 2) := by decide +kernel
theorem dX9_write_84 : decode cX9_write 84 = .ok (.iload_n 1, 1) := by decide +kernel
theorem dX9_write_85 : decode cX9_write 85 = .ok (.invokevirtual 170, 3) := by decide +kernel
theorem dX9_write_88 : decode cX9_write 88 = .ok (.invokevirtual 276, 3) := by decide +kernel
theorem dX9_write_91 : decode cX9_write 91 = .ok (.iinc 6 1, 3) := by decide +kernel
theorem dX9_write_94 : decode cX9_write 94 = .ok (.goto (-28), 3) := by decide +kernel
theorem dX9_write_97 : decode cX9_write 97 = .ok (.iload 5, 2) := by decide +kernel
theorem dX9_write_99 : decode cX9_write 99 = .ok (.ireturn, 1) := by decide +kernel
theorem dX9_count_0 : decode cX9_count 0 = .ok (.iload_n 1, 1) := by decide +kernel
theorem dX9_count_1 : decode cX9_count 1 = .ok (.tableswitch 124 0 8 #[51, 59, 67, 75, 83, 91, 103, 111, 119], 51) := by decide +kernel
theorem dX9_count_52 : decode cX9_count 52 = .ok (.aload_n 0, 1) := by decide +kernel
theorem dX9_count_53 : decode cX9_count 53 = .ok (.getfield 24, 3) := by decide +kernel
theorem dX9_count_56 : decode cX9_count 56 = .ok (.getfield 115, 3) := by decide +kernel
theorem dX9_count_59 : decode cX9_count 59 = .ok (.ireturn, 1) := by decide +kernel
theorem dX9_count_60 : decode cX9_count 60 = .ok (.aload_n 0, 1) := by decide +kernel
theorem dX9_count_61 : decode cX9_count 61 = .ok (.getfield 31, 3) := by decide +kernel
theorem dX9_count_64 : decode cX9_count 64 = .ok (.getfield 128, 3) := by decide +kernel
theorem dX9_count_67 : decode cX9_count 67 = .ok (.ireturn, 1) := by decide +kernel
theorem dX9_count_68 : decode cX9_count 68 = .ok (.aload_n 0, 1) := by decide +kernel
theorem dX9_count_69 : decode cX9_count 69 = .ok (.getfield 14, 3) := by decide +kernel
theorem dX9_count_72 : decode cX9_count 72 = .ok (.getfield 99, 3) := by decide +kernel
theorem dX9_count_75 : decode cX9_count 75 = .ok (.ireturn, 1) := by decide +kernel
theorem dX9_count_76 : decode cX9_count 76 = .ok (.aload_n 0, 1) := by decide +kernel
theorem dX9_count_77 : decode cX9_count 77 = .ok (.getfield 18, 3) := by decide +kernel
theorem dX9_count_80 : decode cX9_count 80 = .ok (.getfield 99, 3) := by decide +kernel
theorem dX9_count_83 : decode cX9_count 83 = .ok (.ireturn, 1) := by decide +kernel
theorem dX9_count_84 : decode cX9_count 84 = .ok (.aload_n 0, 1) := by decide +kernel
theorem dX9_count_85 : decode cX9_count 85 = .ok (.getfield 38, 3) := by decide +kernel
theorem dX9_count_88 : decode cX9_count 88 = .ok (.getfield 138, 3) := by decide +kernel
theorem dX9_count_91 : decode cX9_count 91 = .ok (.ireturn, 1) := by decide +kernel
theorem dX9_count_92 : decode cX9_count 92 = .ok (.aload_n 0, 1) := by decide +kernel
theorem dX9_count_93 : decode cX9_count 93 = .ok (.invokevirtual 163, 3) := by decide +kernel
theorem dX9_count_96 : decode cX9_count 96 = .ok (.aload_n 0, 1) := by decide +kernel
theorem dX9_count_97 : decode cX9_count 97 = .ok (.getfield 31, 3) := by decide +kernel
theorem dX9_count_100 : decode cX9_count 100 = .ok (.invokevirtual 266, 3) := by decide +kernel
theorem dX9_count_103 : decode cX9_count 103 = .ok (.ireturn, 1) := by decide +kernel
theorem dX9_count_104 : decode cX9_count 104 = .ok (.aload_n 0, 1) := by decide +kernel
theorem dX9_count_105 : decode cX9_count 105 = .ok (.invokevirtual 163, 3) := by decide +kernel
theorem dX9_count_108 : decode cX9_count 108 = .ok (.getfield 196, 3) := by decide +kernel
theorem dX9_count_111 : decode cX9_count 111 = .ok (.ireturn, 1) := by decide +kernel
theorem dX9_count_112 : decode cX9_count 112 = .ok (.aload_n 0, 1) := by decide +kernel
theorem dX9_count_113 : decode cX9_count 113 = .ok (.getfield 48, 3) := by decide +kernel
theorem dX9_count_116 : decode cX9_count 116 = .ok (.getfield 233, 3) := by decide +kernel
theorem dX9_count_119 : decode cX9_count 119 = .ok (.ireturn, 1) := by decide +kernel
theorem dX9_count_120 : decode cX9_count 120 = .ok (.aload_n 0, 1) := by decide +kernel
theorem dX9_count_121 : decode cX9_count 121 = .ok (.getfield 86, 3) := by decide +kernel
theorem dX9_count_124 : decode cX9_count 124 = .ok (.ireturn, 1) := by decide +kernel
theorem dX9_count_125 : decode cX9_count 125 = .ok (.bipush (-2), 2) := by decide +kernel
theorem dX9_count_127 : decode cX9_count 127 = .ok (.ireturn, 1) := by decide +kernel
theorem dX9_digest_0 : decode cX9_digest 0 = .ok (.ldc2_w 294, 3) := by decide +kernel
theorem dX9_digest_3 : decode cX9_digest 3 = .ok (.lstore_n 1, 1) := by decide +kernel
theorem dX9_digest_4 : decode cX9_digest 4 = .ok (.iconst 0, 1) := by decide +kernel
theorem dX9_digest_5 : decode cX9_digest 5 = .ok (.istore_n 3, 1) := by decide +kernel
theorem dX9_digest_6 : decode cX9_digest 6 = .ok (.iload_n 3, 1) := by decide +kernel
theorem dX9_digest_7 : decode cX9_digest 7 = .ok (.bipush 8, 2) := by decide +kernel
theorem dX9_digest_9 : decode cX9_digest 9 = .ok (.if_icmp .ge 20, 3) := by decide +kernel
theorem dX9_digest_12 : decode cX9_digest 12 = .ok (.lload_n 1, 1) := by decide +kernel
theorem dX9_digest_13 : decode cX9_digest 13 = .ok (.aload_n 0, 1) := by decide +kernel
theorem dX9_digest_14 : decode cX9_digest 14 = .ok (.iload_n 3, 1) := by decide +kernel
theorem dX9_digest_15 : decode cX9_digest 15 = .ok (.invokevirtual 296, 3) := by decide +kernel
theorem dX9_digest_18 : decode cX9_digest 18 = .ok (.i2l, 1) := by decide +kernel
theorem dX9_digest_19 : decode cX9_digest 19 = .ok (.invokestatic 299, 3) := by decide +kernel
theorem dX9_digest_22 : decode cX9_digest 22 = .ok (.lstore_n 1, 1) := by decide +kernel
theorem dX9_digest_23 : decode cX9_digest 23 = .ok (.iinc 3 1, 3) := by decide +kernel
theorem dX9_digest_26 : decode cX9_digest 26 = .ok (.goto (-20), 3) := by decide +kernel
theorem dX9_digest_29 : decode cX9_digest 29 = .ok (.lload_n 1, 1) := by decide +kernel
theorem dX9_digest_30 : decode cX9_digest 30 = .ok (.aload_n 0, 1) := by decide +kernel
theorem dX9_digest_31 : decode cX9_digest 31 = .ok (.iconst 0, 1) := by decide +kernel
theorem dX9_digest_32 : decode cX9_digest 32 = .ok (.invokevirtual 303, 3) := by decide +kernel
theorem dX9_digest_35 : decode cX9_digest 35 = .ok (.i2l, 1) := by decide +kernel
theorem dX9_digest_36 : decode cX9_digest 36 = .ok (.invokestatic 299, 3) := by decide +kernel
theorem dX9_digest_39 : decode cX9_digest 39 = .ok (.aload_n 0, 1) := by decide +kernel
theorem dX9_digest_40 : decode cX9_digest 40 = .ok (.iconst 1, 1) := by decide +kernel
theorem dX9_digest_41 : decode cX9_digest 41 = .ok (.invokevirtual 303, 3) := by decide +kernel
theorem dX9_digest_44 : decode cX9_digest 44 = .ok (.i2l, 1) := by decide +kernel
theorem dX9_digest_45 : decode cX9_digest 45 = .ok (.invokestatic 299, 3) := by decide +kernel
theorem dX9_digest_48 : decode cX9_digest 48 = .ok (.lstore_n 1, 1) := by decide +kernel
theorem dX9_digest_49 : decode cX9_digest 49 = .ok (.iconst 0, 1) := by decide +kernel
theorem dX9_digest_50 : decode cX9_digest 50 = .ok (.istore_n 3, 1) := by decide +kernel
theorem dX9_digest_51 : decode cX9_digest 51 = .ok (.iload_n 3, 1) := by decide +kernel
theorem dX9_digest_52 : decode cX9_digest 52 = .ok (.aload_n 0, 1) := by decide +kernel
theorem dX9_digest_53 : decode cX9_digest 53 = .ok (.getfield 31, 3) := by decide +kernel
theorem dX9_digest_56 : decode cX9_digest 56 = .ok (.getfield 128, 3) := by decide +kernel
theorem dX9_digest_59 : decode cX9_digest 59 = .ok (.if_icmp .ge 16, 3) := by decide +kernel
theorem dX9_digest_62 : decode cX9_digest 62 = .ok (.aload_n 0, 1) := by decide +kernel
theorem dX9_digest_63 : decode cX9_digest 63 = .ok (.lload_n 1, 1) := by decide +kernel
theorem dX9_digest_64 : decode cX9_digest 64 = .ok (.iload_n 3, 1) := by decide +kernel
theorem dX9_digest_65 : decode cX9_digest 65 = .ok (.invokevirtual 305, 3) := by decide +kernel
theorem dX9_digest_68 : decode cX9_digest 68 = .ok (.lstore_n 1, 1) := by decide +kernel
theorem dX9_digest_69 : decode cX9_digest 69 = .ok (.iinc 3 1, 3) := by decide +kernel
theorem dX9_digest_72 : decode cX9_digest 72 = .ok (.goto (-21), 3) := by decide +kernel
theorem dX9_digest_75 : decode cX9_digest 75 = .ok (.iconst 0, 1) := by decide +kernel
theorem dX9_digest_76 : decode cX9_digest 76 = .ok (.istore_n 3, 1) := by decide +kernel
theorem dX9_digest_77 : decode cX9_digest 77 = .ok (.iload_n 3, 1) := by decide +kernel
theorem dX9_digest_78 : decode cX9_digest 78 = .ok (.aload_n 0, 1) := by decide +kernel
theorem dX9_digest_79 : decode cX9_digest 79 = .ok (.getfield 24, 3) := by decide +kernel
theorem dX9_digest_82 : decode cX9_digest 82 = .ok (.getfield 115, 3) := by decide +kernel
theorem dX9_digest_85 : decode cX9_digest 85 = .ok (.if_icmp .ge 16, 3) := by decide +kernel
theorem dX9_digest_88 : decode cX9_digest 88 = .ok (.aload_n 0, 1) := by decide +kernel
theorem dX9_digest_89 : decode cX9_digest 89 = .ok (.lload_n 1, 1) := by decide +kernel
theorem dX9_digest_90 : decode cX9_digest 90 = .ok (.iload_n 3, 1) := by decide +kernel
theorem dX9_digest_91 : decode cX9_digest 91 = .ok (.invokevirtual 309, 3) := by decide +kernel
theorem dX9_digest_94 : decode cX9_digest 94 = .ok (.lstore_n 1, 1) := by decide +kernel
theorem dX9_digest_95 : decode cX9_digest 95 = .ok (.iinc 3 1, 3) := by decide +kernel
theorem dX9_digest_98 : decode cX9_digest 98 = .ok (.goto (-21), 3) := by decide +kernel
theorem dX9_digest_101 : decode cX9_digest 101 = .ok (.iconst 0, 1) := by decide +kernel
theorem dX9_digest_102 : decode cX9_digest 102 = .ok (.istore_n 3, 1) := by decide +kernel
theorem dX9_digest_103 : decode cX9_digest 103 = .ok (.iload_n 3, 1) := by decide +kernel
theorem dX9_digest_104 : decode cX9_digest 104 = .ok (.bipush 24, 2) := by decide +kernel
theorem dX9_digest_106 : decode cX9_digest 106 = .ok (.if_icmp .ge 31, 3) := by decide +kernel
theorem dX9_digest_109 : decode cX9_digest 109 = .ok (.lload_n 1, 1) := by decide +kernel
theorem dX9_digest_110 : decode cX9_digest 110 = .ok (.aload_n 0, 1) := by decide +kernel
theorem dX9_digest_111 : decode cX9_digest 111 = .ok (.iload_n 3, 1) := by decide +kernel
theorem dX9_digest_112 : decode cX9_digest 112 = .ok (.iconst 0, 1) := by decide +kernel
theorem dX9_digest_113 : decode cX9_digest 113 = .ok (.invokevirtual 312, 3) := by decide +kernel
theorem dX9_digest_116 : decode cX9_digest 116 = .ok (.i2l, 1) := by decide +kernel
theorem dX9_digest_117 : decode cX9_digest 117 = .ok (.invokestatic 299, 3) := by decide +kernel
theorem dX9_digest_120 : decode cX9_digest 120 = .ok (.aload_n 0, 1) := by decide +kernel
theorem dX9_digest_121 : decode cX9_digest 121 = .ok (.iload_n 3, 1) := by decide +kernel
theorem dX9_digest_122 : decode cX9_digest 122 = .ok (.iconst 1, 1) := by decide +kernel
theorem dX9_digest_123 : decode cX9_digest 123 = .ok (.invokevirtual 312, 3) := by decide +kernel
theorem dX9_digest_126 : decode cX9_digest 126 = .ok (.i2l, 1) := by decide +kernel
theorem dX9_digest_127 : decode cX9_digest 127 = .ok (.invokestatic 299, 3) := by decide +kernel
theorem dX9_digest_130 : decode cX9_digest 130 = .ok (.lstore_n 1, 1) := by decide +kernel
theorem dX9_digest_131 : decode cX9_digest 131 = .ok (.iinc 3 1, 3) := by decide +kernel
theorem dX9_digest_134 : decode cX9_digest 134 = .ok (.goto (-31), 3) := by decide +kernel
theorem dX9_digest_137 : decode cX9_digest 137 = .ok (.iconst 0, 1) := by decide +kernel
theorem dX9_digest_138 : decode cX9_digest 138 = .ok (.istore_n 3, 1) := by decide +kernel
theorem dX9_digest_139 : decode cX9_digest 139 = .ok (.iload_n 3, 1) := by decide +kernel
theorem dX9_digest_140 : decode cX9_digest 140 = .ok (.bipush 6, 2) := by decide +kernel
theorem dX9_digest_142 : decode cX9_digest 142 = .ok (.if_icmp .ge 35, 3) := by decide +kernel
theorem dX9_digest_145 : decode cX9_digest 145 = .ok (.aload_n 0, 1) := by decide +kernel
theorem dX9_digest_146 : decode cX9_digest 146 = .ok (.iload_n 3, 1) := by decide +kernel
theorem dX9_digest_147 : decode cX9_digest 147 = .ok (.invokevirtual 223, 3) := by decide +kernel
theorem dX9_digest_150 : decode cX9_digest 150 = .ok (.istore 4, 2) := by decide +kernel
theorem dX9_digest_152 : decode cX9_digest 152 = .ok (.lload_n 1, 1) := by decide +kernel
theorem dX9_digest_153 : decode cX9_digest 153 = .ok (.iload 4, 2) := by decide +kernel
theorem dX9_digest_155 : decode cX9_digest 155 = .ok (.i2l, 1) := by decide +kernel
theorem dX9_digest_156 : decode cX9_digest 156 = .ok (.invokestatic 299, 3) := by decide +kernel
theorem dX9_digest_159 : decode cX9_digest 159 = .ok (.aload_n 0, 1) := by decide +kernel
theorem dX9_digest_160 : decode cX9_digest 160 = .ok (.iload 4, 2) := by decide +kernel
theorem dX9_digest_162 : decode cX9_digest 162 = .ok (.iload_n 3, 1) := by decide +kernel
theorem dX9_digest_163 : decode cX9_digest 163 = .ok (.invokevirtual 214, 3) := by decide +kernel
theorem dX9_digest_166 : decode cX9_digest 166 = .ok (.i2l, 1) := by decide +kernel
theorem dX9_digest_167 : decode cX9_digest 167 = .ok (.invokestatic 299, 3) := by decide +kernel
theorem dX9_digest_170 : decode cX9_digest 170 = .ok (.lstore_n 1, 1) := by decide +kernel
theorem dX9_digest_171 : decode cX9_digest 171 = .ok (.iinc 3 1, 3) := by decide +kernel
theorem dX9_digest_174 : decode cX9_digest 174 = .ok (.goto (-35), 3) := by decide +kernel
theorem dX9_digest_177 : decode cX9_digest 177 = .ok (.lload_n 1, 1) := by decide +kernel
theorem dX9_digest_178 : decode cX9_digest 178 = .ok (.aload_n 0, 1) := by decide +kernel
theorem dX9_digest_179 : decode cX9_digest 179 = .ok (.iconst 0, 1) := by decide +kernel
theorem dX9_digest_180 : decode cX9_digest 180 = .ok (.invokevirtual 315, 3) := by decide +kernel
theorem dX9_digest_183 : decode cX9_digest 183 = .ok (.i2l, 1) := by decide +kernel
theorem dX9_digest_184 : decode cX9_digest 184 = .ok (.invokestatic 299, 3) := by decide +kernel
theorem dX9_digest_187 : decode cX9_digest 187 = .ok (.aload_n 0, 1) := by decide +kernel
theorem dX9_digest_188 : decode cX9_digest 188 = .ok (.iconst 1, 1) := by decide +kernel
theorem dX9_digest_189 : decode cX9_digest 189 = .ok (.invokevirtual 315, 3) := by decide +kernel
theorem dX9_digest_192 : decode cX9_digest 192 = .ok (.i2l, 1) := by decide +kernel
theorem dX9_digest_193 : decode cX9_digest 193 = .ok (.invokestatic 299, 3) := by decide +kernel
theorem dX9_digest_196 : decode cX9_digest 196 = .ok (.lstore_n 1, 1) := by decide +kernel
theorem dX9_digest_197 : decode cX9_digest 197 = .ok (.lload_n 1, 1) := by decide +kernel
theorem dX9_digest_198 : decode cX9_digest 198 = .ok (.aload_n 0, 1) := by decide +kernel
theorem dX9_digest_199 : decode cX9_digest 199 = .ok (.invokevirtual 318, 3) := by decide +kernel
theorem dX9_digest_202 : decode cX9_digest 202 = .ok (.i2l, 1) := by decide +kernel
theorem dX9_digest_203 : decode cX9_digest 203 = .ok (.invokestatic 299, 3) := by decide +kernel
theorem dX9_digest_206 : decode cX9_digest 206 = .ok (.aload_n 0, 1) := by decide +kernel
theorem dX9_digest_207 : decode cX9_digest 207 = .ok (.invokevirtual 321, 3) := by decide +kernel
theorem dX9_digest_210 : decode cX9_digest 210 = .ok (.i2l, 1) := by decide +kernel
theorem dX9_digest_211 : decode cX9_digest 211 = .ok (.invokestatic 299, 3) := by decide +kernel
theorem dX9_digest_214 : decode cX9_digest 214 = .ok (.lstore_n 1, 1) := by decide +kernel
theorem dX9_digest_215 : decode cX9_digest 215 = .ok (.lload_n 1, 1) := by decide +kernel
theorem dX9_digest_216 : decode cX9_digest 216 = .ok (.aload_n 0, 1) := by decide +kernel
theorem dX9_digest_217 : decode cX9_digest 217 = .ok (.bipush 8, 2) := by decide +kernel
theorem dX9_digest_219 : decode cX9_digest 219 = .ok (.iconst 0, 1) := by decide +kernel
theorem dX9_digest_220 : decode cX9_digest 220 = .ok (.invokevirtual 324, 3) := by decide +kernel
theorem dX9_digest_223 : decode cX9_digest 223 = .ok (.i2l, 1) := by decide +kernel
theorem dX9_digest_224 : decode cX9_digest 224 = .ok (.invokestatic 299, 3) := by decide +kernel
theorem dX9_digest_227 : decode cX9_digest 227 = .ok (.aload_n 0, 1) := by decide +kernel
theorem dX9_digest_228 : decode cX9_digest 228 = .ok (.bipush 8, 2) := by decide +kernel
theorem dX9_digest_230 : decode cX9_digest 230 = .ok (.iconst 1, 1) := by decide +kernel
theorem dX9_digest_231 : decode cX9_digest 231 = .ok (.invokevirtual 324, 3) := by decide +kernel
theorem dX9_digest_234 : decode cX9_digest 234 = .ok (.i2l, 1) := by decide +kernel
theorem dX9_digest_235 : decode cX9_digest 235 = .ok (.invokestatic 299, 3) := by decide +kernel
theorem dX9_digest_238 : decode cX9_digest 238 = .ok (.lstore_n 1, 1) := by decide +kernel
theorem dX9_digest_239 : decode cX9_digest 239 = .ok (.lload_n 1, 1) := by decide +kernel
theorem dX9_digest_240 : decode cX9_digest 240 = .ok (.aload_n 0, 1) := by decide +kernel
theorem dX9_digest_241 : decode cX9_digest 241 = .ok (.iconst (-1), 1) := by decide +kernel
theorem dX9_digest_242 : decode cX9_digest 242 = .ok (.invokevirtual 327, 3) := by decide +kernel
theorem dX9_digest_245 : decode cX9_digest 245 = .ok (.i2l, 1) := by decide +kernel
theorem dX9_digest_246 : decode cX9_digest 246 = .ok (.invokestatic 299, 3) := by decide +kernel
theorem dX9_digest_249 : decode cX9_digest 249 = .ok (.aload_n 0, 1) := by decide +kernel
theorem dX9_digest_250 : decode cX9_digest 250 = .ok (.iconst 0, 1) := by decide +kernel
theorem dX9_digest_251 : decode cX9_digest 251 = .ok (.invokevirtual 327, 3) := by decide +kernel
theorem dX9_digest_254 : decode cX9_digest 254 = .ok (.i2l, 1) := by decide +kernel
theorem dX9_digest_255 : decode cX9_digest 255 = .ok (.invokestatic 299, 3) := by decide +kernel
theorem dX9_digest_258 : decode cX9_digest 258 = .ok (.lstore_n 1, 1) := by decide +kernel
theorem dX9_digest_259 : decode cX9_digest 259 = .ok (.lload_n 1, 1) := by decide +kernel
theorem dX9_digest_260 : decode cX9_digest 260 = .ok (.aload_n 0, 1) := by decide +kernel
theorem dX9_digest_261 : decode cX9_digest 261 = .ok (.invokevirtual 330, 3) := by decide +kernel
theorem dX9_digest_264 : decode cX9_digest 264 = .ok (.i2l, 1) := by decide +kernel
theorem dX9_digest_265 : decode cX9_digest 265 = .ok (.invokestatic 299, 3) := by decide +kernel
theorem dX9_digest_268 : decode cX9_digest 268 = .ok (.lstore_n 1, 1) := by decide +kernel
theorem dX9_digest_269 : decode cX9_digest 269 = .ok (.lload_n 1, 1) := by decide +kernel
theorem dX9_digest_270 : decode cX9_digest 270 = .ok (.aload_n 0, 1) := by decide +kernel
theorem dX9_digest_271 : decode cX9_digest 271 = .ok (.bipush 7, 2) := by decide +kernel
theorem dX9_digest_273 : decode cX9_digest 273 = .ok (.bipush 6, 2) := by decide +kernel
theorem dX9_digest_275 : decode cX9_digest 275 = .ok (.iconst 0, 1) := by decide +kernel
theorem dX9_digest_276 : decode cX9_digest 276 = .ok (.invokevirtual 333, 3) := by decide +kernel
theorem dX9_digest_279 : decode cX9_digest 279 = .ok (.i2l, 1) := by decide +kernel
theorem dX9_digest_280 : decode cX9_digest 280 = .ok (.invokestatic 299, 3) := by decide +kernel
theorem dX9_digest_283 : decode cX9_digest 283 = .ok (.aload_n 0, 1) := by decide +kernel
theorem dX9_digest_284 : decode cX9_digest 284 = .ok (.bipush 7, 2) := by decide +kernel
theorem dX9_digest_286 : decode cX9_digest 286 = .ok (.bipush 6, 2) := by decide +kernel
theorem dX9_digest_288 : decode cX9_digest 288 = .ok (.iconst 1, 1) := by decide +kernel
theorem dX9_digest_289 : decode cX9_digest 289 = .ok (.invokevirtual 333, 3) := by decide +kernel
theorem dX9_digest_292 : decode cX9_digest 292 = .ok (.i2l, 1) := by decide +kernel
theorem dX9_digest_293 : decode cX9_digest 293 = .ok (.invokestatic 299, 3) := by decide +kernel
theorem dX9_digest_296 : decode cX9_digest 296 = .ok (.lreturn, 1) := by decide +kernel
theorem dX9_isBelow_0 : decode cX9_isBelow 0 = .ok (.iload_n 0, 1) := by decide +kernel
theorem dX9_isBelow_1 : decode cX9_isBelow 1 = .ok (.ifCond .lt 12, 3) := by decide +kernel
theorem dX9_isBelow_4 : decode cX9_isBelow 4 = .ok (.iload_n 0, 1) := by decide +kernel
theorem dX9_isBelow_5 : decode cX9_isBelow 5 = .ok (.iload_n 1, 1) := by decide +kernel
theorem dX9_isBelow_6 : decode cX9_isBelow 6 = .ok (.if_icmp .ge 7, 3) := by decide +kernel
theorem dX9_isBelow_9 : decode cX9_isBelow 9 = .ok (.iconst 1, 1) := by decide +kernel
theorem dX9_isBelow_10 : decode cX9_isBelow 10 = .ok (.goto 4, 3) := by decide +kernel
theorem dX9_isBelow_13 : decode cX9_isBelow 13 = .ok (.iconst 0, 1) := by decide +kernel
theorem dX9_isBelow_14 : decode cX9_isBelow 14 = .ok (.ireturn, 1) := by decide +kernel
theorem dX9_find_0 : decode cX9_find 0 = .ok (.aload_n 0, 1) := by decide +kernel
theorem dX9_find_1 : decode cX9_find 1 = .ok (.iload_n 1, 1) := by decide +kernel
theorem dX9_find_2 : decode cX9_find 2 = .ok (.putfield 86, 3) := by decide +kernel
theorem dX9_find_5 : decode cX9_find 5 = .ok (.bipush (-10), 2) := by decide +kernel
theorem dX9_find_7 : decode cX9_find 7 = .ok (.iload_n 1, 1) := by decide +kernel
theorem dX9_find_8 : decode cX9_find 8 = .ok (.isub, 1) := by decide +kernel
theorem dX9_find_9 : decode cX9_find 9 = .ok (.ireturn, 1) := by decide +kernel
theorem dX9_textOf_0 : decode cX9_textOf 0 = .ok (.iload_n 1, 1) := by decide +kernel
theorem dX9_textOf_1 : decode cX9_textOf 1 = .ok (.ifCond .ne 10, 3) := by decide +kernel
theorem dX9_textOf_4 : decode cX9_textOf 4 = .ok (.aload_n 0, 1) := by decide +kernel
theorem dX9_textOf_5 : decode cX9_textOf 5 = .ok (.getfield 14, 3) := by decide +kernel
theorem dX9_textOf_8 : decode cX9_textOf 8 = .ok (.goto 7, 3) := by decide +kernel
theorem dX9_textOf_11 : decode cX9_textOf 11 = .ok (.aload_n 0, 1) := by decide +kernel
theorem dX9_textOf_12 : decode cX9_textOf 12 = .ok (.getfield 18, 3) := by decide +kernel
theorem dX9_textOf_15 : decode cX9_textOf 15 = .ok (.areturn, 1) := by decide +kernel
theorem dX9_takeTextAnew_0 : decode cX9_takeTextAnew 0 = .ok (.iload_n 1, 1) := by decide +kernel
theorem dX9_takeTextAnew_1 : decode cX9_takeTextAnew 1 = .ok (.ifCond .ne 17, 3) := by decide +kernel
theorem dX9_takeTextAnew_4 : decode cX9_takeTextAnew 4 = .ok (.aload_n 0, 1) := by decide +kernel
theorem dX9_takeTextAnew_5 : decode cX9_takeTextAnew 5 = .ok (.getfield 24, 3) := by decide +kernel
theorem dX9_takeTextAnew_8 : decode cX9_takeTextAnew 8 = .ok (.aload_n 0, 1) := by decide +kernel
theorem dX9_takeTextAnew_9 : decode cX9_takeTextAnew 9 = .ok (.getfield 14, 3) := by decide +kernel
theorem dX9_takeTextAnew_12 : decode cX9_takeTextAnew 12 = .ok (.invokevirtual 336, 3) := by decide +kernel
theorem dX9_takeTextAnew_15 : decode cX9_takeTextAnew 15 = .ok (.goto 14, 3) := by decide +kernel
theorem dX9_takeTextAnew_18 : decode cX9_takeTextAnew 18 = .ok (.aload_n 0, 1) := by decide +kernel
theorem dX9_takeTextAnew_19 : decode cX9_takeTextAnew 19 = .ok (.getfield 31, 3) := by decide +kernel
theorem dX9_takeTextAnew_22 : decode cX9_takeTextAnew 22 = .ok (.aload_n 0, 1) := by decide +kernel
theorem dX9_takeTextAnew_23 : decode cX9_takeTextAnew 23 = .ok (.getfield 18, 3) := by decide +kernel
theorem dX9_takeTextAnew_26 : decode cX9_takeTextAnew 26 = .ok (.invokevirtual 340, 3) := by decide +kernel
theorem dX9_takeTextAnew_29 : decode cX9_takeTextAnew 29 = .ok (.aload_n 0, 1) := by decide +kernel
theorem dX9_takeTextAnew_30 : decode cX9_takeTextAnew 30 = .ok (.invokevirtual 142, 3) := by decide +kernel
theorem dX9_takeTextAnew_33 : decode cX9_takeTextAnew 33 = .ok (.return_, 1) := by decide +kernel
theorem dX9_markStale_0 : decode cX9_markStale 0 = .ok (.aload_n 0, 1) := by decide +kernel
theorem dX9_markStale_1 : decode cX9_markStale 1 = .ok (.iconst 1, 1) := by decide +kernel
theorem dX9_markStale_2 : decode cX9_markStale 2 = .ok (.putfield 79, 3) := by decide +kernel
theorem dX9_markStale_5 : decode cX9_markStale 5 = .ok (.aload_n 0, 1) := by decide +kernel
theorem dX9_markStale_6 : decode cX9_markStale 6 = .ok (.iconst 1, 1) := by decide +kernel
theorem dX9_markStale_7 : decode cX9_markStale 7 = .ok (.putfield 83, 3) := by decide +kernel
theorem dX9_markStale_10 : decode cX9_markStale 10 = .ok (.return_, 1) := by decide +kernel
theorem dX9_asTold_0 : decode cX9_asTold 0 = .ok (.aload_n 0, 1) := by decide +kernel
theorem dX9_asTold_1 : decode cX9_asTold 1 = .ok (.getfield 79, 3) := by decide +kernel
theorem dX9_asTold_4 : decode cX9_asTold 4 = .ok (.ifCond .eq 28, 3) := by decide +kernel
theorem dX9_asTold_7 : decode cX9_asTold 7 = .ok (.aload_n 0, 1) := by decide +kernel
theorem dX9_asTold_8 : decode cX9_asTold 8 = .ok (.getfield 55, 3) := by decide +kernel
theorem dX9_asTold_11 : decode cX9_asTold 11 = .ok (.aload_n 0, 1) := by decide +kernel
theorem dX9_asTold_12 : decode cX9_asTold 12 = .ok (.getfield 24, 3) := by decide +kernel
theorem dX9_asTold_15 : decode cX9_asTold 15 = .ok (.aload_n 0, 1) := by decide +kernel
theorem dX9_asTold_16 : decode cX9_asTold 16 = .ok (.getfield 31, 3) := by decide +kernel
theorem dX9_asTold_19 : decode cX9_asTold 19 = .ok (.aload_n 0, 1) := by decide +kernel
theorem dX9_asTold_20 : decode cX9_asTold 20 = .ok (.getfield 38, 3) := by decide +kernel
theorem dX9_asTold_23 : decode cX9_asTold 23 = .ok (.iconst (-1), 1) := by decide +kernel
theorem dX9_asTold_24 : decode cX9_asTold 24 = .ok (.invokevirtual 235, 3) := by decide +kernel
theorem dX9_asTold_27 : decode cX9_asTold 27 = .ok (.aload_n 0, 1) := by decide +kernel
theorem dX9_asTold_28 : decode cX9_asTold 28 = .ok (.iconst 0, 1) := by decide +kernel
theorem dX9_asTold_29 : decode cX9_asTold 29 = .ok (.putfield 79, 3) := by decide +kernel
theorem dX9_asTold_32 : decode cX9_asTold 32 = .ok (.aload_n 0, 1) := by decide +kernel
theorem dX9_asTold_33 : decode cX9_asTold 33 = .ok (.getfield 55, 3) := by decide +kernel
theorem dX9_asTold_36 : decode cX9_asTold 36 = .ok (.areturn, 1) := by decide +kernel
theorem dX9_metWithPlough_0 : decode cX9_metWithPlough 0 = .ok (.aload_n 0, 1) := by decide +kernel
theorem dX9_metWithPlough_1 : decode cX9_metWithPlough 1 = .ok (.getfield 38, 3) := by decide +kernel
theorem dX9_metWithPlough_4 : decode cX9_metWithPlough 4 = .ok (.iconst 0, 1) := by decide +kernel
theorem dX9_metWithPlough_5 : decode cX9_metWithPlough 5 = .ok (.iload_n 1, 1) := by decide +kernel
theorem dX9_metWithPlough_6 : decode cX9_metWithPlough 6 = .ok (.iload_n 2, 1) := by decide +kernel
theorem dX9_metWithPlough_7 : decode cX9_metWithPlough 7 = .ok (.invokevirtual 139, 3) := by decide +kernel
theorem dX9_metWithPlough_10 : decode cX9_metWithPlough 10 = .ok (.aload_n 0, 1) := by decide +kernel
theorem dX9_metWithPlough_11 : decode cX9_metWithPlough 11 = .ok (.getfield 59, 3) := by decide +kernel
theorem dX9_metWithPlough_14 : decode cX9_metWithPlough 14 = .ok (.aload_n 0, 1) := by decide +kernel
theorem dX9_metWithPlough_15 : decode cX9_metWithPlough 15 = .ok (.getfield 24, 3) := by decide +kernel
theorem dX9_metWithPlough_18 : decode cX9_metWithPlough 18 = .ok (.aload_n 0, 1) := by decide +kernel
theorem dX9_metWithPlough_19 : decode cX9_metWithPlough 19 = .ok (.getfield 31, 3) := by decide +kernel
theorem dX9_metWithPlough_22 : decode cX9_metWithPlough 22 = .ok (.aload_n 0, 1) := by decide +kernel
theorem dX9_metWithPlough_23 : decode cX9_metWithPlough 23 = .ok (.getfield 38, 3) := by decide +kernel
theorem dX9_metWithPlough_26 : decode cX9_metWithPlough 26 = .ok (.iconst (-1), 1) := by decide +kernel
theorem dX9_metWithPlough_27 : decode cX9_metWithPlough 27 = .ok (.invokevirtual 235, 3) := by decide +kernel
theorem dX9_metWithPlough_30 : decode cX9_metWithPlough 30 = .ok (.aload_n 0, 1) := by decide +kernel
theorem dX9_metWithPlough_31 : decode cX9_metWithPlough 31 = .ok (.getfield 38, 3) := by decide +kernel
theorem dX9_metWithPlough_34 : decode cX9_metWithPlough 34 = .ok (.invokevirtual 145, 3) := by decide +kernel
theorem dX9_metWithPlough_37 : decode cX9_metWithPlough 37 = .ok (.aload_n 0, 1) := by decide +kernel
theorem dX9_metWithPlough_38 : decode cX9_metWithPlough 38 = .ok (.getfield 59, 3) := by decide +kernel
theorem dX9_metWithPlough_41 : decode cX9_metWithPlough 41 = .ok (.aload_n 0, 1) := by decide +kernel
theorem dX9_metWithPlough_42 : decode cX9_metWithPlough 42 = .ok (.getfield 31, 3) := by decide +kernel
theorem dX9_metWithPlough_45 : decode cX9_metWithPlough 45 = .ok (.invokevirtual 266, 3) := by decide +kernel
theorem dX9_metWithPlough_48 : decode cX9_metWithPlough 48 = .ok (.ireturn, 1) := by decide +kernel
theorem dX9_bestFurrow_0 : decode cX9_bestFurrow 0 = .ok (.iconst 0, 1) := by decide +kernel
theorem dX9_bestFurrow_1 : decode cX9_bestFurrow 1 = .ok (.istore_n 2, 1) := by decide +kernel
theorem dX9_bestFurrow_2 : decode cX9_bestFurrow 2 = .ok (.iconst (-1), 1) := by decide +kernel
theorem dX9_bestFurrow_3 : decode cX9_bestFurrow 3 = .ok (.istore_n 3, 1) := by decide +kernel
theorem dX9_bestFurrow_4 : decode cX9_bestFurrow 4 = .ok (.iconst 0, 1) := by decide +kernel
theorem dX9_bestFurrow_5 : decode cX9_bestFurrow 5 = .ok (.istore 4, 2) := by decide +kernel
theorem dX9_bestFurrow_7 : decode cX9_bestFurrow 7 = .ok (.iload 4, 2) := by decide +kernel
theorem dX9_bestFurrow_9 : decode cX9_bestFurrow 9 = .ok (.bipush 6, 2) := by decide +kernel
theorem dX9_bestFurrow_11 : decode cX9_bestFurrow 11 = .ok (.if_icmp .ge 30, 3) := by decide +kernel
theorem dX9_bestFurrow_14 : decode cX9_bestFurrow 14 = .ok (.aload_n 0, 1) := by decide +kernel
theorem dX9_bestFurrow_15 : decode cX9_bestFurrow 15 = .ok (.iload_n 1, 1) := by decide +kernel
theorem dX9_bestFurrow_16 : decode cX9_bestFurrow 16 = .ok (.iload 4, 2) := by decide +kernel
theorem dX9_bestFurrow_18 : decode cX9_bestFurrow 18 = .ok (.invokevirtual 214, 3) := by decide +kernel
theorem dX9_bestFurrow_21 : decode cX9_bestFurrow 21 = .ok (.istore 5, 2) := by decide +kernel
theorem dX9_bestFurrow_23 : decode cX9_bestFurrow 23 = .ok (.iload 5, 2) := by decide +kernel
theorem dX9_bestFurrow_25 : decode cX9_bestFurrow 25 = .ok (.iload_n 3, 1) := by decide +kernel
theorem dX9_bestFurrow_26 : decode cX9_bestFurrow 26 = .ok (.if_icmp .le 9, 3) := by decide +kernel
theorem dX9_bestFurrow_29 : decode cX9_bestFurrow 29 = .ok (.iload 5, 2) := by decide +kernel
theorem dX9_bestFurrow_31 : decode cX9_bestFurrow 31 = .ok (.istore_n 3, 1) := by decide +kernel
theorem dX9_bestFurrow_32 : decode cX9_bestFurrow 32 = .ok (.iload 4, 2) := by decide +kernel
theorem dX9_bestFurrow_34 : decode cX9_bestFurrow 34 = .ok (.istore_n 2, 1) := by decide +kernel
theorem dX9_bestFurrow_35 : decode cX9_bestFurrow 35 = .ok (.iinc 4 1, 3) := by decide +kernel
theorem dX9_bestFurrow_38 : decode cX9_bestFurrow 38 = .ok (.goto (-31), 3) := by decide +kernel
theorem dX9_bestFurrow_41 : decode cX9_bestFurrow 41 = .ok (.iload_n 2, 1) := by decide +kernel
theorem dX9_bestFurrow_42 : decode cX9_bestFurrow 42 = .ok (.ireturn, 1) := by decide +kernel
theorem dX9_bestNight_0 : decode cX9_bestNight 0 = .ok (.iconst 0, 1) := by decide +kernel
theorem dX9_bestNight_1 : decode cX9_bestNight 1 = .ok (.istore_n 2, 1) := by decide +kernel
theorem dX9_bestNight_2 : decode cX9_bestNight 2 = .ok (.iconst (-1), 1) := by decide +kernel
theorem dX9_bestNight_3 : decode cX9_bestNight 3 = .ok (.istore_n 3, 1) := by decide +kernel
theorem dX9_bestNight_4 : decode cX9_bestNight 4 = .ok (.iconst 0, 1) := by decide +kernel
theorem dX9_bestNight_5 : decode cX9_bestNight 5 = .ok (.istore 4, 2) := by decide +kernel
theorem dX9_bestNight_7 : decode cX9_bestNight 7 = .ok (.iload 4, 2) := by decide +kernel
theorem dX9_bestNight_9 : decode cX9_bestNight 9 = .ok (.bipush 24, 2) := by decide +kernel
theorem dX9_bestNight_11 : decode cX9_bestNight 11 = .ok (.if_icmp .ge 30, 3) := by decide +kernel
theorem dX9_bestNight_14 : decode cX9_bestNight 14 = .ok (.aload_n 0, 1) := by decide +kernel
theorem dX9_bestNight_15 : decode cX9_bestNight 15 = .ok (.iload 4, 2) := by decide +kernel
theorem dX9_bestNight_17 : decode cX9_bestNight 17 = .ok (.iload_n 1, 1) := by decide +kernel
theorem dX9_bestNight_18 : decode cX9_bestNight 18 = .ok (.invokevirtual 214, 3) := by decide +kernel
theorem dX9_bestNight_21 : decode cX9_bestNight 21 = .ok (.istore 5, 2) := by decide +kernel
theorem dX9_bestNight_23 : decode cX9_bestNight 23 = .ok (.iload 5, 2) := by decide +kernel
theorem dX9_bestNight_25 : decode cX9_bestNight 25 = .ok (.iload_n 3, 1) := by decide +kernel
theorem dX9_bestNight_26 : decode cX9_bestNight 26 = .ok (.if_icmp .le 9, 3) := by decide +kernel
theorem dX9_bestNight_29 : decode cX9_bestNight 29 = .ok (.iload 5, 2) := by decide +kernel
theorem dX9_bestNight_31 : decode cX9_bestNight 31 = .ok (.istore_n 3, 1) := by decide +kernel
theorem dX9_bestNight_32 : decode cX9_bestNight 32 = .ok (.iload 4, 2) := by decide +kernel
theorem dX9_bestNight_34 : decode cX9_bestNight 34 = .ok (.istore_n 2, 1) := by decide +kernel
theorem dX9_bestNight_35 : decode cX9_bestNight 35 = .ok (.iinc 4 1, 3) := by decide +kernel
theorem dX9_bestNight_38 : decode cX9_bestNight 38 = .ok (.goto (-31), 3) := by decide +kernel
theorem dX9_bestNight_41 : decode cX9_bestNight 41 = .ok (.iload_n 2, 1) := by decide +kernel
theorem dX9_bestNight_42 : decode cX9_bestNight 42 = .ok (.ireturn, 1) := by decide +kernel
theorem dX9_bestCell_0 : decode cX9_bestCell 0 = .ok (.iconst (-1), 1) := by decide +kernel
theorem dX9_bestCell_1 : decode cX9_bestCell 1 = .ok (.istore_n 2, 1) := by decide +kernel
theorem dX9_bestCell_2 : decode cX9_bestCell 2 = .ok (.bipush 25, 2) := by decide +kernel
theorem dX9_bestCell_4 : decode cX9_bestCell 4 = .ok (.istore_n 3, 1) := by decide +kernel
theorem dX9_bestCell_5 : decode cX9_bestCell 5 = .ok (.iconst 0, 1) := by decide +kernel
theorem dX9_bestCell_6 : decode cX9_bestCell 6 = .ok (.istore 4, 2) := by decide +kernel
theorem dX9_bestCell_8 : decode cX9_bestCell 8 = .ok (.iload 4, 2) := by decide +kernel
theorem dX9_bestCell_10 : decode cX9_bestCell 10 = .ok (.bipush 36, 2) := by decide +kernel
theorem dX9_bestCell_12 : decode cX9_bestCell 12 = .ok (.if_icmp .ge 64, 3) := by decide +kernel
theorem dX9_bestCell_15 : decode cX9_bestCell 15 = .ok (.aload_n 0, 1) := by decide +kernel
theorem dX9_bestCell_16 : decode cX9_bestCell 16 = .ok (.getfield 24, 3) := by decide +kernel
theorem dX9_bestCell_19 : decode cX9_bestCell 19 = .ok (.iload 4, 2) := by decide +kernel
theorem dX9_bestCell_21 : decode cX9_bestCell 21 = .ok (.bipush 6, 2) := by decide +kernel
theorem dX9_bestCell_23 : decode cX9_bestCell 23 = .ok (.idiv, 1) := by decide +kernel
theorem dX9_bestCell_24 : decode cX9_bestCell 24 = .ok (.iload 4, 2) := by decide +kernel
theorem dX9_bestCell_26 : decode cX9_bestCell 26 = .ok (.bipush 6, 2) := by decide +kernel
theorem dX9_bestCell_28 : decode cX9_bestCell 28 = .ok (.irem, 1) := by decide +kernel
theorem dX9_bestCell_29 : decode cX9_bestCell 29 = .ok (.iload_n 1, 1) := by decide +kernel
theorem dX9_bestCell_30 : decode cX9_bestCell 30 = .ok (.aload_n 0, 1) := by decide +kernel
theorem dX9_bestCell_31 : decode cX9_bestCell 31 = .ok (.getfield 24, 3) := by decide +kernel
theorem dX9_bestCell_34 : decode cX9_bestCell 34 = .ok (.getfield 115, 3) := by decide +kernel
theorem dX9_bestCell_37 : decode cX9_bestCell 37 = .ok (.invokevirtual 341, 3) := by decide +kernel
theorem dX9_bestCell_40 : decode cX9_bestCell 40 = .ok (.ifCond .ne 30, 3) := by decide +kernel
theorem dX9_bestCell_43 : decode cX9_bestCell 43 = .ok (.aload_n 0, 1) := by decide +kernel
theorem dX9_bestCell_44 : decode cX9_bestCell 44 = .ok (.iload_n 1, 1) := by decide +kernel
theorem dX9_bestCell_45 : decode cX9_bestCell 45 = .ok (.iload 4, 2) := by decide +kernel
theorem dX9_bestCell_47 : decode cX9_bestCell 47 = .ok (.invokevirtual 345, 3) := by decide +kernel
theorem dX9_bestCell_50 : decode cX9_bestCell 50 = .ok (.istore 5, 2) := by decide +kernel
theorem dX9_bestCell_52 : decode cX9_bestCell 52 = .ok (.iload 5, 2) := by decide +kernel
theorem dX9_bestCell_54 : decode cX9_bestCell 54 = .ok (.iconst (-1), 1) := by decide +kernel
theorem dX9_bestCell_55 : decode cX9_bestCell 55 = .ok (.if_icmp .eq 15, 3) := by decide +kernel
theorem dX9_bestCell_58 : decode cX9_bestCell 58 = .ok (.iload 5, 2) := by decide +kernel
theorem dX9_bestCell_60 : decode cX9_bestCell 60 = .ok (.iload_n 3, 1) := by decide +kernel
theorem dX9_bestCell_61 : decode cX9_bestCell 61 = .ok (.if_icmp .ge 9, 3) := by decide +kernel
theorem dX9_bestCell_64 : decode cX9_bestCell 64 = .ok (.iload 5, 2) := by decide +kernel
theorem dX9_bestCell_66 : decode cX9_bestCell 66 = .ok (.istore_n 3, 1) := by decide +kernel
theorem dX9_bestCell_67 : decode cX9_bestCell 67 = .ok (.iload 4, 2) := by decide +kernel
theorem dX9_bestCell_69 : decode cX9_bestCell 69 = .ok (.istore_n 2, 1) := by decide +kernel
theorem dX9_bestCell_70 : decode cX9_bestCell 70 = .ok (.iinc 4 1, 3) := by decide +kernel
theorem dX9_bestCell_73 : decode cX9_bestCell 73 = .ok (.goto (-65), 3) := by decide +kernel
theorem dX9_bestCell_76 : decode cX9_bestCell 76 = .ok (.iload_n 2, 1) := by decide +kernel
theorem dX9_bestCell_77 : decode cX9_bestCell 77 = .ok (.ireturn, 1) := by decide +kernel
theorem dX9_nightsUpFrom_0 : decode cX9_nightsUpFrom 0 = .ok (.aload_n 0, 1) := by decide +kernel
theorem dX9_nightsUpFrom_1 : decode cX9_nightsUpFrom 1 = .ok (.getfield 24, 3) := by decide +kernel
theorem dX9_nightsUpFrom_4 : decode cX9_nightsUpFrom 4 = .ok (.getfield 119, 3) := by decide +kernel
theorem dX9_nightsUpFrom_7 : decode cX9_nightsUpFrom 7 = .ok (.iload_n 1, 1) := by decide +kernel
theorem dX9_nightsUpFrom_8 : decode cX9_nightsUpFrom 8 = .ok (.iaload, 1) := by decide +kernel
theorem dX9_nightsUpFrom_9 : decode cX9_nightsUpFrom 9 = .ok (.istore_n 3, 1) := by decide +kernel
theorem dX9_nightsUpFrom_10 : decode cX9_nightsUpFrom 10 = .ok (.aload_n 0, 1) := by decide +kernel
theorem dX9_nightsUpFrom_11 : decode cX9_nightsUpFrom 11 = .ok (.getfield 24, 3) := by decide +kernel
theorem dX9_nightsUpFrom_14 : decode cX9_nightsUpFrom 14 = .ok (.getfield 122, 3) := by decide +kernel
theorem dX9_nightsUpFrom_17 : decode cX9_nightsUpFrom 17 = .ok (.iload_n 1, 1) := by decide +kernel
theorem dX9_nightsUpFrom_18 : decode cX9_nightsUpFrom 18 = .ok (.iaload, 1) := by decide +kernel
theorem dX9_nightsUpFrom_19 : decode cX9_nightsUpFrom 19 = .ok (.istore 4, 2) := by decide +kernel
theorem dX9_nightsUpFrom_21 : decode cX9_nightsUpFrom 21 = .ok (.aload_n 0, 1) := by decide +kernel
theorem dX9_nightsUpFrom_22 : decode cX9_nightsUpFrom 22 = .ok (.getfield 24, 3) := by decide +kernel
theorem dX9_nightsUpFrom_25 : decode cX9_nightsUpFrom 25 = .ok (.getfield 119, 3) := by decide +kernel
theorem dX9_nightsUpFrom_28 : decode cX9_nightsUpFrom 28 = .ok (.iload_n 1, 1) := by decide +kernel
theorem dX9_nightsUpFrom_29 : decode cX9_nightsUpFrom 29 = .ok (.iload_n 2, 1) := by decide +kernel
theorem dX9_nightsUpFrom_30 : decode cX9_nightsUpFrom 30 = .ok (.bipush 6, 2) := by decide +kernel
theorem dX9_nightsUpFrom_32 : decode cX9_nightsUpFrom 32 = .ok (.idiv, 1) := by decide +kernel
theorem dX9_nightsUpFrom_33 : decode cX9_nightsUpFrom 33 = .ok (.iastore, 1) := by decide +kernel
theorem dX9_nightsUpFrom_34 : decode cX9_nightsUpFrom 34 = .ok (.aload_n 0, 1) := by decide +kernel
theorem dX9_nightsUpFrom_35 : decode cX9_nightsUpFrom 35 = .ok (.getfield 24, 3) := by decide +kernel
theorem dX9_nightsUpFrom_38 : decode cX9_nightsUpFrom 38 = .ok (.getfield 122, 3) := by decide +kernel
theorem dX9_nightsUpFrom_41 : decode cX9_nightsUpFrom 41 = .ok (.iload_n 1, 1) := by decide +kernel
theorem dX9_nightsUpFrom_42 : decode cX9_nightsUpFrom 42 = .ok (.iload_n 2, 1) := by decide +kernel
theorem dX9_nightsUpFrom_43 : decode cX9_nightsUpFrom 43 = .ok (.bipush 6, 2) := by decide +kernel
theorem dX9_nightsUpFrom_45 : decode cX9_nightsUpFrom 45 = .ok (.irem, 1) := by decide +kernel
theorem dX9_nightsUpFrom_46 : decode cX9_nightsUpFrom 46 = .ok (.iastore, 1) := by decide +kernel
theorem dX9_nightsUpFrom_47 : decode cX9_nightsUpFrom 47 = .ok (.aload_n 0, 1) := by decide +kernel
theorem dX9_nightsUpFrom_48 : decode cX9_nightsUpFrom 48 = .ok (.getfield 59, 3) := by decide +kernel
theorem dX9_nightsUpFrom_51 : decode cX9_nightsUpFrom 51 = .ok (.aload_n 0, 1) := by decide +kernel
theorem dX9_nightsUpFrom_52 : decode cX9_nightsUpFrom 52 = .ok (.getfield 24, 3) := by decide +kernel
theorem dX9_nightsUpFrom_55 : decode cX9_nightsUpFrom 55 = .ok (.aload_n 0, 1) := by decide +kernel
theorem dX9_nightsUpFrom_56 : decode cX9_nightsUpFrom 56 = .ok (.getfield 31, 3) := by decide +kernel
theorem dX9_nightsUpFrom_59 : decode cX9_nightsUpFrom 59 = .ok (.aload_n 0, 1) := by decide +kernel
theorem dX9_nightsUpFrom_60 : decode cX9_nightsUpFrom 60 = .ok (.getfield 38, 3) := by decide +kernel
theorem dX9_nightsUpFrom_63 : decode cX9_nightsUpFrom 63 = .ok (.iconst (-1), 1) := by decide +kernel
theorem dX9_nightsUpFrom_64 : decode cX9_nightsUpFrom 64 = .ok (.invokevirtual 235, 3) := by decide +kernel
theorem dX9_nightsUpFrom_67 : decode cX9_nightsUpFrom 67 = .ok (.aload_n 0, 1) := by decide +kernel
theorem dX9_nightsUpFrom_68 : decode cX9_nightsUpFrom 68 = .ok (.getfield 24, 3) := by decide +kernel
theorem dX9_nightsUpFrom_71 : decode cX9_nightsUpFrom 71 = .ok (.getfield 119, 3) := by decide +kernel
theorem dX9_nightsUpFrom_74 : decode cX9_nightsUpFrom 74 = .ok (.iload_n 1, 1) := by decide +kernel
theorem dX9_nightsUpFrom_75 : decode cX9_nightsUpFrom 75 = .ok (.iload_n 3, 1) := by decide +kernel
theorem dX9_nightsUpFrom_76 : decode cX9_nightsUpFrom 76 = .ok (.iastore, 1) := by decide +kernel
theorem dX9_nightsUpFrom_77 : decode cX9_nightsUpFrom 77 = .ok (.aload_n 0, 1) := by decide +kernel
theorem dX9_nightsUpFrom_78 : decode cX9_nightsUpFrom 78 = .ok (.getfield 24, 3) := by decide +kernel
theorem dX9_nightsUpFrom_81 : decode cX9_nightsUpFrom 81 = .ok (.getfield 122, 3) := by decide +kernel
theorem dX9_nightsUpFrom_84 : decode cX9_nightsUpFrom 84 = .ok (.iload_n 1, 1) := by decide +kernel
theorem dX9_nightsUpFrom_85 : decode cX9_nightsUpFrom 85 = .ok (.iload 4, 2) := by decide +kernel
theorem dX9_nightsUpFrom_87 : decode cX9_nightsUpFrom 87 = .ok (.iastore, 1) := by decide +kernel
theorem dX9_nightsUpFrom_88 : decode cX9_nightsUpFrom 88 = .ok (.aload_n 0, 1) := by decide +kernel
theorem dX9_nightsUpFrom_89 : decode cX9_nightsUpFrom 89 = .ok (.getfield 59, 3) := by decide +kernel
theorem dX9_nightsUpFrom_92 : decode cX9_nightsUpFrom 92 = .ok (.getfield 208, 3) := by decide +kernel
theorem dX9_nightsUpFrom_95 : decode cX9_nightsUpFrom 95 = .ok (.iload_n 1, 1) := by decide +kernel
theorem dX9_nightsUpFrom_96 : decode cX9_nightsUpFrom 96 = .ok (.iaload, 1) := by decide +kernel
theorem dX9_nightsUpFrom_97 : decode cX9_nightsUpFrom 97 = .ok (.ifCond .ne 7, 3) := by decide +kernel
theorem dX9_nightsUpFrom_100 : decode cX9_nightsUpFrom 100 = .ok (.iconst (-1), 1) := by decide +kernel
theorem dX9_nightsUpFrom_101 : decode cX9_nightsUpFrom 101 = .ok (.goto 11, 3) := by decide +kernel
theorem dX9_nightsUpFrom_104 : decode cX9_nightsUpFrom 104 = .ok (.aload_n 0, 1) := by decide +kernel
theorem dX9_nightsUpFrom_105 : decode cX9_nightsUpFrom 105 = .ok (.getfield 59, 3) := by decide +kernel
theorem dX9_nightsUpFrom_108 : decode cX9_nightsUpFrom 108 = .ok (.iload_n 1, 1) := by decide +kernel
theorem dX9_nightsUpFrom_109 : decode cX9_nightsUpFrom 109 = .ok (.invokevirtual 193, 3) := by decide +kernel
theorem dX9_nightsUpFrom_112 : decode cX9_nightsUpFrom 112 = .ok (.ireturn, 1) := by decide +kernel
theorem dX9_tellCell_0 : decode cX9_tellCell 0 = .ok (.iload_n 2, 1) := by decide +kernel
theorem dX9_tellCell_1 : decode cX9_tellCell 1 = .ok (.iconst (-1), 1) := by decide +kernel
theorem dX9_tellCell_2 : decode cX9_tellCell 2 = .ok (.if_icmp .ne 5, 3) := by decide +kernel
theorem dX9_tellCell_5 : decode cX9_tellCell 5 = .ok (.iconst (-1), 1) := by decide +kernel
theorem dX9_tellCell_6 : decode cX9_tellCell 6 = .ok (.ireturn, 1) := by decide +kernel
theorem dX9_tellCell_7 : decode cX9_tellCell 7 = .ok (.iload_n 3, 1) := by decide +kernel
theorem dX9_tellCell_8 : decode cX9_tellCell 8 = .ok (.lookupswitch 38 #[(0, 28), (1, 33)], 28) := by decide +kernel
theorem dX9_tellCell_36 : decode cX9_tellCell 36 = .ok (.iload_n 2, 1) := by decide +kernel
theorem dX9_tellCell_37 : decode cX9_tellCell 37 = .ok (.bipush 6, 2) := by decide +kernel
theorem dX9_tellCell_39 : decode cX9_tellCell 39 = .ok (.idiv, 1) := by decide +kernel
theorem dX9_tellCell_40 : decode cX9_tellCell 40 = .ok (.ireturn, 1) := by decide +kernel
theorem dX9_tellCell_41 : decode cX9_tellCell 41 = .ok (.iload_n 2, 1) := by decide +kernel
theorem dX9_tellCell_42 : decode cX9_tellCell 42 = .ok (.bipush 6, 2) := by decide +kernel
theorem dX9_tellCell_44 : decode cX9_tellCell 44 = .ok (.irem, 1) := by decide +kernel
theorem dX9_tellCell_45 : decode cX9_tellCell 45 = .ok (.ireturn, 1) := by decide +kernel
theorem dX9_tellCell_46 : decode cX9_tellCell 46 = .ok (.aload_n 0, 1) := by decide +kernel
theorem dX9_tellCell_47 : decode cX9_tellCell 47 = .ok (.iload_n 1, 1) := by decide +kernel
theorem dX9_tellCell_48 : decode cX9_tellCell 48 = .ok (.iload_n 2, 1) := by decide +kernel
theorem dX9_tellCell_49 : decode cX9_tellCell 49 = .ok (.invokevirtual 345, 3) := by decide +kernel
theorem dX9_tellCell_52 : decode cX9_tellCell 52 = .ok (.ireturn, 1) := by decide +kernel
theorem dX9_spareEvents_0 : decode cX9_spareEvents 0 = .ok (.aload_n 0, 1) := by decide +kernel
theorem dX9_spareEvents_1 : decode cX9_spareEvents 1 = .ok (.iconst 0, 1) := by decide +kernel
theorem dX9_spareEvents_2 : decode cX9_spareEvents 2 = .ok (.invokevirtual 348, 3) := by decide +kernel
theorem dX9_spareEvents_5 : decode cX9_spareEvents 5 = .ok (.ifCond .eq 5, 3) := by decide +kernel
theorem dX9_spareEvents_8 : decode cX9_spareEvents 8 = .ok (.iconst 0, 1) := by decide +kernel
theorem dX9_spareEvents_9 : decode cX9_spareEvents 9 = .ok (.ireturn, 1) := by decide +kernel
theorem dX9_spareEvents_10 : decode cX9_spareEvents 10 = .ok (.iconst 0, 1) := by decide +kernel
theorem dX9_spareEvents_11 : decode cX9_spareEvents 11 = .ok (.istore_n 1, 1) := by decide +kernel
theorem dX9_spareEvents_12 : decode cX9_spareEvents 12 = .ok (.iload_n 1, 1) := by decide +kernel
theorem dX9_spareEvents_13 : decode cX9_spareEvents 13 = .ok (.aload_n 0, 1) := by decide +kernel
theorem dX9_spareEvents_14 : decode cX9_spareEvents 14 = .ok (.getfield 38, 3) := by decide +kernel
theorem dX9_spareEvents_17 : decode cX9_spareEvents 17 = .ok (.getfield 138, 3) := by decide +kernel
theorem dX9_spareEvents_20 : decode cX9_spareEvents 20 = .ok (.if_icmp .ge 23, 3) := by decide +kernel
theorem dX9_spareEvents_23 : decode cX9_spareEvents 23 = .ok (.aload_n 0, 1) := by decide +kernel
theorem dX9_spareEvents_24 : decode cX9_spareEvents 24 = .ok (.iconst 1, 1) := by decide +kernel
theorem dX9_spareEvents_25 : decode cX9_spareEvents 25 = .ok (.iload_n 1, 1) := by decide +kernel
theorem dX9_spareEvents_26 : decode cX9_spareEvents 26 = .ok (.ishl, 1) := by decide +kernel
theorem dX9_spareEvents_27 : decode cX9_spareEvents 27 = .ok (.invokevirtual 348, 3) := by decide +kernel
theorem dX9_spareEvents_30 : decode cX9_spareEvents 30 = .ok (.ifCond .eq 7, 3) := by decide +kernel
theorem dX9_spareEvents_33 : decode cX9_spareEvents 33 = .ok (.iconst 1, 1) := by decide +kernel
theorem dX9_spareEvents_34 : decode cX9_spareEvents 34 = .ok (.iload_n 1, 1) := by decide +kernel
theorem dX9_spareEvents_35 : decode cX9_spareEvents 35 = .ok (.ishl, 1) := by decide +kernel
theorem dX9_spareEvents_36 : decode cX9_spareEvents 36 = .ok (.ireturn, 1) := by decide +kernel
theorem dX9_spareEvents_37 : decode cX9_spareEvents 37 = .ok (.iinc 1 1, 3) := by decide +kernel
theorem dX9_spareEvents_40 : decode cX9_spareEvents 40 = .ok (.goto (-28), 3) := by decide +kernel
theorem dX9_spareEvents_43 : decode cX9_spareEvents 43 = .ok (.iconst 0, 1) := by decide +kernel
theorem dX9_spareEvents_44 : decode cX9_spareEvents 44 = .ok (.istore_n 1, 1) := by decide +kernel
theorem dX9_spareEvents_45 : decode cX9_spareEvents 45 = .ok (.iload_n 1, 1) := by decide +kernel
theorem dX9_spareEvents_46 : decode cX9_spareEvents 46 = .ok (.aload_n 0, 1) := by decide +kernel
theorem dX9_spareEvents_47 : decode cX9_spareEvents 47 = .ok (.getfield 38, 3) := by decide +kernel
theorem dX9_spareEvents_50 : decode cX9_spareEvents 50 = .ok (.getfield 138, 3) := by decide +kernel
theorem dX9_spareEvents_53 : decode cX9_spareEvents 53 = .ok (.if_icmp .ge 48, 3) := by decide +kernel
theorem dX9_spareEvents_56 : decode cX9_spareEvents 56 = .ok (.iload_n 1, 1) := by decide +kernel
theorem dX9_spareEvents_57 : decode cX9_spareEvents 57 = .ok (.iconst 1, 1) := by decide +kernel
theorem dX9_spareEvents_58 : decode cX9_spareEvents 58 = .ok (.iadd, 1) := by decide +kernel
theorem dX9_spareEvents_59 : decode cX9_spareEvents 59 = .ok (.istore_n 2, 1) := by decide +kernel
theorem dX9_spareEvents_60 : decode cX9_spareEvents 60 = .ok (.iload_n 2, 1) := by decide +kernel
theorem dX9_spareEvents_61 : decode cX9_spareEvents 61 = .ok (.aload_n 0, 1) := by decide +kernel
theorem dX9_spareEvents_62 : decode cX9_spareEvents 62 = .ok (.getfield 38, 3) := by decide +kernel
theorem dX9_spareEvents_65 : decode cX9_spareEvents 65 = .ok (.getfield 138, 3) := by decide +kernel
theorem dX9_spareEvents_68 : decode cX9_spareEvents 68 = .ok (.if_icmp .ge 27, 3) := by decide +kernel
theorem dX9_spareEvents_71 : decode cX9_spareEvents 71 = .ok (.iconst 1, 1) := by decide +kernel
theorem dX9_spareEvents_72 : decode cX9_spareEvents 72 = .ok (.iload_n 1, 1) := by decide +kernel
theorem dX9_spareEvents_73 : decode cX9_spareEvents 73 = .ok (.ishl, 1) := by decide +kernel
theorem dX9_spareEvents_74 : decode cX9_spareEvents 74 = .ok (.iconst 1, 1) := by decide +kernel
theorem dX9_spareEvents_75 : decode cX9_spareEvents 75 = .ok (.iload_n 2, 1) := by decide +kernel
theorem dX9_spareEvents_76 : decode cX9_spareEvents 76 = .ok (.ishl, 1) := by decide +kernel
theorem dX9_spareEvents_77 : decode cX9_spareEvents 77 = .ok (.ior, 1) := by decide +kernel
theorem dX9_spareEvents_78 : decode cX9_spareEvents 78 = .ok (.istore_n 3, 1) := by decide +kernel
theorem dX9_spareEvents_79 : decode cX9_spareEvents 79 = .ok (.aload_n 0, 1) := by decide +kernel
theorem dX9_spareEvents_80 : decode cX9_spareEvents 80 = .ok (.iload_n 3, 1) := by decide +kernel
theorem dX9_spareEvents_81 : decode cX9_spareEvents 81 = .ok (.invokevirtual 348, 3) := by decide +kernel
theorem dX9_spareEvents_84 : decode cX9_spareEvents 84 = .ok (.ifCond .eq 5, 3) := by decide +kernel
theorem dX9_spareEvents_87 : decode cX9_spareEvents 87 = .ok (.iload_n 3, 1) := by decide +kernel
theorem dX9_spareEvents_88 : decode cX9_spareEvents 88 = .ok (.ireturn, 1) := by decide +kernel
theorem dX9_spareEvents_89 : decode cX9_spareEvents 89 = .ok (.iinc 2 1, 3) := by decide +kernel
theorem dX9_spareEvents_92 : decode cX9_spareEvents 92 = .ok (.goto (-32), 3) := by decide +kernel
theorem dX9_spareEvents_95 : decode cX9_spareEvents 95 = .ok (.iinc 1 1, 3) := by decide +kernel
theorem dX9_spareEvents_98 : decode cX9_spareEvents 98 = .ok (.goto (-53), 3) := by decide +kernel
theorem dX9_spareEvents_101 : decode cX9_spareEvents 101 = .ok (.iconst (-1), 1) := by decide +kernel
theorem dX9_spareEvents_102 : decode cX9_spareEvents 102 = .ok (.ireturn, 1) := by decide +kernel
theorem dX9_placeOfBit_0 : decode cX9_placeOfBit 0 = .ok (.iconst 0, 1) := by decide +kernel
theorem dX9_placeOfBit_1 : decode cX9_placeOfBit 1 = .ok (.istore_n 2, 1) := by decide +kernel
theorem dX9_placeOfBit_2 : decode cX9_placeOfBit 2 = .ok (.iconst 0, 1) := by decide +kernel
theorem dX9_placeOfBit_3 : decode cX9_placeOfBit 3 = .ok (.istore_n 3, 1) := by decide +kernel
theorem dX9_placeOfBit_4 : decode cX9_placeOfBit 4 = .ok (.iload_n 3, 1) := by decide +kernel
theorem dX9_placeOfBit_5 : decode cX9_placeOfBit 5 = .ok (.bipush 8, 2) := by decide +kernel
theorem dX9_placeOfBit_7 : decode cX9_placeOfBit 7 = .ok (.if_icmp .ge 27, 3) := by decide +kernel
theorem dX9_placeOfBit_10 : decode cX9_placeOfBit 10 = .ok (.iload_n 0, 1) := by decide +kernel
theorem dX9_placeOfBit_11 : decode cX9_placeOfBit 11 = .ok (.iload_n 3, 1) := by decide +kernel
theorem dX9_placeOfBit_12 : decode cX9_placeOfBit 12 = .ok (.ishr, 1) := by decide +kernel
theorem dX9_placeOfBit_13 : decode cX9_placeOfBit 13 = .ok (.iconst 1, 1) := by decide +kernel
theorem dX9_placeOfBit_14 : decode cX9_placeOfBit 14 = .ok (.iand, 1) := by decide +kernel
theorem dX9_placeOfBit_15 : decode cX9_placeOfBit 15 = .ok (.ifCond .eq 13, 3) := by decide +kernel
theorem dX9_placeOfBit_18 : decode cX9_placeOfBit 18 = .ok (.iload_n 2, 1) := by decide +kernel
theorem dX9_placeOfBit_19 : decode cX9_placeOfBit 19 = .ok (.iload_n 1, 1) := by decide +kernel
theorem dX9_placeOfBit_20 : decode cX9_placeOfBit 20 = .ok (.if_icmp .ne 5, 3) := by decide +kernel
theorem dX9_placeOfBit_23 : decode cX9_placeOfBit 23 = .ok (.iload_n 3, 1) := by decide +kernel
theorem dX9_placeOfBit_24 : decode cX9_placeOfBit 24 = .ok (.ireturn, 1) := by decide +kernel
theorem dX9_placeOfBit_25 : decode cX9_placeOfBit 25 = .ok (.iinc 2 1, 3) := by decide +kernel
theorem dX9_placeOfBit_28 : decode cX9_placeOfBit 28 = .ok (.iinc 3 1, 3) := by decide +kernel
theorem dX9_placeOfBit_31 : decode cX9_placeOfBit 31 = .ok (.goto (-27), 3) := by decide +kernel
theorem dX9_placeOfBit_34 : decode cX9_placeOfBit 34 = .ok (.iconst (-1), 1) := by decide +kernel
theorem dX9_placeOfBit_35 : decode cX9_placeOfBit 35 = .ok (.ireturn, 1) := by decide +kernel
theorem dX9_isRightWithout_0 : decode cX9_isRightWithout 0 = .ok (.aload_n 0, 1) := by decide +kernel
theorem dX9_isRightWithout_1 : decode cX9_isRightWithout 1 = .ok (.getfield 59, 3) := by decide +kernel
theorem dX9_isRightWithout_4 : decode cX9_isRightWithout 4 = .ok (.aload_n 0, 1) := by decide +kernel
theorem dX9_isRightWithout_5 : decode cX9_isRightWithout 5 = .ok (.getfield 24, 3) := by decide +kernel
theorem dX9_isRightWithout_8 : decode cX9_isRightWithout 8 = .ok (.aload_n 0, 1) := by decide +kernel
theorem dX9_isRightWithout_9 : decode cX9_isRightWithout 9 = .ok (.getfield 31, 3) := by decide +kernel
theorem dX9_isRightWithout_12 : decode cX9_isRightWithout 12 = .ok (.aload_n 0, 1) := by decide +kernel
theorem dX9_isRightWithout_13 : decode cX9_isRightWithout 13 = .ok (.getfield 38, 3) := by decide +kernel
theorem dX9_isRightWithout_16 : decode cX9_isRightWithout 16 = .ok (.iload_n 1, 1) := by decide +kernel
theorem dX9_isRightWithout_17 : decode cX9_isRightWithout 17 = .ok (.iconst (-1), 1) := by decide +kernel
theorem dX9_isRightWithout_18 : decode cX9_isRightWithout 18 = .ok (.ixor, 1) := by decide +kernel
theorem dX9_isRightWithout_19 : decode cX9_isRightWithout 19 = .ok (.invokevirtual 235, 3) := by decide +kernel
theorem dX9_isRightWithout_22 : decode cX9_isRightWithout 22 = .ok (.aload_n 0, 1) := by decide +kernel
theorem dX9_isRightWithout_23 : decode cX9_isRightWithout 23 = .ok (.getfield 59, 3) := by decide +kernel
theorem dX9_isRightWithout_26 : decode cX9_isRightWithout 26 = .ok (.getfield 196, 3) := by decide +kernel
theorem dX9_isRightWithout_29 : decode cX9_isRightWithout 29 = .ok (.ifCond .ne 7, 3) := by decide +kernel
theorem dX9_isRightWithout_32 : decode cX9_isRightWithout 32 = .ok (.iconst 1, 1) := by decide +kernel
theorem dX9_isRightWithout_33 : decode cX9_isRightWithout 33 = .ok (.goto 4, 3) := by decide +kernel
theorem dX9_isRightWithout_36 : decode cX9_isRightWithout 36 = .ok (.iconst 0, 1) := by decide +kernel
theorem dX9_isRightWithout_37 : decode cX9_isRightWithout 37 = .ok (.ireturn, 1) := by decide +kernel
theorem dX9_fittingSorts_0 : decode cX9_fittingSorts 0 = .ok (.aload_n 0, 1) := by decide +kernel
theorem dX9_fittingSorts_1 : decode cX9_fittingSorts 1 = .ok (.getfield 24, 3) := by decide +kernel
theorem dX9_fittingSorts_4 : decode cX9_fittingSorts 4 = .ok (.getfield 116, 3) := by decide +kernel
theorem dX9_fittingSorts_7 : decode cX9_fittingSorts 7 = .ok (.iload_n 1, 1) := by decide +kernel
theorem dX9_fittingSorts_8 : decode cX9_fittingSorts 8 = .ok (.iaload, 1) := by decide +kernel
theorem dX9_fittingSorts_9 : decode cX9_fittingSorts 9 = .ok (.istore_n 2, 1) := by decide +kernel
theorem dX9_fittingSorts_10 : decode cX9_fittingSorts 10 = .ok (.iconst 0, 1) := by decide +kernel
theorem dX9_fittingSorts_11 : decode cX9_fittingSorts 11 = .ok (.istore_n 3, 1) := by decide +kernel
theorem dX9_fittingSorts_12 : decode cX9_fittingSorts 12 = .ok (.iconst 0, 1) := by decide +kernel
theorem dX9_fittingSorts_13 : decode cX9_fittingSorts 13 = .ok (.istore 4, 2) := by decide +kernel
theorem dX9_fittingSorts_15 : decode cX9_fittingSorts 15 = .ok (.iload 4, 2) := by decide +kernel
theorem dX9_fittingSorts_17 : decode cX9_fittingSorts 17 = .ok (.iconst 3, 1) := by decide +kernel
theorem dX9_fittingSorts_18 : decode cX9_fittingSorts 18 = .ok (.if_icmp .ge 68, 3) := by decide +kernel
theorem dX9_fittingSorts_21 : decode cX9_fittingSorts 21 = .ok (.aload_n 0, 1) := by decide +kernel
theorem dX9_fittingSorts_22 : decode cX9_fittingSorts 22 = .ok (.getfield 24, 3) := by decide +kernel
theorem dX9_fittingSorts_25 : decode cX9_fittingSorts 25 = .ok (.getfield 116, 3) := by decide +kernel
theorem dX9_fittingSorts_28 : decode cX9_fittingSorts 28 = .ok (.iload_n 1, 1) := by decide +kernel
theorem dX9_fittingSorts_29 : decode cX9_fittingSorts 29 = .ok (.iload 4, 2) := by decide +kernel
theorem dX9_fittingSorts_31 : decode cX9_fittingSorts 31 = .ok (.iastore, 1) := by decide +kernel
theorem dX9_fittingSorts_32 : decode cX9_fittingSorts 32 = .ok (.aload_n 0, 1) := by decide +kernel
theorem dX9_fittingSorts_33 : decode cX9_fittingSorts 33 = .ok (.getfield 59, 3) := by decide +kernel
theorem dX9_fittingSorts_36 : decode cX9_fittingSorts 36 = .ok (.aload_n 0, 1) := by decide +kernel
theorem dX9_fittingSorts_37 : decode cX9_fittingSorts 37 = .ok (.getfield 24, 3) := by decide +kernel
theorem dX9_fittingSorts_40 : decode cX9_fittingSorts 40 = .ok (.aload_n 0, 1) := by decide +kernel
theorem dX9_fittingSorts_41 : decode cX9_fittingSorts 41 = .ok (.getfield 31, 3) := by decide +kernel
theorem dX9_fittingSorts_44 : decode cX9_fittingSorts 44 = .ok (.aload_n 0, 1) := by decide +kernel
theorem dX9_fittingSorts_45 : decode cX9_fittingSorts 45 = .ok (.getfield 38, 3) := by decide +kernel
theorem dX9_fittingSorts_48 : decode cX9_fittingSorts 48 = .ok (.iconst (-1), 1) := by decide +kernel
theorem dX9_fittingSorts_49 : decode cX9_fittingSorts 49 = .ok (.invokevirtual 235, 3) := by decide +kernel
theorem dX9_fittingSorts_52 : decode cX9_fittingSorts 52 = .ok (.aload_n 0, 1) := by decide +kernel
theorem dX9_fittingSorts_53 : decode cX9_fittingSorts 53 = .ok (.getfield 48, 3) := by decide +kernel
theorem dX9_fittingSorts_56 : decode cX9_fittingSorts 56 = .ok (.aload_n 0, 1) := by decide +kernel
theorem dX9_fittingSorts_57 : decode cX9_fittingSorts 57 = .ok (.getfield 59, 3) := by decide +kernel
theorem dX9_fittingSorts_60 : decode cX9_fittingSorts 60 = .ok (.aload_n 0, 1) := by decide +kernel
theorem dX9_fittingSorts_61 : decode cX9_fittingSorts 61 = .ok (.getfield 24, 3) := by decide +kernel
theorem dX9_fittingSorts_64 : decode cX9_fittingSorts 64 = .ok (.getfield 115, 3) := by decide +kernel
theorem dX9_fittingSorts_67 : decode cX9_fittingSorts 67 = .ok (.invokevirtual 239, 3) := by decide +kernel
theorem dX9_fittingSorts_70 : decode cX9_fittingSorts 70 = .ok (.ifCond .eq 10, 3) := by decide +kernel
theorem dX9_fittingSorts_73 : decode cX9_fittingSorts 73 = .ok (.iload_n 3, 1) := by decide +kernel
theorem dX9_fittingSorts_74 : decode cX9_fittingSorts 74 = .ok (.iconst 1, 1) := by decide +kernel
theorem dX9_fittingSorts_75 : decode cX9_fittingSorts 75 = .ok (.iload 4, 2) := by decide +kernel
theorem dX9_fittingSorts_77 : decode cX9_fittingSorts 77 = .ok (.ishl, 1) := by decide +kernel
theorem dX9_fittingSorts_78 : decode cX9_fittingSorts 78 = .ok (.ior, 1) := by decide +kernel
theorem dX9_fittingSorts_79 : decode cX9_fittingSorts 79 = .ok (.istore_n 3, 1) := by decide +kernel
theorem dX9_fittingSorts_80 : decode cX9_fittingSorts 80 = .ok (.iinc 4 1, 3) := by decide +kernel
theorem dX9_fittingSorts_83 : decode cX9_fittingSorts 83 = .ok (.goto (-68), 3) := by decide +kernel
theorem dX9_fittingSorts_86 : decode cX9_fittingSorts 86 = .ok (.aload_n 0, 1) := by decide +kernel
theorem dX9_fittingSorts_87 : decode cX9_fittingSorts 87 = .ok (.getfield 24, 3) := by decide +kernel
theorem dX9_fittingSorts_90 : decode cX9_fittingSorts 90 = .ok (.getfield 116, 3) := by decide +kernel
theorem dX9_fittingSorts_93 : decode cX9_fittingSorts 93 = .ok (.iload_n 1, 1) := by decide +kernel
theorem dX9_fittingSorts_94 : decode cX9_fittingSorts 94 = .ok (.iload_n 2, 1) := by decide +kernel
theorem dX9_fittingSorts_95 : decode cX9_fittingSorts 95 = .ok (.iastore, 1) := by decide +kernel
theorem dX9_fittingSorts_96 : decode cX9_fittingSorts 96 = .ok (.iload_n 3, 1) := by decide +kernel
theorem dX9_fittingSorts_97 : decode cX9_fittingSorts 97 = .ok (.ireturn, 1) := by decide +kernel
theorem dX9_fittingFars_0 : decode cX9_fittingFars 0 = .ok (.aload_n 0, 1) := by decide +kernel
theorem dX9_fittingFars_1 : decode cX9_fittingFars 1 = .ok (.getfield 24, 3) := by decide +kernel
theorem dX9_fittingFars_4 : decode cX9_fittingFars 4 = .ok (.getfield 125, 3) := by decide +kernel
theorem dX9_fittingFars_7 : decode cX9_fittingFars 7 = .ok (.iload_n 1, 1) := by decide +kernel
theorem dX9_fittingFars_8 : decode cX9_fittingFars 8 = .ok (.iaload, 1) := by decide +kernel
theorem dX9_fittingFars_9 : decode cX9_fittingFars 9 = .ok (.istore_n 2, 1) := by decide +kernel
theorem dX9_fittingFars_10 : decode cX9_fittingFars 10 = .ok (.iconst 0, 1) := by decide +kernel
theorem dX9_fittingFars_11 : decode cX9_fittingFars 11 = .ok (.istore_n 3, 1) := by decide +kernel
theorem dX9_fittingFars_12 : decode cX9_fittingFars 12 = .ok (.iconst 0, 1) := by decide +kernel
theorem dX9_fittingFars_13 : decode cX9_fittingFars 13 = .ok (.istore 4, 2) := by decide +kernel
theorem dX9_fittingFars_15 : decode cX9_fittingFars 15 = .ok (.iconst 1, 1) := by decide +kernel
theorem dX9_fittingFars_16 : decode cX9_fittingFars 16 = .ok (.istore 5, 2) := by decide +kernel
theorem dX9_fittingFars_18 : decode cX9_fittingFars 18 = .ok (.iload 5, 2) := by decide +kernel
theorem dX9_fittingFars_20 : decode cX9_fittingFars 20 = .ok (.bipush 9, 2) := by decide +kernel
theorem dX9_fittingFars_22 : decode cX9_fittingFars 22 = .ok (.if_icmp .gt 93, 3) := by decide +kernel
theorem dX9_fittingFars_25 : decode cX9_fittingFars 25 = .ok (.aload_n 0, 1) := by decide +kernel
theorem dX9_fittingFars_26 : decode cX9_fittingFars 26 = .ok (.getfield 24, 3) := by decide +kernel
theorem dX9_fittingFars_29 : decode cX9_fittingFars 29 = .ok (.getfield 125, 3) := by decide +kernel
theorem dX9_fittingFars_32 : decode cX9_fittingFars 32 = .ok (.iload_n 1, 1) := by decide +kernel
theorem dX9_fittingFars_33 : decode cX9_fittingFars 33 = .ok (.iload 5, 2) := by decide +kernel
theorem dX9_fittingFars_35 : decode cX9_fittingFars 35 = .ok (.iastore, 1) := by decide +kernel
theorem dX9_fittingFars_36 : decode cX9_fittingFars 36 = .ok (.aload_n 0, 1) := by decide +kernel
theorem dX9_fittingFars_37 : decode cX9_fittingFars 37 = .ok (.getfield 59, 3) := by decide +kernel
theorem dX9_fittingFars_40 : decode cX9_fittingFars 40 = .ok (.aload_n 0, 1) := by decide +kernel
theorem dX9_fittingFars_41 : decode cX9_fittingFars 41 = .ok (.getfield 24, 3) := by decide +kernel
theorem dX9_fittingFars_44 : decode cX9_fittingFars 44 = .ok (.aload_n 0, 1) := by decide +kernel
theorem dX9_fittingFars_45 : decode cX9_fittingFars 45 = .ok (.getfield 31, 3) := by decide +kernel
theorem dX9_fittingFars_48 : decode cX9_fittingFars 48 = .ok (.aload_n 0, 1) := by decide +kernel
theorem dX9_fittingFars_49 : decode cX9_fittingFars 49 = .ok (.getfield 38, 3) := by decide +kernel
theorem dX9_fittingFars_52 : decode cX9_fittingFars 52 = .ok (.iconst (-1), 1) := by decide +kernel
theorem dX9_fittingFars_53 : decode cX9_fittingFars 53 = .ok (.invokevirtual 235, 3) := by decide +kernel
theorem dX9_fittingFars_56 : decode cX9_fittingFars 56 = .ok (.aload_n 0, 1) := by decide +kernel
theorem dX9_fittingFars_57 : decode cX9_fittingFars 57 = .ok (.getfield 48, 3) := by decide +kernel
theorem dX9_fittingFars_60 : decode cX9_fittingFars 60 = .ok (.aload_n 0, 1) := by decide +kernel
theorem dX9_fittingFars_61 : decode cX9_fittingFars 61 = .ok (.getfield 59, 3) := by decide +kernel
theorem dX9_fittingFars_64 : decode cX9_fittingFars 64 = .ok (.aload_n 0, 1) := by decide +kernel
theorem dX9_fittingFars_65 : decode cX9_fittingFars 65 = .ok (.getfield 24, 3) := by decide +kernel
theorem dX9_fittingFars_68 : decode cX9_fittingFars 68 = .ok (.getfield 115, 3) := by decide +kernel
theorem dX9_fittingFars_71 : decode cX9_fittingFars 71 = .ok (.invokevirtual 239, 3) := by decide +kernel
theorem dX9_fittingFars_74 : decode cX9_fittingFars 74 = .ok (.ifCond .eq 35, 3) := by decide +kernel
theorem dX9_fittingFars_77 : decode cX9_fittingFars 77 = .ok (.iload_n 3, 1) := by decide +kernel
theorem dX9_fittingFars_78 : decode cX9_fittingFars 78 = .ok (.iconst 1, 1) := by decide +kernel
theorem dX9_fittingFars_79 : decode cX9_fittingFars 79 = .ok (.iload 5, 2) := by decide +kernel
theorem dX9_fittingFars_81 : decode cX9_fittingFars 81 = .ok (.ishl, 1) := by decide +kernel
theorem dX9_fittingFars_82 : decode cX9_fittingFars 82 = .ok (.ior, 1) := by decide +kernel
theorem dX9_fittingFars_83 : decode cX9_fittingFars 83 = .ok (.istore_n 3, 1) := by decide +kernel
theorem dX9_fittingFars_84 : decode cX9_fittingFars 84 = .ok (.aload_n 0, 1) := by decide +kernel
theorem dX9_fittingFars_85 : decode cX9_fittingFars 85 = .ok (.getfield 59, 3) := by decide +kernel
theorem dX9_fittingFars_88 : decode cX9_fittingFars 88 = .ok (.getfield 178, 3) := by decide +kernel
theorem dX9_fittingFars_91 : decode cX9_fittingFars 91 = .ok (.iconst 0, 1) := by decide +kernel
theorem dX9_fittingFars_92 : decode cX9_fittingFars 92 = .ok (.aload_n 0, 1) := by decide +kernel
theorem dX9_fittingFars_93 : decode cX9_fittingFars 93 = .ok (.getfield 69, 3) := by decide +kernel
theorem dX9_fittingFars_96 : decode cX9_fittingFars 96 = .ok (.iload 4, 2) := by decide +kernel
theorem dX9_fittingFars_98 : decode cX9_fittingFars 98 = .ok (.bipush 24, 2) := by decide +kernel
theorem dX9_fittingFars_100 : decode cX9_fittingFars 100 = .ok (.imul, 1) := by decide +kernel
theorem dX9_fittingFars_101 : decode cX9_fittingFars 101 = .ok (.bipush 24, 2) := by decide +kernel
theorem dX9_fittingFars_103 : decode cX9_fittingFars 103 = .ok (.invokestatic 283, 3) := by decide +kernel
theorem dX9_fittingFars_106 : decode cX9_fittingFars 106 = .ok (.iinc 4 1, 3) := by decide +kernel
theorem dX9_fittingFars_109 : decode cX9_fittingFars 109 = .ok (.iinc 5 1, 3) := by decide +kernel
theorem dX9_fittingFars_112 : decode cX9_fittingFars 112 = .ok (.goto (-94), 3) := by decide +kernel
theorem dX9_fittingFars_115 : decode cX9_fittingFars 115 = .ok (.aload_n 0, 1) := by decide +kernel
theorem dX9_fittingFars_116 : decode cX9_fittingFars 116 = .ok (.getfield 24, 3) := by decide +kernel
theorem dX9_fittingFars_119 : decode cX9_fittingFars 119 = .ok (.getfield 125, 3) := by decide +kernel
theorem dX9_fittingFars_122 : decode cX9_fittingFars 122 = .ok (.iload_n 1, 1) := by decide +kernel
theorem dX9_fittingFars_123 : decode cX9_fittingFars 123 = .ok (.iload_n 2, 1) := by decide +kernel
theorem dX9_fittingFars_124 : decode cX9_fittingFars 124 = .ok (.iastore, 1) := by decide +kernel
theorem dX9_fittingFars_125 : decode cX9_fittingFars 125 = .ok (.iload_n 3, 1) := by decide +kernel
theorem dX9_fittingFars_126 : decode cX9_fittingFars 126 = .ok (.ireturn, 1) := by decide +kernel
theorem dX9_greatestAlike_0 : decode cX9_greatestAlike 0 = .ok (.iconst 0, 1) := by decide +kernel
theorem dX9_greatestAlike_1 : decode cX9_greatestAlike 1 = .ok (.istore_n 3, 1) := by decide +kernel
theorem dX9_greatestAlike_2 : decode cX9_greatestAlike 2 = .ok (.iconst 0, 1) := by decide +kernel
theorem dX9_greatestAlike_3 : decode cX9_greatestAlike 3 = .ok (.istore 4, 2) := by decide +kernel
theorem dX9_greatestAlike_5 : decode cX9_greatestAlike 5 = .ok (.iload 4, 2) := by decide +kernel
theorem dX9_greatestAlike_7 : decode cX9_greatestAlike 7 = .ok (.iload_n 2, 1) := by decide +kernel
theorem dX9_greatestAlike_8 : decode cX9_greatestAlike 8 = .ok (.if_icmp .ge 64, 3) := by decide +kernel
theorem dX9_greatestAlike_11 : decode cX9_greatestAlike 11 = .ok (.iconst 0, 1) := by decide +kernel
theorem dX9_greatestAlike_12 : decode cX9_greatestAlike 12 = .ok (.istore 5, 2) := by decide +kernel
theorem dX9_greatestAlike_14 : decode cX9_greatestAlike 14 = .ok (.iconst 0, 1) := by decide +kernel
theorem dX9_greatestAlike_15 : decode cX9_greatestAlike 15 = .ok (.istore 6, 2) := by decide +kernel
theorem dX9_greatestAlike_17 : decode cX9_greatestAlike 17 = .ok (.iload 6, 2) := by decide +kernel
theorem dX9_greatestAlike_19 : decode cX9_greatestAlike 19 = .ok (.iload_n 2, 1) := by decide +kernel
theorem dX9_greatestAlike_20 : decode cX9_greatestAlike 20 = .ok (.if_icmp .ge 39, 3) := by decide +kernel
theorem dX9_greatestAlike_23 : decode cX9_greatestAlike 23 = .ok (.aload_n 0, 1) := by decide +kernel
theorem dX9_greatestAlike_24 : decode cX9_greatestAlike 24 = .ok (.getfield 69, 3) := by decide +kernel
theorem dX9_greatestAlike_27 : decode cX9_greatestAlike 27 = .ok (.iload 4, 2) := by decide +kernel
theorem dX9_greatestAlike_29 : decode cX9_greatestAlike 29 = .ok (.bipush 24, 2) := by decide +kernel
theorem dX9_greatestAlike_31 : decode cX9_greatestAlike 31 = .ok (.imul, 1) := by decide +kernel
theorem dX9_greatestAlike_32 : decode cX9_greatestAlike 32 = .ok (.iload_n 1, 1) := by decide +kernel
theorem dX9_greatestAlike_33 : decode cX9_greatestAlike 33 = .ok (.iadd, 1) := by decide +kernel
theorem dX9_greatestAlike_34 : decode cX9_greatestAlike 34 = .ok (.iaload, 1) := by decide +kernel
theorem dX9_greatestAlike_35 : decode cX9_greatestAlike 35 = .ok (.aload_n 0, 1) := by decide +kernel
theorem dX9_greatestAlike_36 : decode cX9_greatestAlike 36 = .ok (.getfield 69, 3) := by decide +kernel
theorem dX9_greatestAlike_39 : decode cX9_greatestAlike 39 = .ok (.iload 6, 2) := by decide +kernel
theorem dX9_greatestAlike_41 : decode cX9_greatestAlike 41 = .ok (.bipush 24, 2) := by decide +kernel
theorem dX9_greatestAlike_43 : decode cX9_greatestAlike 43 = .ok (.imul, 1) := by decide +kernel
theorem dX9_greatestAlike_44 : decode cX9_greatestAlike 44 = .ok (.iload_n 1, 1) := by decide +kernel
theorem dX9_greatestAlike_45 : decode cX9_greatestAlike 45 = .ok (.iadd, 1) := by decide +kernel
theorem dX9_greatestAlike_46 : decode cX9_greatestAlike 46 = .ok (.iaload, 1) := by decide +kernel
theorem dX9_greatestAlike_47 : decode cX9_greatestAlike 47 = .ok (.if_icmp .ne 6, 3) := by decide +kernel
theorem dX9_greatestAlike_50 : decode cX9_greatestAlike 50 = .ok (.iinc 5 1, 3) := by decide +kernel
theorem dX9_greatestAlike_53 : decode cX9_greatestAlike 53 = .ok (.iinc 6 1, 3) := by decide +kernel
theorem dX9_greatestAlike_56 : decode cX9_greatestAlike 56 = .ok (.goto (-39), 3) := by decide +kernel
theorem dX9_greatestAlike_59 : decode cX9_greatestAlike 59 = .ok (.iload_n 3, 1) := by decide +kernel
theorem dX9_greatestAlike_60 : decode cX9_greatestAlike 60 = .ok (.iload 5, 2) := by decide +kernel
theorem dX9_greatestAlike_62 : decode cX9_greatestAlike 62 = .ok (.invokestatic 352, 3) := by decide +kernel
theorem dX9_greatestAlike_65 : decode cX9_greatestAlike 65 = .ok (.istore_n 3, 1) := by decide +kernel
theorem dX9_greatestAlike_66 : decode cX9_greatestAlike 66 = .ok (.iinc 4 1, 3) := by decide +kernel
theorem dX9_greatestAlike_69 : decode cX9_greatestAlike 69 = .ok (.goto (-64), 3) := by decide +kernel
theorem dX9_greatestAlike_72 : decode cX9_greatestAlike 72 = .ok (.iload_n 3, 1) := by decide +kernel
theorem dX9_greatestAlike_73 : decode cX9_greatestAlike 73 = .ok (.ireturn, 1) := by decide +kernel
theorem dX9_drawEvents_0 : decode cX9_drawEvents 0 = .ok (.aload_n 0, 1) := by decide +kernel
theorem dX9_drawEvents_1 : decode cX9_drawEvents 1 = .ok (.getfield 42, 3) := by decide +kernel
theorem dX9_drawEvents_4 : decode cX9_drawEvents 4 = .ok (.iconst 0, 1) := by decide +kernel
theorem dX9_drawEvents_5 : decode cX9_drawEvents 5 = .ok (.putfield 138, 3) := by decide +kernel
theorem dX9_drawEvents_8 : decode cX9_drawEvents 8 = .ok (.iload_n 1, 1) := by decide +kernel
theorem dX9_drawEvents_9 : decode cX9_drawEvents 9 = .ok (.istore_n 3, 1) := by decide +kernel
theorem dX9_drawEvents_10 : decode cX9_drawEvents 10 = .ok (.iconst 0, 1) := by decide +kernel
theorem dX9_drawEvents_11 : decode cX9_drawEvents 11 = .ok (.istore 4, 2) := by decide +kernel
theorem dX9_drawEvents_13 : decode cX9_drawEvents 13 = .ok (.iload 4, 2) := by decide +kernel
theorem dX9_drawEvents_15 : decode cX9_drawEvents 15 = .ok (.iload_n 2, 1) := by decide +kernel
theorem dX9_drawEvents_16 : decode cX9_drawEvents 16 = .ok (.if_icmp .ge 63, 3) := by decide +kernel
theorem dX9_drawEvents_19 : decode cX9_drawEvents 19 = .ok (.iload_n 3, 1) := by decide +kernel
theorem dX9_drawEvents_20 : decode cX9_drawEvents 20 = .ok (.invokestatic 355, 3) := by decide +kernel
theorem dX9_drawEvents_23 : decode cX9_drawEvents 23 = .ok (.istore_n 3, 1) := by decide +kernel
theorem dX9_drawEvents_24 : decode cX9_drawEvents 24 = .ok (.iload_n 3, 1) := by decide +kernel
theorem dX9_drawEvents_25 : decode cX9_drawEvents 25 = .ok (.invokestatic 358, 3) := by decide +kernel
theorem dX9_drawEvents_28 : decode cX9_drawEvents 28 = .ok (.iconst 2, 1) := by decide +kernel
theorem dX9_drawEvents_29 : decode cX9_drawEvents 29 = .ok (.irem, 1) := by decide +kernel
theorem dX9_drawEvents_30 : decode cX9_drawEvents 30 = .ok (.istore 5, 2) := by decide +kernel
theorem dX9_drawEvents_32 : decode cX9_drawEvents 32 = .ok (.iload_n 3, 1) := by decide +kernel
theorem dX9_drawEvents_33 : decode cX9_drawEvents 33 = .ok (.invokestatic 355, 3) := by decide +kernel
theorem dX9_drawEvents_36 : decode cX9_drawEvents 36 = .ok (.istore_n 3, 1) := by decide +kernel
theorem dX9_drawEvents_37 : decode cX9_drawEvents 37 = .ok (.iload_n 3, 1) := by decide +kernel
theorem dX9_drawEvents_38 : decode cX9_drawEvents 38 = .ok (.invokestatic 358, 3) := by decide +kernel
theorem dX9_drawEvents_41 : decode cX9_drawEvents 41 = .ok (.bipush 24, 2) := by decide +kernel
theorem dX9_drawEvents_43 : decode cX9_drawEvents 43 = .ok (.irem, 1) := by decide +kernel
theorem dX9_drawEvents_44 : decode cX9_drawEvents 44 = .ok (.istore 6, 2) := by decide +kernel
theorem dX9_drawEvents_46 : decode cX9_drawEvents 46 = .ok (.iload_n 3, 1) := by decide +kernel
theorem dX9_drawEvents_47 : decode cX9_drawEvents 47 = .ok (.invokestatic 355, 3) := by decide +kernel
theorem dX9_drawEvents_50 : decode cX9_drawEvents 50 = .ok (.istore_n 3, 1) := by decide +kernel
theorem dX9_drawEvents_51 : decode cX9_drawEvents 51 = .ok (.iload_n 3, 1) := by decide +kernel
theorem dX9_drawEvents_52 : decode cX9_drawEvents 52 = .ok (.invokestatic 358, 3) := by decide +kernel
theorem dX9_drawEvents_55 : decode cX9_drawEvents 55 = .ok (.bipush 6, 2) := by decide +kernel
theorem dX9_drawEvents_57 : decode cX9_drawEvents 57 = .ok (.irem, 1) := by decide +kernel
theorem dX9_drawEvents_58 : decode cX9_drawEvents 58 = .ok (.istore 7, 2) := by decide +kernel
theorem dX9_drawEvents_60 : decode cX9_drawEvents 60 = .ok (.aload_n 0, 1) := by decide +kernel
theorem dX9_drawEvents_61 : decode cX9_drawEvents 61 = .ok (.getfield 42, 3) := by decide +kernel
theorem dX9_drawEvents_64 : decode cX9_drawEvents 64 = .ok (.iload 5, 2) := by decide +kernel
theorem dX9_drawEvents_66 : decode cX9_drawEvents 66 = .ok (.iload 6, 2) := by decide +kernel
theorem dX9_drawEvents_68 : decode cX9_drawEvents 68 = .ok (.iload 7, 2) := by decide +kernel
theorem dX9_drawEvents_70 : decode cX9_drawEvents 70 = .ok (.invokevirtual 139, 3) := by decide +kernel
theorem dX9_drawEvents_73 : decode cX9_drawEvents 73 = .ok (.iinc 4 1, 3) := by decide +kernel
theorem dX9_drawEvents_76 : decode cX9_drawEvents 76 = .ok (.goto (-63), 3) := by decide +kernel
theorem dX9_drawEvents_79 : decode cX9_drawEvents 79 = .ok (.return_, 1) := by decide +kernel
theorem dX9_nextSeed_0 : decode cX9_nextSeed 0 = .ok (.ldc_w 361, 3) := by decide +kernel
theorem dX9_nextSeed_3 : decode cX9_nextSeed 3 = .ok (.iload_n 0, 1) := by decide +kernel
theorem dX9_nextSeed_4 : decode cX9_nextSeed 4 = .ok (.imul, 1) := by decide +kernel
theorem dX9_nextSeed_5 : decode cX9_nextSeed 5 = .ok (.sipush 12345, 3) := by decide +kernel
theorem dX9_nextSeed_8 : decode cX9_nextSeed 8 = .ok (.iadd, 1) := by decide +kernel
theorem dX9_nextSeed_9 : decode cX9_nextSeed 9 = .ok (.ireturn, 1) := by decide +kernel
theorem dX9_upperBits_0 : decode cX9_upperBits 0 = .ok (.iload_n 0, 1) := by decide +kernel
theorem dX9_upperBits_1 : decode cX9_upperBits 1 = .ok (.bipush 16, 2) := by decide +kernel
theorem dX9_upperBits_3 : decode cX9_upperBits 3 = .ok (.iushr, 1) := by decide +kernel
theorem dX9_upperBits_4 : decode cX9_upperBits 4 = .ok (.ireturn, 1) := by decide +kernel
theorem dX9_refuseItem_0 : decode cX9_refuseItem 0 = .ok (.iload_n 1, 1) := by decide +kernel
theorem dX9_refuseItem_1 : decode cX9_refuseItem 1 = .ok (.iconst 4, 1) := by decide +kernel
theorem dX9_refuseItem_2 : decode cX9_refuseItem 2 = .ok (.invokestatic 91, 3) := by decide +kernel
theorem dX9_refuseItem_5 : decode cX9_refuseItem 5 = .ok (.ifCond .eq 11, 3) := by decide +kernel
theorem dX9_refuseItem_8 : decode cX9_refuseItem 8 = .ok (.iload_n 2, 1) := by decide +kernel
theorem dX9_refuseItem_9 : decode cX9_refuseItem 9 = .ok (.iconst 3, 1) := by decide +kernel
theorem dX9_refuseItem_10 : decode cX9_refuseItem 10 = .ok (.invokestatic 91, 3) := by decide +kernel
theorem dX9_refuseItem_13 : decode cX9_refuseItem 13 = .ok (.ifCond .ne 6, 3) := by decide +kernel
theorem dX9_refuseItem_16 : decode cX9_refuseItem 16 = .ok (.bipush (-2), 2) := by decide +kernel
theorem dX9_refuseItem_18 : decode cX9_refuseItem 18 = .ok (.ireturn, 1) := by decide +kernel
theorem dX9_refuseItem_19 : decode cX9_refuseItem 19 = .ok (.aload_n 0, 1) := by decide +kernel
theorem dX9_refuseItem_20 : decode cX9_refuseItem 20 = .ok (.getfield 75, 3) := by decide +kernel
theorem dX9_refuseItem_23 : decode cX9_refuseItem 23 = .ok (.iload_n 1, 1) := by decide +kernel
theorem dX9_refuseItem_24 : decode cX9_refuseItem 24 = .ok (.aaload, 1) := by decide +kernel
theorem dX9_refuseItem_25 : decode cX9_refuseItem 25 = .ok (.astore 4, 2) := by decide +kernel
theorem dX9_refuseItem_27 : decode cX9_refuseItem 27 = .ok (.aload 4, 2) := by decide +kernel
theorem dX9_refuseItem_29 : decode cX9_refuseItem 29 = .ok (.getfield 148, 3) := by decide +kernel
theorem dX9_refuseItem_32 : decode cX9_refuseItem 32 = .ok (.iconst (-1), 1) := by decide +kernel
theorem dX9_refuseItem_33 : decode cX9_refuseItem 33 = .ok (.if_icmp .ne 9, 3) := by decide +kernel
theorem dX9_refuseItem_36 : decode cX9_refuseItem 36 = .ok (.aload_n 0, 1) := by decide +kernel
theorem dX9_refuseItem_37 : decode cX9_refuseItem 37 = .ok (.iconst 1, 1) := by decide +kernel
theorem dX9_refuseItem_38 : decode cX9_refuseItem 38 = .ok (.invokevirtual 151, 3) := by decide +kernel
theorem dX9_refuseItem_41 : decode cX9_refuseItem 41 = .ok (.ireturn, 1) := by decide +kernel
theorem dX9_refuseItem_42 : decode cX9_refuseItem 42 = .ok (.aload 4, 2) := by decide +kernel
theorem dX9_refuseItem_44 : decode cX9_refuseItem 44 = .ok (.getfield 148, 3) := by decide +kernel
theorem dX9_refuseItem_47 : decode cX9_refuseItem 47 = .ok (.iload_n 2, 1) := by decide +kernel
theorem dX9_refuseItem_48 : decode cX9_refuseItem 48 = .ok (.if_icmp .eq 9, 3) := by decide +kernel
theorem dX9_refuseItem_51 : decode cX9_refuseItem 51 = .ok (.aload_n 0, 1) := by decide +kernel
theorem dX9_refuseItem_52 : decode cX9_refuseItem 52 = .ok (.iconst 3, 1) := by decide +kernel
theorem dX9_refuseItem_53 : decode cX9_refuseItem 53 = .ok (.invokevirtual 151, 3) := by decide +kernel
theorem dX9_refuseItem_56 : decode cX9_refuseItem 56 = .ok (.ireturn, 1) := by decide +kernel
theorem dX9_refuseItem_57 : decode cX9_refuseItem 57 = .ok (.iload_n 3, 1) := by decide +kernel
theorem dX9_refuseItem_58 : decode cX9_refuseItem 58 = .ok (.aload 4, 2) := by decide +kernel
theorem dX9_refuseItem_60 : decode cX9_refuseItem 60 = .ok (.getfield 155, 3) := by decide +kernel
theorem dX9_refuseItem_63 : decode cX9_refuseItem 63 = .ok (.invokestatic 91, 3) := by decide +kernel
theorem dX9_refuseItem_66 : decode cX9_refuseItem 66 = .ok (.ifCond .eq 7, 3) := by decide +kernel
theorem dX9_refuseItem_69 : decode cX9_refuseItem 69 = .ok (.iconst 0, 1) := by decide +kernel
theorem dX9_refuseItem_70 : decode cX9_refuseItem 70 = .ok (.goto 8, 3) := by decide +kernel
theorem dX9_refuseItem_73 : decode cX9_refuseItem 73 = .ok (.aload_n 0, 1) := by decide +kernel
theorem dX9_refuseItem_74 : decode cX9_refuseItem 74 = .ok (.iconst 2, 1) := by decide +kernel
theorem dX9_refuseItem_75 : decode cX9_refuseItem 75 = .ok (.invokevirtual 151, 3) := by decide +kernel
theorem dX9_refuseItem_78 : decode cX9_refuseItem 78 = .ok (.ireturn, 1) := by decide +kernel
theorem dX9_mix_0 : decode cX9_mix 0 = .ok (.ldc2_w 362, 3) := by decide +kernel
theorem dX9_mix_3 : decode cX9_mix 3 = .ok (.lload_n 0, 1) := by decide +kernel
theorem dX9_mix_4 : decode cX9_mix 4 = .ok (.lmul, 1) := by decide +kernel
theorem dX9_mix_5 : decode cX9_mix 5 = .ok (.lload_n 2, 1) := by decide +kernel
theorem dX9_mix_6 : decode cX9_mix 6 = .ok (.ladd, 1) := by decide +kernel
theorem dX9_mix_7 : decode cX9_mix 7 = .ok (.lreturn, 1) := by decide +kernel
theorem dX9_mixNeed_0 : decode cX9_mixNeed 0 = .ok (.lload_n 1, 1) := by decide +kernel
theorem dX9_mixNeed_1 : decode cX9_mixNeed 1 = .ok (.lstore 4, 2) := by decide +kernel
theorem dX9_mixNeed_3 : decode cX9_mixNeed 3 = .ok (.iconst 0, 1) := by decide +kernel
theorem dX9_mixNeed_4 : decode cX9_mixNeed 4 = .ok (.istore 6, 2) := by decide +kernel
theorem dX9_mixNeed_6 : decode cX9_mixNeed 6 = .ok (.iload 6, 2) := by decide +kernel
theorem dX9_mixNeed_8 : decode cX9_mixNeed 8 = .ok (.iconst 3, 1) := by decide +kernel
theorem dX9_mixNeed_9 : decode cX9_mixNeed 9 = .ok (.if_icmp .ge 24, 3) := by decide +kernel
theorem dX9_mixNeed_12 : decode cX9_mixNeed 12 = .ok (.lload 4, 2) := by decide +kernel
theorem dX9_mixNeed_14 : decode cX9_mixNeed 14 = .ok (.aload_n 0, 1) := by decide +kernel
theorem dX9_mixNeed_15 : decode cX9_mixNeed 15 = .ok (.iload_n 3, 1) := by decide +kernel
theorem dX9_mixNeed_16 : decode cX9_mixNeed 16 = .ok (.iload 6, 2) := by decide +kernel
theorem dX9_mixNeed_18 : decode cX9_mixNeed 18 = .ok (.invokevirtual 364, 3) := by decide +kernel
theorem dX9_mixNeed_21 : decode cX9_mixNeed 21 = .ok (.i2l, 1) := by decide +kernel
theorem dX9_mixNeed_22 : decode cX9_mixNeed 22 = .ok (.invokestatic 299, 3) := by decide +kernel
theorem dX9_mixNeed_25 : decode cX9_mixNeed 25 = .ok (.lstore 4, 2) := by decide +kernel
theorem dX9_mixNeed_27 : decode cX9_mixNeed 27 = .ok (.iinc 6 1, 3) := by decide +kernel
theorem dX9_mixNeed_30 : decode cX9_mixNeed 30 = .ok (.goto (-24), 3) := by decide +kernel
theorem dX9_mixNeed_33 : decode cX9_mixNeed 33 = .ok (.lload 4, 2) := by decide +kernel
theorem dX9_mixNeed_35 : decode cX9_mixNeed 35 = .ok (.aload_n 0, 1) := by decide +kernel
theorem dX9_mixNeed_36 : decode cX9_mixNeed 36 = .ok (.iload_n 3, 1) := by decide +kernel
theorem dX9_mixNeed_37 : decode cX9_mixNeed 37 = .ok (.invokevirtual 367, 3) := by decide +kernel
theorem dX9_mixNeed_40 : decode cX9_mixNeed 40 = .ok (.i2l, 1) := by decide +kernel
theorem dX9_mixNeed_41 : decode cX9_mixNeed 41 = .ok (.invokestatic 299, 3) := by decide +kernel
theorem dX9_mixNeed_44 : decode cX9_mixNeed 44 = .ok (.lstore 4, 2) := by decide +kernel
theorem dX9_mixNeed_46 : decode cX9_mixNeed 46 = .ok (.lload 4, 2) := by decide +kernel
theorem dX9_mixNeed_48 : decode cX9_mixNeed 48 = .ok (.aload_n 0, 1) := by decide +kernel
theorem dX9_mixNeed_49 : decode cX9_mixNeed 49 = .ok (.iconst 5, 1) := by decide +kernel
theorem dX9_mixNeed_50 : decode cX9_mixNeed 50 = .ok (.iload_n 3, 1) := by decide +kernel
theorem dX9_mixNeed_51 : decode cX9_mixNeed 51 = .ok (.iconst 0, 1) := by decide +kernel
theorem dX9_mixNeed_52 : decode cX9_mixNeed 52 = .ok (.invokevirtual 369, 3) := by decide +kernel
theorem dX9_mixNeed_55 : decode cX9_mixNeed 55 = .ok (.invokestatic 299, 3) := by decide +kernel
theorem dX9_mixNeed_58 : decode cX9_mixNeed 58 = .ok (.aload_n 0, 1) := by decide +kernel
theorem dX9_mixNeed_59 : decode cX9_mixNeed 59 = .ok (.iconst 5, 1) := by decide +kernel
theorem dX9_mixNeed_60 : decode cX9_mixNeed 60 = .ok (.iload_n 3, 1) := by decide +kernel
theorem dX9_mixNeed_61 : decode cX9_mixNeed 61 = .ok (.iconst 1, 1) := by decide +kernel
theorem dX9_mixNeed_62 : decode cX9_mixNeed 62 = .ok (.invokevirtual 369, 3) := by decide +kernel
theorem dX9_mixNeed_65 : decode cX9_mixNeed 65 = .ok (.invokestatic 299, 3) := by decide +kernel
theorem dX9_mixNeed_68 : decode cX9_mixNeed 68 = .ok (.lreturn, 1) := by decide +kernel
theorem dX9_mixOne_0 : decode cX9_mixOne 0 = .ok (.lload_n 1, 1) := by decide +kernel
theorem dX9_mixOne_1 : decode cX9_mixOne 1 = .ok (.lstore 4, 2) := by decide +kernel
theorem dX9_mixOne_3 : decode cX9_mixOne 3 = .ok (.iconst 0, 1) := by decide +kernel
theorem dX9_mixOne_4 : decode cX9_mixOne 4 = .ok (.istore 6, 2) := by decide +kernel
theorem dX9_mixOne_6 : decode cX9_mixOne 6 = .ok (.iload 6, 2) := by decide +kernel
theorem dX9_mixOne_8 : decode cX9_mixOne 8 = .ok (.iconst 4, 1) := by decide +kernel
theorem dX9_mixOne_9 : decode cX9_mixOne 9 = .ok (.if_icmp .ge 24, 3) := by decide +kernel
theorem dX9_mixOne_12 : decode cX9_mixOne 12 = .ok (.lload 4, 2) := by decide +kernel
theorem dX9_mixOne_14 : decode cX9_mixOne 14 = .ok (.aload_n 0, 1) := by decide +kernel
theorem dX9_mixOne_15 : decode cX9_mixOne 15 = .ok (.iload_n 3, 1) := by decide +kernel
theorem dX9_mixOne_16 : decode cX9_mixOne 16 = .ok (.iload 6, 2) := by decide +kernel
theorem dX9_mixOne_18 : decode cX9_mixOne 18 = .ok (.invokevirtual 373, 3) := by decide +kernel
theorem dX9_mixOne_21 : decode cX9_mixOne 21 = .ok (.i2l, 1) := by decide +kernel
theorem dX9_mixOne_22 : decode cX9_mixOne 22 = .ok (.invokestatic 299, 3) := by decide +kernel
theorem dX9_mixOne_25 : decode cX9_mixOne 25 = .ok (.lstore 4, 2) := by decide +kernel
theorem dX9_mixOne_27 : decode cX9_mixOne 27 = .ok (.iinc 6 1, 3) := by decide +kernel
theorem dX9_mixOne_30 : decode cX9_mixOne 30 = .ok (.goto (-24), 3) := by decide +kernel
theorem dX9_mixOne_33 : decode cX9_mixOne 33 = .ok (.iconst 0, 1) := by decide +kernel
theorem dX9_mixOne_34 : decode cX9_mixOne 34 = .ok (.istore 6, 2) := by decide +kernel
theorem dX9_mixOne_36 : decode cX9_mixOne 36 = .ok (.iload 6, 2) := by decide +kernel
theorem dX9_mixOne_38 : decode cX9_mixOne 38 = .ok (.iconst 3, 1) := by decide +kernel
theorem dX9_mixOne_39 : decode cX9_mixOne 39 = .ok (.if_icmp .gt 54, 3) := by decide +kernel
theorem dX9_mixOne_42 : decode cX9_mixOne 42 = .ok (.iconst 0, 1) := by decide +kernel
theorem dX9_mixOne_43 : decode cX9_mixOne 43 = .ok (.bipush 8, 2) := by decide +kernel
theorem dX9_mixOne_45 : decode cX9_mixOne 45 = .ok (.iload 6, 2) := by decide +kernel
theorem dX9_mixOne_47 : decode cX9_mixOne 47 = .ok (.imul, 1) := by decide +kernel
theorem dX9_mixOne_48 : decode cX9_mixOne 48 = .ok (.iconst 1, 1) := by decide +kernel
theorem dX9_mixOne_49 : decode cX9_mixOne 49 = .ok (.isub, 1) := by decide +kernel
theorem dX9_mixOne_50 : decode cX9_mixOne 50 = .ok (.invokestatic 352, 3) := by decide +kernel
theorem dX9_mixOne_53 : decode cX9_mixOne 53 = .ok (.istore 7, 2) := by decide +kernel
theorem dX9_mixOne_55 : decode cX9_mixOne 55 = .ok (.iconst 0, 1) := by decide +kernel
theorem dX9_mixOne_56 : decode cX9_mixOne 56 = .ok (.istore 8, 2) := by decide +kernel
theorem dX9_mixOne_58 : decode cX9_mixOne 58 = .ok (.iload 8, 2) := by decide +kernel
theorem dX9_mixOne_60 : decode cX9_mixOne 60 = .ok (.iconst 3, 1) := by decide +kernel
theorem dX9_mixOne_61 : decode cX9_mixOne 61 = .ok (.if_icmp .ge 26, 3) := by decide +kernel
theorem dX9_mixOne_64 : decode cX9_mixOne 64 = .ok (.lload 4, 2) := by decide +kernel
theorem dX9_mixOne_66 : decode cX9_mixOne 66 = .ok (.aload_n 0, 1) := by decide +kernel
theorem dX9_mixOne_67 : decode cX9_mixOne 67 = .ok (.iload 7, 2) := by decide +kernel
theorem dX9_mixOne_69 : decode cX9_mixOne 69 = .ok (.iload_n 3, 1) := by decide +kernel
theorem dX9_mixOne_70 : decode cX9_mixOne 70 = .ok (.iload 8, 2) := by decide +kernel
theorem dX9_mixOne_72 : decode cX9_mixOne 72 = .ok (.invokevirtual 375, 3) := by decide +kernel
theorem dX9_mixOne_75 : decode cX9_mixOne 75 = .ok (.i2l, 1) := by decide +kernel
theorem dX9_mixOne_76 : decode cX9_mixOne 76 = .ok (.invokestatic 299, 3) := by decide +kernel
theorem dX9_mixOne_79 : decode cX9_mixOne 79 = .ok (.lstore 4, 2) := by decide +kernel
theorem dX9_mixOne_81 : decode cX9_mixOne 81 = .ok (.iinc 8 1, 3) := by decide +kernel
theorem dX9_mixOne_84 : decode cX9_mixOne 84 = .ok (.goto (-26), 3) := by decide +kernel
theorem dX9_mixOne_87 : decode cX9_mixOne 87 = .ok (.iinc 6 1, 3) := by decide +kernel
theorem dX9_mixOne_90 : decode cX9_mixOne 90 = .ok (.goto (-54), 3) := by decide +kernel
theorem dX9_mixOne_93 : decode cX9_mixOne 93 = .ok (.lload 4, 2) := by decide +kernel
theorem dX9_mixOne_95 : decode cX9_mixOne 95 = .ok (.aload_n 0, 1) := by decide +kernel
theorem dX9_mixOne_96 : decode cX9_mixOne 96 = .ok (.iload_n 3, 1) := by decide +kernel
theorem dX9_mixOne_97 : decode cX9_mixOne 97 = .ok (.invokevirtual 378, 3) := by decide +kernel
theorem dX9_mixOne_100 : decode cX9_mixOne 100 = .ok (.i2l, 1) := by decide +kernel
theorem dX9_mixOne_101 : decode cX9_mixOne 101 = .ok (.invokestatic 299, 3) := by decide +kernel
theorem dX9_mixOne_104 : decode cX9_mixOne 104 = .ok (.lstore 4, 2) := by decide +kernel
theorem dX9_mixOne_106 : decode cX9_mixOne 106 = .ok (.aload_n 0, 1) := by decide +kernel
theorem dX9_mixOne_107 : decode cX9_mixOne 107 = .ok (.iload_n 3, 1) := by decide +kernel
theorem dX9_mixOne_108 : decode cX9_mixOne 108 = .ok (.invokevirtual 217, 3) := by decide +kernel
theorem dX9_mixOne_111 : decode cX9_mixOne 111 = .ok (.istore 6, 2) := by decide +kernel
theorem dX9_mixOne_113 : decode cX9_mixOne 113 = .ok (.iconst 0, 1) := by decide +kernel
theorem dX9_mixOne_114 : decode cX9_mixOne 114 = .ok (.istore 7, 2) := by decide +kernel
theorem dX9_mixOne_116 : decode cX9_mixOne 116 = .ok (.iload 7, 2) := by decide +kernel
theorem dX9_mixOne_118 : decode cX9_mixOne 118 = .ok (.iconst 3, 1) := by decide +kernel
theorem dX9_mixOne_119 : decode cX9_mixOne 119 = .ok (.if_icmp .ge 26, 3) := by decide +kernel
theorem dX9_mixOne_122 : decode cX9_mixOne 122 = .ok (.lload 4, 2) := by decide +kernel
theorem dX9_mixOne_124 : decode cX9_mixOne 124 = .ok (.aload_n 0, 1) := by decide +kernel
theorem dX9_mixOne_125 : decode cX9_mixOne 125 = .ok (.iload_n 3, 1) := by decide +kernel
theorem dX9_mixOne_126 : decode cX9_mixOne 126 = .ok (.iload 6, 2) := by decide +kernel
theorem dX9_mixOne_128 : decode cX9_mixOne 128 = .ok (.iload 7, 2) := by decide +kernel
theorem dX9_mixOne_130 : decode cX9_mixOne 130 = .ok (.invokevirtual 220, 3) := by decide +kernel
theorem dX9_mixOne_133 : decode cX9_mixOne 133 = .ok (.i2l, 1) := by decide +kernel
theorem dX9_mixOne_134 : decode cX9_mixOne 134 = .ok (.invokestatic 299, 3) := by decide +kernel
theorem dX9_mixOne_137 : decode cX9_mixOne 137 = .ok (.lstore 4, 2) := by decide +kernel
theorem dX9_mixOne_139 : decode cX9_mixOne 139 = .ok (.iinc 7 1, 3) := by decide +kernel
theorem dX9_mixOne_142 : decode cX9_mixOne 142 = .ok (.goto (-26), 3) := by decide +kernel
theorem dX9_mixOne_145 : decode cX9_mixOne 145 = .ok (.lload 4, 2) := by decide +kernel
theorem dX9_mixOne_147 : decode cX9_mixOne 147 = .ok (.aload_n 0, 1) := by decide +kernel
theorem dX9_mixOne_148 : decode cX9_mixOne 148 = .ok (.iload_n 3, 1) := by decide +kernel
theorem dX9_mixOne_149 : decode cX9_mixOne 149 = .ok (.iconst 0, 1) := by decide +kernel
theorem dX9_mixOne_150 : decode cX9_mixOne 150 = .ok (.invokevirtual 381, 3) := by decide +kernel
theorem dX9_mixOne_153 : decode cX9_mixOne 153 = .ok (.i2l, 1) := by decide +kernel
theorem dX9_mixOne_154 : decode cX9_mixOne 154 = .ok (.invokestatic 299, 3) := by decide +kernel
theorem dX9_mixOne_157 : decode cX9_mixOne 157 = .ok (.aload_n 0, 1) := by decide +kernel
theorem dX9_mixOne_158 : decode cX9_mixOne 158 = .ok (.iload_n 3, 1) := by decide +kernel
theorem dX9_mixOne_159 : decode cX9_mixOne 159 = .ok (.iconst 1, 1) := by decide +kernel
theorem dX9_mixOne_160 : decode cX9_mixOne 160 = .ok (.invokevirtual 381, 3) := by decide +kernel
theorem dX9_mixOne_163 : decode cX9_mixOne 163 = .ok (.i2l, 1) := by decide +kernel
theorem dX9_mixOne_164 : decode cX9_mixOne 164 = .ok (.invokestatic 299, 3) := by decide +kernel
theorem dX9_mixOne_167 : decode cX9_mixOne 167 = .ok (.lstore 4, 2) := by decide +kernel
theorem dX9_mixOne_169 : decode cX9_mixOne 169 = .ok (.lload 4, 2) := by decide +kernel
theorem dX9_mixOne_171 : decode cX9_mixOne 171 = .ok (.aload_n 0, 1) := by decide +kernel
theorem dX9_mixOne_172 : decode cX9_mixOne 172 = .ok (.iload_n 3, 1) := by decide +kernel
theorem dX9_mixOne_173 : decode cX9_mixOne 173 = .ok (.invokevirtual 384, 3) := by decide +kernel
theorem dX9_mixOne_176 : decode cX9_mixOne 176 = .ok (.i2l, 1) := by decide +kernel
theorem dX9_mixOne_177 : decode cX9_mixOne 177 = .ok (.invokestatic 299, 3) := by decide +kernel
theorem dX9_mixOne_180 : decode cX9_mixOne 180 = .ok (.lreturn, 1) := by decide +kernel
