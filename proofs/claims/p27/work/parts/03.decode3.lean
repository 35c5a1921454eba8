theorem dX10_count_60 : decode cX10_count 60 = .ok (.getfield 83, 3) := by decide +kernel
theorem dX10_count_63 : decode cX10_count 63 = .ok (.getfield 248, 3) := by decide +kernel
theorem dX10_count_66 : decode cX10_count 66 = .ok (.ireturn, 1) := by decide +kernel
theorem dX10_count_67 : decode cX10_count 67 = .ok (.aload_n 0, 1) := by decide +kernel
theorem dX10_count_68 : decode cX10_count 68 = .ok (.getfield 10, 3) := by decide +kernel
theorem dX10_count_71 : decode cX10_count 71 = .ok (.getfield 141, 3) := by decide +kernel
theorem dX10_count_74 : decode cX10_count 74 = .ok (.ireturn, 1) := by decide +kernel
theorem dX10_count_75 : decode cX10_count 75 = .ok (.aload_n 0, 1) := by decide +kernel
theorem dX10_count_76 : decode cX10_count 76 = .ok (.getfield 10, 3) := by decide +kernel
theorem dX10_count_79 : decode cX10_count 79 = .ok (.invokevirtual 138, 3) := by decide +kernel
theorem dX10_count_82 : decode cX10_count 82 = .ok (.ireturn, 1) := by decide +kernel
theorem dX10_count_83 : decode cX10_count 83 = .ok (.aload_n 0, 1) := by decide +kernel
theorem dX10_count_84 : decode cX10_count 84 = .ok (.getfield 10, 3) := by decide +kernel
theorem dX10_count_87 : decode cX10_count 87 = .ok (.iconst 1, 1) := by decide +kernel
theorem dX10_count_88 : decode cX10_count 88 = .ok (.invokevirtual 251, 3) := by decide +kernel
theorem dX10_count_91 : decode cX10_count 91 = .ok (.ireturn, 1) := by decide +kernel
theorem dX10_count_92 : decode cX10_count 92 = .ok (.aload_n 0, 1) := by decide +kernel
theorem dX10_count_93 : decode cX10_count 93 = .ok (.getfield 10, 3) := by decide +kernel
theorem dX10_count_96 : decode cX10_count 96 = .ok (.iconst 2, 1) := by decide +kernel
theorem dX10_count_97 : decode cX10_count 97 = .ok (.invokevirtual 251, 3) := by decide +kernel
theorem dX10_count_100 : decode cX10_count 100 = .ok (.ireturn, 1) := by decide +kernel
theorem dX10_count_101 : decode cX10_count 101 = .ok (.aload_n 0, 1) := by decide +kernel
theorem dX10_count_102 : decode cX10_count 102 = .ok (.getfield 10, 3) := by decide +kernel
theorem dX10_count_105 : decode cX10_count 105 = .ok (.getfield 188, 3) := by decide +kernel
theorem dX10_count_108 : decode cX10_count 108 = .ok (.ireturn, 1) := by decide +kernel
theorem dX10_count_109 : decode cX10_count 109 = .ok (.aload_n 0, 1) := by decide +kernel
theorem dX10_count_110 : decode cX10_count 110 = .ok (.getfield 10, 3) := by decide +kernel
theorem dX10_count_113 : decode cX10_count 113 = .ok (.iconst 0, 1) := by decide +kernel
theorem dX10_count_114 : decode cX10_count 114 = .ok (.invokevirtual 185, 3) := by decide +kernel
theorem dX10_count_117 : decode cX10_count 117 = .ok (.ireturn, 1) := by decide +kernel
theorem dX10_count_118 : decode cX10_count 118 = .ok (.aload_n 0, 1) := by decide +kernel
theorem dX10_count_119 : decode cX10_count 119 = .ok (.getfield 10, 3) := by decide +kernel
theorem dX10_count_122 : decode cX10_count 122 = .ok (.iconst 1, 1) := by decide +kernel
theorem dX10_count_123 : decode cX10_count 123 = .ok (.invokevirtual 185, 3) := by decide +kernel
theorem dX10_count_126 : decode cX10_count 126 = .ok (.ireturn, 1) := by decide +kernel
theorem dX10_count_127 : decode cX10_count 127 = .ok (.aload_n 0, 1) := by decide +kernel
theorem dX10_count_128 : decode cX10_count 128 = .ok (.getfield 19, 3) := by decide +kernel
theorem dX10_count_131 : decode cX10_count 131 = .ok (.getfield 254, 3) := by decide +kernel
theorem dX10_count_134 : decode cX10_count 134 = .ok (.ireturn, 1) := by decide +kernel
theorem dX10_count_135 : decode cX10_count 135 = .ok (.aload_n 0, 1) := by decide +kernel
theorem dX10_count_136 : decode cX10_count 136 = .ok (.getfield 41, 3) := by decide +kernel
theorem dX10_count_139 : decode cX10_count 139 = .ok (.ireturn, 1) := by decide +kernel
theorem dX10_count_140 : decode cX10_count 140 = .ok (.iload_n 1, 1) := by decide +kernel
theorem dX10_count_141 : decode cX10_count 141 = .ok (.bipush 20, 2) := by decide +kernel
theorem dX10_count_143 : decode cX10_count 143 = .ok (.bipush 26, 2) := by decide +kernel
theorem dX10_count_145 : decode cX10_count 145 = .ok (.invokestatic 50, 3) := by decide +kernel
theorem dX10_count_148 : decode cX10_count 148 = .ok (.ifCond .eq 18, 3) := by decide +kernel
theorem dX10_count_151 : decode cX10_count 151 = .ok (.aload_n 0, 1) := by decide +kernel
theorem dX10_count_152 : decode cX10_count 152 = .ok (.getfield 10, 3) := by decide +kernel
theorem dX10_count_155 : decode cX10_count 155 = .ok (.getfield 129, 3) := by decide +kernel
theorem dX10_count_158 : decode cX10_count 158 = .ok (.iload_n 1, 1) := by decide +kernel
theorem dX10_count_159 : decode cX10_count 159 = .ok (.bipush 20, 2) := by decide +kernel
theorem dX10_count_161 : decode cX10_count 161 = .ok (.isub, 1) := by decide +kernel
theorem dX10_count_162 : decode cX10_count 162 = .ok (.iaload, 1) := by decide +kernel
theorem dX10_count_163 : decode cX10_count 163 = .ok (.goto 4, 3) := by decide +kernel
theorem dX10_count_166 : decode cX10_count 166 = .ok (.iconst (-1), 1) := by decide +kernel
theorem dX10_count_167 : decode cX10_count 167 = .ok (.ireturn, 1) := by decide +kernel
theorem dX10_undo_0 : decode cX10_undo 0 = .ok (.aload_n 0, 1) := by decide +kernel
theorem dX10_undo_1 : decode cX10_undo 1 = .ok (.getfield 19, 3) := by decide +kernel
theorem dX10_undo_4 : decode cX10_undo 4 = .ok (.getfield 254, 3) := by decide +kernel
theorem dX10_undo_7 : decode cX10_undo 7 = .ok (.ifCond .ne 6, 3) := by decide +kernel
theorem dX10_undo_10 : decode cX10_undo 10 = .ok (.bipush (-2), 2) := by decide +kernel
theorem dX10_undo_12 : decode cX10_undo 12 = .ok (.ireturn, 1) := by decide +kernel
theorem dX10_undo_13 : decode cX10_undo 13 = .ok (.aload_n 0, 1) := by decide +kernel
theorem dX10_undo_14 : decode cX10_undo 14 = .ok (.getfield 19, 3) := by decide +kernel
theorem dX10_undo_17 : decode cX10_undo 17 = .ok (.aload_n 0, 1) := by decide +kernel
theorem dX10_undo_18 : decode cX10_undo 18 = .ok (.getfield 10, 3) := by decide +kernel
theorem dX10_undo_21 : decode cX10_undo 21 = .ok (.invokevirtual 255, 3) := by decide +kernel
theorem dX10_undo_24 : decode cX10_undo 24 = .ok (.aload_n 0, 1) := by decide +kernel
theorem dX10_undo_25 : decode cX10_undo 25 = .ok (.getfield 19, 3) := by decide +kernel
theorem dX10_undo_28 : decode cX10_undo 28 = .ok (.getfield 254, 3) := by decide +kernel
theorem dX10_undo_31 : decode cX10_undo 31 = .ok (.ireturn, 1) := by decide +kernel
theorem dX10_type_0 : decode cX10_type 0 = .ok (.iload_n 1, 1) := by decide +kernel
theorem dX10_type_1 : decode cX10_type 1 = .ok (.bipush 32, 2) := by decide +kernel
theorem dX10_type_3 : decode cX10_type 3 = .ok (.bipush 126, 2) := by decide +kernel
theorem dX10_type_5 : decode cX10_type 5 = .ok (.invokestatic 50, 3) := by decide +kernel
theorem dX10_type_8 : decode cX10_type 8 = .ok (.ifCond .ne 5, 3) := by decide +kernel
theorem dX10_type_11 : decode cX10_type 11 = .ok (.iconst (-1), 1) := by decide +kernel
theorem dX10_type_12 : decode cX10_type 12 = .ok (.ireturn, 1) := by decide +kernel
theorem dX10_type_13 : decode cX10_type 13 = .ok (.aload_n 0, 1) := by decide +kernel
theorem dX10_type_14 : decode cX10_type 14 = .ok (.getfield 41, 3) := by decide +kernel
theorem dX10_type_17 : decode cX10_type 17 = .ok (.bipush 60, 2) := by decide +kernel
theorem dX10_type_19 : decode cX10_type 19 = .ok (.if_icmp .lt 6, 3) := by decide +kernel
theorem dX10_type_22 : decode cX10_type 22 = .ok (.bipush (-3), 2) := by decide +kernel
theorem dX10_type_24 : decode cX10_type 24 = .ok (.ireturn, 1) := by decide +kernel
theorem dX10_type_25 : decode cX10_type 25 = .ok (.aload_n 0, 1) := by decide +kernel
theorem dX10_type_26 : decode cX10_type 26 = .ok (.getfield 37, 3) := by decide +kernel
theorem dX10_type_29 : decode cX10_type 29 = .ok (.aload_n 0, 1) := by decide +kernel
theorem dX10_type_30 : decode cX10_type 30 = .ok (.getfield 41, 3) := by decide +kernel
theorem dX10_type_33 : decode cX10_type 33 = .ok (.iload_n 1, 1) := by decide +kernel
theorem dX10_type_34 : decode cX10_type 34 = .ok (.i2c, 1) := by decide +kernel
theorem dX10_type_35 : decode cX10_type 35 = .ok (.castore, 1) := by decide +kernel
theorem dX10_type_36 : decode cX10_type 36 = .ok (.aload_n 0, 1) := by decide +kernel
theorem dX10_type_37 : decode cX10_type 37 = .ok (.dup, 1) := by decide +kernel
theorem dX10_type_38 : decode cX10_type 38 = .ok (.getfield 41, 3) := by decide +kernel
theorem dX10_type_41 : decode cX10_type 41 = .ok (.iconst 1, 1) := by decide +kernel
theorem dX10_type_42 : decode cX10_type 42 = .ok (.iadd, 1) := by decide +kernel
theorem dX10_type_43 : decode cX10_type 43 = .ok (.putfield 41, 3) := by decide +kernel
theorem dX10_type_46 : decode cX10_type 46 = .ok (.aload_n 0, 1) := by decide +kernel
theorem dX10_type_47 : decode cX10_type 47 = .ok (.getfield 41, 3) := by decide +kernel
theorem dX10_type_50 : decode cX10_type 50 = .ok (.ireturn, 1) := by decide +kernel
theorem dX10_clearText_0 : decode cX10_clearText 0 = .ok (.aload_n 0, 1) := by decide +kernel
theorem dX10_clearText_1 : decode cX10_clearText 1 = .ok (.getfield 41, 3) := by decide +kernel
theorem dX10_clearText_4 : decode cX10_clearText 4 = .ok (.istore_n 1, 1) := by decide +kernel
theorem dX10_clearText_5 : decode cX10_clearText 5 = .ok (.aload_n 0, 1) := by decide +kernel
theorem dX10_clearText_6 : decode cX10_clearText 6 = .ok (.iconst 0, 1) := by decide +kernel
theorem dX10_clearText_7 : decode cX10_clearText 7 = .ok (.putfield 41, 3) := by decide +kernel
theorem dX10_clearText_10 : decode cX10_clearText 10 = .ok (.iload_n 1, 1) := by decide +kernel
theorem dX10_clearText_11 : decode cX10_clearText 11 = .ok (.ireturn, 1) := by decide +kernel
theorem dX10_fault_0 : decode cX10_fault 0 = .ok (.iload_n 1, 1) := by decide +kernel
theorem dX10_fault_1 : decode cX10_fault 1 = .ok (.iconst 0, 1) := by decide +kernel
theorem dX10_fault_2 : decode cX10_fault 2 = .ok (.iconst 1, 1) := by decide +kernel
theorem dX10_fault_3 : decode cX10_fault 3 = .ok (.invokestatic 50, 3) := by decide +kernel
theorem dX10_fault_6 : decode cX10_fault 6 = .ok (.ifCond .ne 5, 3) := by decide +kernel
theorem dX10_fault_9 : decode cX10_fault 9 = .ok (.iconst (-1), 1) := by decide +kernel
theorem dX10_fault_10 : decode cX10_fault 10 = .ok (.ireturn, 1) := by decide +kernel
theorem dX10_fault_11 : decode cX10_fault 11 = .ok (.aload_n 0, 1) := by decide +kernel
theorem dX10_fault_12 : decode cX10_fault 12 = .ok (.getfield 33, 3) := by decide +kernel
theorem dX10_fault_15 : decode cX10_fault 15 = .ok (.aload_n 0, 1) := by decide +kernel
theorem dX10_fault_16 : decode cX10_fault 16 = .ok (.getfield 37, 3) := by decide +kernel
theorem dX10_fault_19 : decode cX10_fault 19 = .ok (.aload_n 0, 1) := by decide +kernel
theorem dX10_fault_20 : decode cX10_fault 20 = .ok (.getfield 41, 3) := by decide +kernel
theorem dX10_fault_23 : decode cX10_fault 23 = .ok (.aload_n 0, 1) := by decide +kernel
theorem dX10_fault_24 : decode cX10_fault 24 = .ok (.getfield 10, 3) := by decide +kernel
theorem dX10_fault_27 : decode cX10_fault 27 = .ok (.invokevirtual 258, 3) := by decide +kernel
theorem dX10_fault_30 : decode cX10_fault 30 = .ok (.aload_n 0, 1) := by decide +kernel
theorem dX10_fault_31 : decode cX10_fault 31 = .ok (.getfield 33, 3) := by decide +kernel
theorem dX10_fault_34 : decode cX10_fault 34 = .ok (.getfield 262, 3) := by decide +kernel
theorem dX10_fault_37 : decode cX10_fault 37 = .ok (.ifCond .ne 6, 3) := by decide +kernel
theorem dX10_fault_40 : decode cX10_fault 40 = .ok (.bipush (-4), 2) := by decide +kernel
theorem dX10_fault_42 : decode cX10_fault 42 = .ok (.ireturn, 1) := by decide +kernel
theorem dX10_fault_43 : decode cX10_fault 43 = .ok (.iload_n 1, 1) := by decide +kernel
theorem dX10_fault_44 : decode cX10_fault 44 = .ok (.ifCond .ne 13, 3) := by decide +kernel
theorem dX10_fault_47 : decode cX10_fault 47 = .ok (.aload_n 0, 1) := by decide +kernel
theorem dX10_fault_48 : decode cX10_fault 48 = .ok (.getfield 33, 3) := by decide +kernel
theorem dX10_fault_51 : decode cX10_fault 51 = .ok (.getfield 265, 3) := by decide +kernel
theorem dX10_fault_54 : decode cX10_fault 54 = .ok (.goto 10, 3) := by decide +kernel
theorem dX10_fault_57 : decode cX10_fault 57 = .ok (.aload_n 0, 1) := by decide +kernel
theorem dX10_fault_58 : decode cX10_fault 58 = .ok (.getfield 33, 3) := by decide +kernel
theorem dX10_fault_61 : decode cX10_fault 61 = .ok (.getfield 262, 3) := by decide +kernel
theorem dX10_fault_64 : decode cX10_fault 64 = .ok (.ireturn, 1) := by decide +kernel
theorem dX10_frame_0 : decode cX10_frame 0 = .ok (.iload_n 1, 1) := by decide +kernel
theorem dX10_frame_1 : decode cX10_frame 1 = .ok (.iconst 0, 1) := by decide +kernel
theorem dX10_frame_2 : decode cX10_frame 2 = .ok (.iconst 5, 1) := by decide +kernel
theorem dX10_frame_3 : decode cX10_frame 3 = .ok (.invokestatic 50, 3) := by decide +kernel
theorem dX10_frame_6 : decode cX10_frame 6 = .ok (.ifCond .ne 5, 3) := by decide +kernel
theorem dX10_frame_9 : decode cX10_frame 9 = .ok (.iconst (-1), 1) := by decide +kernel
theorem dX10_frame_10 : decode cX10_frame 10 = .ok (.ireturn, 1) := by decide +kernel
theorem dX10_frame_11 : decode cX10_frame 11 = .ok (.aload_n 0, 1) := by decide +kernel
theorem dX10_frame_12 : decode cX10_frame 12 = .ok (.getfield 33, 3) := by decide +kernel
theorem dX10_frame_15 : decode cX10_frame 15 = .ok (.aload_n 0, 1) := by decide +kernel
theorem dX10_frame_16 : decode cX10_frame 16 = .ok (.getfield 37, 3) := by decide +kernel
theorem dX10_frame_19 : decode cX10_frame 19 = .ok (.aload_n 0, 1) := by decide +kernel
theorem dX10_frame_20 : decode cX10_frame 20 = .ok (.getfield 41, 3) := by decide +kernel
theorem dX10_frame_23 : decode cX10_frame 23 = .ok (.aload_n 0, 1) := by decide +kernel
theorem dX10_frame_24 : decode cX10_frame 24 = .ok (.getfield 10, 3) := by decide +kernel
theorem dX10_frame_27 : decode cX10_frame 27 = .ok (.invokevirtual 258, 3) := by decide +kernel
theorem dX10_frame_30 : decode cX10_frame 30 = .ok (.aload_n 0, 1) := by decide +kernel
theorem dX10_frame_31 : decode cX10_frame 31 = .ok (.getfield 33, 3) := by decide +kernel
theorem dX10_frame_34 : decode cX10_frame 34 = .ok (.getfield 262, 3) := by decide +kernel
theorem dX10_frame_37 : decode cX10_frame 37 = .ok (.ifCond .ne 14, 3) := by decide +kernel
theorem dX10_frame_40 : decode cX10_frame 40 = .ok (.aload_n 0, 1) := by decide +kernel
theorem dX10_frame_41 : decode cX10_frame 41 = .ok (.getfield 33, 3) := by decide +kernel
theorem dX10_frame_44 : decode cX10_frame 44 = .ok (.iload_n 1, 1) := by decide +kernel
theorem dX10_frame_45 : decode cX10_frame 45 = .ok (.invokevirtual 268, 3) := by decide +kernel
theorem dX10_frame_48 : decode cX10_frame 48 = .ok (.goto 5, 3) := by decide +kernel
theorem dX10_frame_51 : decode cX10_frame 51 = .ok (.bipush (-2), 2) := by decide +kernel
theorem dX10_frame_53 : decode cX10_frame 53 = .ok (.ireturn, 1) := by decide +kernel
theorem dX10_isIn_0 : decode cX10_isIn 0 = .ok (.iload_n 0, 1) := by decide +kernel
theorem dX10_isIn_1 : decode cX10_isIn 1 = .ok (.iload_n 1, 1) := by decide +kernel
theorem dX10_isIn_2 : decode cX10_isIn 2 = .ok (.if_icmp .lt 12, 3) := by decide +kernel
theorem dX10_isIn_5 : decode cX10_isIn 5 = .ok (.iload_n 0, 1) := by decide +kernel
theorem dX10_isIn_6 : decode cX10_isIn 6 = .ok (.iload_n 2, 1) := by decide +kernel
theorem dX10_isIn_7 : decode cX10_isIn 7 = .ok (.if_icmp .gt 7, 3) := by decide +kernel
theorem dX10_isIn_10 : decode cX10_isIn 10 = .ok (.iconst 1, 1) := by decide +kernel
theorem dX10_isIn_11 : decode cX10_isIn 11 = .ok (.goto 4, 3) := by decide +kernel
theorem dX10_isIn_14 : decode cX10_isIn 14 = .ok (.iconst 0, 1) := by decide +kernel
theorem dX10_isIn_15 : decode cX10_isIn 15 = .ok (.ireturn, 1) := by decide +kernel
theorem dX10_isMetal_0 : decode cX10_isMetal 0 = .ok (.iload_n 0, 1) := by decide +kernel
theorem dX10_isMetal_1 : decode cX10_isMetal 1 = .ok (.iconst 0, 1) := by decide +kernel
theorem dX10_isMetal_2 : decode cX10_isMetal 2 = .ok (.iconst 1, 1) := by decide +kernel
theorem dX10_isMetal_3 : decode cX10_isMetal 3 = .ok (.invokestatic 50, 3) := by decide +kernel
theorem dX10_isMetal_6 : decode cX10_isMetal 6 = .ok (.ireturn, 1) := by decide +kernel
theorem dX10_isProfile_0 : decode cX10_isProfile 0 = .ok (.iload_n 0, 1) := by decide +kernel
theorem dX10_isProfile_1 : decode cX10_isProfile 1 = .ok (.iconst 0, 1) := by decide +kernel
theorem dX10_isProfile_2 : decode cX10_isProfile 2 = .ok (.getstatic 269, 3) := by decide +kernel
theorem dX10_isProfile_5 : decode cX10_isProfile 5 = .ok (.arraylength, 1) := by decide +kernel
theorem dX10_isProfile_6 : decode cX10_isProfile 6 = .ok (.iconst 1, 1) := by decide +kernel
theorem dX10_isProfile_7 : decode cX10_isProfile 7 = .ok (.isub, 1) := by decide +kernel
theorem dX10_isProfile_8 : decode cX10_isProfile 8 = .ok (.invokestatic 50, 3) := by decide +kernel
theorem dX10_isProfile_11 : decode cX10_isProfile 11 = .ok (.ireturn, 1) := by decide +kernel
theorem dX10_shareRoundedUp_0 : decode cX10_shareRoundedUp 0 = .ok (.iload_n 0, 1) := by decide +kernel
theorem dX10_shareRoundedUp_1 : decode cX10_shareRoundedUp 1 = .ok (.iload_n 1, 1) := by decide +kernel
theorem dX10_shareRoundedUp_2 : decode cX10_shareRoundedUp 2 = .ok (.imul, 1) := by decide +kernel
theorem dX10_shareRoundedUp_3 : decode cX10_shareRoundedUp 3 = .ok (.sipush 999, 3) := by decide +kernel
theorem dX10_shareRoundedUp_6 : decode cX10_shareRoundedUp 6 = .ok (.iadd, 1) := by decide +kernel
theorem dX10_shareRoundedUp_7 : decode cX10_shareRoundedUp 7 = .ok (.sipush 1000, 3) := by decide +kernel
theorem dX10_shareRoundedUp_10 : decode cX10_shareRoundedUp 10 = .ok (.idiv, 1) := by decide +kernel
theorem dX10_shareRoundedUp_11 : decode cX10_shareRoundedUp 11 = .ok (.ireturn, 1) := by decide +kernel
theorem dX10_cube_0 : decode cX10_cube 0 = .ok (.lload_n 0, 1) := by decide +kernel
theorem dX10_cube_1 : decode cX10_cube 1 = .ok (.lload_n 0, 1) := by decide +kernel
theorem dX10_cube_2 : decode cX10_cube 2 = .ok (.lmul, 1) := by decide +kernel
theorem dX10_cube_3 : decode cX10_cube 3 = .ok (.lload_n 0, 1) := by decide +kernel
theorem dX10_cube_4 : decode cX10_cube 4 = .ok (.lmul, 1) := by decide +kernel
theorem dX10_cube_5 : decode cX10_cube 5 = .ok (.lreturn, 1) := by decide +kernel
theorem dX10_rootOf_0 : decode cX10_rootOf 0 = .ok (.iconst 1, 1) := by decide +kernel
theorem dX10_rootOf_1 : decode cX10_rootOf 1 = .ok (.istore_n 1, 1) := by decide +kernel
theorem dX10_rootOf_2 : decode cX10_rootOf 2 = .ok (.sipush 2048, 3) := by decide +kernel
theorem dX10_rootOf_5 : decode cX10_rootOf 5 = .ok (.istore_n 2, 1) := by decide +kernel
theorem dX10_rootOf_6 : decode cX10_rootOf 6 = .ok (.iload_n 2, 1) := by decide +kernel
theorem dX10_rootOf_7 : decode cX10_rootOf 7 = .ok (.iconst 1, 1) := by decide +kernel
theorem dX10_rootOf_8 : decode cX10_rootOf 8 = .ok (.if_icmp .lt 31, 3) := by decide +kernel
theorem dX10_rootOf_11 : decode cX10_rootOf 11 = .ok (.iload_n 1, 1) := by decide +kernel
theorem dX10_rootOf_12 : decode cX10_rootOf 12 = .ok (.iload_n 2, 1) := by decide +kernel
theorem dX10_rootOf_13 : decode cX10_rootOf 13 = .ok (.iadd, 1) := by decide +kernel
theorem dX10_rootOf_14 : decode cX10_rootOf 14 = .ok (.i2l, 1) := by decide +kernel
theorem dX10_rootOf_15 : decode cX10_rootOf 15 = .ok (.invokestatic 272, 3) := by decide +kernel
theorem dX10_rootOf_18 : decode cX10_rootOf 18 = .ok (.ldc2_w 276, 3) := by decide +kernel
theorem dX10_rootOf_21 : decode cX10_rootOf 21 = .ok (.iload_n 0, 1) := by decide +kernel
theorem dX10_rootOf_22 : decode cX10_rootOf 22 = .ok (.i2l, 1) := by decide +kernel
theorem dX10_rootOf_23 : decode cX10_rootOf 23 = .ok (.lmul, 1) := by decide +kernel
theorem dX10_rootOf_24 : decode cX10_rootOf 24 = .ok (.lcmp, 1) := by decide +kernel
theorem dX10_rootOf_25 : decode cX10_rootOf 25 = .ok (.ifCond .gt 7, 3) := by decide +kernel
theorem dX10_rootOf_28 : decode cX10_rootOf 28 = .ok (.iload_n 1, 1) := by decide +kernel
theorem dX10_rootOf_29 : decode cX10_rootOf 29 = .ok (.iload_n 2, 1) := by decide +kernel
theorem dX10_rootOf_30 : decode cX10_rootOf 30 = .ok (.iadd, 1) := by decide +kernel
theorem dX10_rootOf_31 : decode cX10_rootOf 31 = .ok (.istore_n 1, 1) := by decide +kernel
theorem dX10_rootOf_32 : decode cX10_rootOf 32 = .ok (.iload_n 2, 1) := by decide +kernel
theorem dX10_rootOf_33 : decode cX10_rootOf 33 = .ok (.iconst 2, 1) := by decide +kernel
theorem dX10_rootOf_34 : decode cX10_rootOf 34 = .ok (.idiv, 1) := by decide +kernel
theorem dX10_rootOf_35 : decode cX10_rootOf 35 = .ok (.istore_n 2, 1) := by decide +kernel
theorem dX10_rootOf_36 : decode cX10_rootOf 36 = .ok (.goto (-30), 3) := by decide +kernel
theorem dX10_rootOf_39 : decode cX10_rootOf 39 = .ok (.iload_n 1, 1) := by decide +kernel
theorem dX10_rootOf_40 : decode cX10_rootOf 40 = .ok (.ireturn, 1) := by decide +kernel
theorem dX10_firstPitch_0 : decode cX10_firstPitch 0 = .ok (.getstatic 269, 3) := by decide +kernel
theorem dX10_firstPitch_3 : decode cX10_firstPitch 3 = .ok (.iload_n 0, 1) := by decide +kernel
theorem dX10_firstPitch_4 : decode cX10_firstPitch 4 = .ok (.iaload, 1) := by decide +kernel
theorem dX10_firstPitch_5 : decode cX10_firstPitch 5 = .ok (.sipush 1000, 3) := by decide +kernel
theorem dX10_firstPitch_8 : decode cX10_firstPitch 8 = .ok (.imul, 1) := by decide +kernel
theorem dX10_firstPitch_9 : decode cX10_firstPitch 9 = .ok (.iconst 1, 1) := by decide +kernel
theorem dX10_firstPitch_10 : decode cX10_firstPitch 10 = .ok (.iload_n 1, 1) := by decide +kernel
theorem dX10_firstPitch_11 : decode cX10_firstPitch 11 = .ok (.invokestatic 278, 3) := by decide +kernel
theorem dX10_firstPitch_14 : decode cX10_firstPitch 14 = .ok (.idiv, 1) := by decide +kernel
theorem dX10_firstPitch_15 : decode cX10_firstPitch 15 = .ok (.iload_n 2, 1) := by decide +kernel
theorem dX10_firstPitch_16 : decode cX10_firstPitch 16 = .ok (.iconst 4, 1) := by decide +kernel
theorem dX10_firstPitch_17 : decode cX10_firstPitch 17 = .ok (.idiv, 1) := by decide +kernel
theorem dX10_firstPitch_18 : decode cX10_firstPitch 18 = .ok (.iadd, 1) := by decide +kernel
theorem dX10_firstPitch_19 : decode cX10_firstPitch 19 = .ok (.ireturn, 1) := by decide +kernel
theorem dX10_heaviestAtPitch_0 : decode cX10_heaviestAtPitch 0 = .ok (.iload_n 1, 1) := by decide +kernel
theorem dX10_heaviestAtPitch_1 : decode cX10_heaviestAtPitch 1 = .ok (.sipush 250, 3) := by decide +kernel
theorem dX10_heaviestAtPitch_4 : decode cX10_heaviestAtPitch 4 = .ok (.isub, 1) := by decide +kernel
theorem dX10_heaviestAtPitch_5 : decode cX10_heaviestAtPitch 5 = .ok (.istore_n 2, 1) := by decide +kernel
theorem dX10_heaviestAtPitch_6 : decode cX10_heaviestAtPitch 6 = .ok (.iload_n 2, 1) := by decide +kernel
theorem dX10_heaviestAtPitch_7 : decode cX10_heaviestAtPitch 7 = .ok (.iconst 1, 1) := by decide +kernel
theorem dX10_heaviestAtPitch_8 : decode cX10_heaviestAtPitch 8 = .ok (.if_icmp .ge 7, 3) := by decide +kernel
theorem dX10_heaviestAtPitch_11 : decode cX10_heaviestAtPitch 11 = .ok (.sipush 10000, 3) := by decide +kernel
theorem dX10_heaviestAtPitch_14 : decode cX10_heaviestAtPitch 14 = .ok (.ireturn, 1) := by decide +kernel
theorem dX10_heaviestAtPitch_15 : decode cX10_heaviestAtPitch 15 = .ok (.getstatic 269, 3) := by decide +kernel
theorem dX10_heaviestAtPitch_18 : decode cX10_heaviestAtPitch 18 = .ok (.iload_n 0, 1) := by decide +kernel
theorem dX10_heaviestAtPitch_19 : decode cX10_heaviestAtPitch 19 = .ok (.iaload, 1) := by decide +kernel
theorem dX10_heaviestAtPitch_20 : decode cX10_heaviestAtPitch 20 = .ok (.sipush 1000, 3) := by decide +kernel
theorem dX10_heaviestAtPitch_23 : decode cX10_heaviestAtPitch 23 = .ok (.imul, 1) := by decide +kernel
theorem dX10_heaviestAtPitch_24 : decode cX10_heaviestAtPitch 24 = .ok (.iload_n 2, 1) := by decide +kernel
theorem dX10_heaviestAtPitch_25 : decode cX10_heaviestAtPitch 25 = .ok (.idiv, 1) := by decide +kernel
theorem dX10_heaviestAtPitch_26 : decode cX10_heaviestAtPitch 26 = .ok (.iconst 1, 1) := by decide +kernel
theorem dX10_heaviestAtPitch_27 : decode cX10_heaviestAtPitch 27 = .ok (.iadd, 1) := by decide +kernel
theorem dX10_heaviestAtPitch_28 : decode cX10_heaviestAtPitch 28 = .ok (.i2l, 1) := by decide +kernel
theorem dX10_heaviestAtPitch_29 : decode cX10_heaviestAtPitch 29 = .ok (.lstore_n 3, 1) := by decide +kernel
theorem dX10_heaviestAtPitch_30 : decode cX10_heaviestAtPitch 30 = .ok (.ldc2_w 283, 3) := by decide +kernel
theorem dX10_heaviestAtPitch_33 : decode cX10_heaviestAtPitch 33 = .ok (.lload_n 3, 1) := by decide +kernel
theorem dX10_heaviestAtPitch_34 : decode cX10_heaviestAtPitch 34 = .ok (.invokestatic 272, 3) := by decide +kernel
theorem dX10_heaviestAtPitch_37 : decode cX10_heaviestAtPitch 37 = .ok (.lconst 1, 1) := by decide +kernel
theorem dX10_heaviestAtPitch_38 : decode cX10_heaviestAtPitch 38 = .ok (.lsub, 1) := by decide +kernel
theorem dX10_heaviestAtPitch_39 : decode cX10_heaviestAtPitch 39 = .ok (.ldc2_w 276, 3) := by decide +kernel
theorem dX10_heaviestAtPitch_42 : decode cX10_heaviestAtPitch 42 = .ok (.ldiv, 1) := by decide +kernel
theorem dX10_heaviestAtPitch_43 : decode cX10_heaviestAtPitch 43 = .ok (.invokestatic 285, 3) := by decide +kernel
theorem dX10_heaviestAtPitch_46 : decode cX10_heaviestAtPitch 46 = .ok (.l2i, 1) := by decide +kernel
theorem dX10_heaviestAtPitch_47 : decode cX10_heaviestAtPitch 47 = .ok (.ireturn, 1) := by decide +kernel
theorem dJ9_abs_0f7a4_0 : decode cJ9_abs_0f7a4 0 = .ok (.iload_n 0, 1) := by decide +kernel
theorem dJ9_abs_0f7a4_1 : decode cJ9_abs_0f7a4 1 = .ok (.ifCond .ge 8, 3) := by decide +kernel
theorem dJ9_abs_0f7a4_4 : decode cJ9_abs_0f7a4 4 = .ok (.iload_n 0, 1) := by decide +kernel
theorem dJ9_abs_0f7a4_5 : decode cJ9_abs_0f7a4 5 = .ok (.ineg, 1) := by decide +kernel
theorem dJ9_abs_0f7a4_6 : decode cJ9_abs_0f7a4 6 = .ok (.goto 4, 3) := by decide +kernel
theorem dJ9_abs_0f7a4_9 : decode cJ9_abs_0f7a4 9 = .ok (.iload_n 0, 1) := by decide +kernel
theorem dJ9_abs_0f7a4_10 : decode cJ9_abs_0f7a4 10 = .ok (.ireturn, 1) := by decide +kernel
theorem dJ9_max_7cf53_0 : decode cJ9_max_7cf53 0 = .ok (.iload_n 0, 1) := by decide +kernel
theorem dJ9_max_7cf53_1 : decode cJ9_max_7cf53 1 = .ok (.iload_n 1, 1) := by decide +kernel
theorem dJ9_max_7cf53_2 : decode cJ9_max_7cf53 2 = .ok (.if_icmp .lt 7, 3) := by decide +kernel
theorem dJ9_max_7cf53_5 : decode cJ9_max_7cf53 5 = .ok (.iload_n 0, 1) := by decide +kernel
theorem dJ9_max_7cf53_6 : decode cJ9_max_7cf53 6 = .ok (.goto 4, 3) := by decide +kernel
theorem dJ9_max_7cf53_9 : decode cJ9_max_7cf53 9 = .ok (.iload_n 1, 1) := by decide +kernel
theorem dJ9_max_7cf53_10 : decode cJ9_max_7cf53 10 = .ok (.ireturn, 1) := by decide +kernel
theorem dJ9_min_7cf53_0 : decode cJ9_min_7cf53 0 = .ok (.iload_n 0, 1) := by decide +kernel
theorem dJ9_min_7cf53_1 : decode cJ9_min_7cf53 1 = .ok (.iload_n 1, 1) := by decide +kernel
theorem dJ9_min_7cf53_2 : decode cJ9_min_7cf53 2 = .ok (.if_icmp .gt 7, 3) := by decide +kernel
theorem dJ9_min_7cf53_5 : decode cJ9_min_7cf53 5 = .ok (.iload_n 0, 1) := by decide +kernel
theorem dJ9_min_7cf53_6 : decode cJ9_min_7cf53 6 = .ok (.goto 4, 3) := by decide +kernel
theorem dJ9_min_7cf53_9 : decode cJ9_min_7cf53 9 = .ok (.iload_n 1, 1) := by decide +kernel
theorem dJ9_min_7cf53_10 : decode cJ9_min_7cf53 10 = .ok (.ireturn, 1) := by decide +kernel
theorem dJ9_min_f86c9_0 : decode cJ9_min_f86c9 0 = .ok (.lload_n 0, 1) := by decide +kernel
theorem dJ9_min_f86c9_1 : decode cJ9_min_f86c9 1 = .ok (.lload_n 2, 1) := by decide +kernel
theorem dJ9_min_f86c9_2 : decode cJ9_min_f86c9 2 = .ok (.lcmp, 1) := by decide +kernel
theorem dJ9_min_f86c9_3 : decode cJ9_min_f86c9 3 = .ok (.ifCond .gt 7, 3) := by decide +kernel
theorem dJ9_min_f86c9_6 : decode cJ9_min_f86c9 6 = .ok (.lload_n 0, 1) := by decide +kernel
theorem dJ9_min_f86c9_7 : decode cJ9_min_f86c9 7 = .ok (.goto 4, 3) := by decide +kernel
theorem dJ9_min_f86c9_10 : decode cJ9_min_f86c9 10 = .ok (.lload_n 2, 1) := by decide +kernel
theorem dJ9_min_f86c9_11 : decode cJ9_min_f86c9 11 = .ok (.lreturn, 1) := by decide +kernel
theorem dJ7_fill_53178_0 : decode cJ7_fill_53178 0 = .ok (.iconst 0, 1) := by decide +kernel
theorem dJ7_fill_53178_1 : decode cJ7_fill_53178 1 = .ok (.istore_n 2, 1) := by decide +kernel
theorem dJ7_fill_53178_2 : decode cJ7_fill_53178 2 = .ok (.aload_n 0, 1) := by decide +kernel
theorem dJ7_fill_53178_3 : decode cJ7_fill_53178 3 = .ok (.arraylength, 1) := by decide +kernel
theorem dJ7_fill_53178_4 : decode cJ7_fill_53178 4 = .ok (.istore_n 3, 1) := by decide +kernel
theorem dJ7_fill_53178_5 : decode cJ7_fill_53178 5 = .ok (.iload_n 2, 1) := by decide +kernel
theorem dJ7_fill_53178_6 : decode cJ7_fill_53178 6 = .ok (.iload_n 3, 1) := by decide +kernel
theorem dJ7_fill_53178_7 : decode cJ7_fill_53178 7 = .ok (.if_icmp .ge 13, 3) := by decide +kernel
theorem dJ7_fill_53178_10 : decode cJ7_fill_53178 10 = .ok (.aload_n 0, 1) := by decide +kernel
theorem dJ7_fill_53178_11 : decode cJ7_fill_53178 11 = .ok (.iload_n 2, 1) := by decide +kernel
theorem dJ7_fill_53178_12 : decode cJ7_fill_53178 12 = .ok (.iload_n 1, 1) := by decide +kernel
theorem dJ7_fill_53178_13 : decode cJ7_fill_53178 13 = .ok (.iastore, 1) := by decide +kernel
theorem dJ7_fill_53178_14 : decode cJ7_fill_53178 14 = .ok (.iinc 2 1, 3) := by decide +kernel
theorem dJ7_fill_53178_17 : decode cJ7_fill_53178 17 = .ok (.goto (-12), 3) := by decide +kernel
theorem dJ7_fill_53178_20 : decode cJ7_fill_53178 20 = .ok (.return_, 1) := by decide +kernel
theorem dL_cell_0 : decode cL_cell 0 = .ok (.iload_n 1, 1) := by decide +kernel
theorem dL_cell_1 : decode cL_cell 1 = .ok (.aload_n 0, 1) := by decide +kernel
theorem dL_cell_2 : decode cL_cell 2 = .ok (.arraylength, 1) := by decide +kernel
theorem dL_cell_3 : decode cL_cell 3 = .ok (.if_icmp .ge 9, 3) := by decide +kernel
theorem dL_cell_6 : decode cL_cell 6 = .ok (.aload_n 0, 1) := by decide +kernel
theorem dL_cell_7 : decode cL_cell 7 = .ok (.iload_n 1, 1) := by decide +kernel
theorem dL_cell_8 : decode cL_cell 8 = .ok (.iaload, 1) := by decide +kernel
theorem dL_cell_9 : decode cL_cell 9 = .ok (.goto 9, 3) := by decide +kernel
theorem dL_cell_12 : decode cL_cell 12 = .ok (.ldc 7, 2) := by decide +kernel
theorem dL_cell_14 : decode cL_cell 14 = .ok (.iload_n 1, 1) := by decide +kernel
theorem dL_cell_15 : decode cL_cell 15 = .ok (.iconst 3, 1) := by decide +kernel
theorem dL_cell_16 : decode cL_cell 16 = .ok (.iadd, 1) := by decide +kernel
theorem dL_cell_17 : decode cL_cell 17 = .ok (.imul, 1) := by decide +kernel
theorem dL_cell_18 : decode cL_cell 18 = .ok (.istore_n 2, 1) := by decide +kernel
theorem dL_cell_19 : decode cL_cell 19 = .ok (.iload_n 2, 1) := by decide +kernel
theorem dL_cell_20 : decode cL_cell 20 = .ok (.iload_n 2, 1) := by decide +kernel
theorem dL_cell_21 : decode cL_cell 21 = .ok (.bipush 15, 2) := by decide +kernel
theorem dL_cell_23 : decode cL_cell 23 = .ok (.iushr, 1) := by decide +kernel
theorem dL_cell_24 : decode cL_cell 24 = .ok (.ixor, 1) := by decide +kernel
theorem dL_cell_25 : decode cL_cell 25 = .ok (.ireturn, 1) := by decide +kernel
theorem dL_low_0 : decode cL_low 0 = .ok (.iload_n 0, 1) := by decide +kernel
theorem dL_low_1 : decode cL_low 1 = .ok (.ldc 8, 2) := by decide +kernel
theorem dL_low_3 : decode cL_low 3 = .ok (.iand, 1) := by decide +kernel
theorem dL_low_4 : decode cL_low 4 = .ok (.iload_n 1, 1) := by decide +kernel
theorem dL_low_5 : decode cL_low 5 = .ok (.irem, 1) := by decide +kernel
theorem dL_low_6 : decode cL_low 6 = .ok (.ireturn, 1) := by decide +kernel
theorem dL_sum_0 : decode cL_sum 0 = .ok (.ldc2_w 9, 3) := by decide +kernel
theorem dL_sum_3 : decode cL_sum 3 = .ok (.lstore_n 1, 1) := by decide +kernel
theorem dL_sum_4 : decode cL_sum 4 = .ok (.iconst 0, 1) := by decide +kernel
theorem dL_sum_5 : decode cL_sum 5 = .ok (.istore_n 3, 1) := by decide +kernel
theorem dL_sum_6 : decode cL_sum 6 = .ok (.iload_n 3, 1) := by decide +kernel
theorem dL_sum_7 : decode cL_sum 7 = .ok (.bipush 10, 2) := by decide +kernel
theorem dL_sum_9 : decode cL_sum 9 = .ok (.if_icmp .ge 32, 3) := by decide +kernel
theorem dL_sum_12 : decode cL_sum 12 = .ok (.iload_n 3, 1) := by decide +kernel
theorem dL_sum_13 : decode cL_sum 13 = .ok (.bipush 8, 2) := by decide +kernel
theorem dL_sum_15 : decode cL_sum 15 = .ok (.if_icmp .ne 7, 3) := by decide +kernel
theorem dL_sum_18 : decode cL_sum 18 = .ok (.lload_n 1, 1) := by decide +kernel
theorem dL_sum_19 : decode cL_sum 19 = .ok (.goto 15, 3) := by decide +kernel
theorem dL_sum_22 : decode cL_sum 22 = .ok (.ldc2_w 11, 3) := by decide +kernel
theorem dL_sum_25 : decode cL_sum 25 = .ok (.lload_n 1, 1) := by decide +kernel
theorem dL_sum_26 : decode cL_sum 26 = .ok (.lmul, 1) := by decide +kernel
theorem dL_sum_27 : decode cL_sum 27 = .ok (.aload_n 0, 1) := by decide +kernel
theorem dL_sum_28 : decode cL_sum 28 = .ok (.iload_n 3, 1) := by decide +kernel
theorem dL_sum_29 : decode cL_sum 29 = .ok (.invokevirtual 13, 3) := by decide +kernel
theorem dL_sum_32 : decode cL_sum 32 = .ok (.i2l, 1) := by decide +kernel
theorem dL_sum_33 : decode cL_sum 33 = .ok (.ladd, 1) := by decide +kernel
theorem dL_sum_34 : decode cL_sum 34 = .ok (.lstore_n 1, 1) := by decide +kernel
theorem dL_sum_35 : decode cL_sum 35 = .ok (.iinc 3 1, 3) := by decide +kernel
theorem dL_sum_38 : decode cL_sum 38 = .ok (.goto (-32), 3) := by decide +kernel
theorem dL_sum_41 : decode cL_sum 41 = .ok (.bipush 20, 2) := by decide +kernel
theorem dL_sum_43 : decode cL_sum 43 = .ok (.istore_n 3, 1) := by decide +kernel
theorem dL_sum_44 : decode cL_sum 44 = .ok (.iload_n 3, 1) := by decide +kernel
theorem dL_sum_45 : decode cL_sum 45 = .ok (.bipush 27, 2) := by decide +kernel
theorem dL_sum_47 : decode cL_sum 47 = .ok (.if_icmp .ge 22, 3) := by decide +kernel
theorem dL_sum_50 : decode cL_sum 50 = .ok (.ldc2_w 11, 3) := by decide +kernel
theorem dL_sum_53 : decode cL_sum 53 = .ok (.lload_n 1, 1) := by decide +kernel
theorem dL_sum_54 : decode cL_sum 54 = .ok (.lmul, 1) := by decide +kernel
theorem dL_sum_55 : decode cL_sum 55 = .ok (.aload_n 0, 1) := by decide +kernel
theorem dL_sum_56 : decode cL_sum 56 = .ok (.iload_n 3, 1) := by decide +kernel
theorem dL_sum_57 : decode cL_sum 57 = .ok (.invokevirtual 13, 3) := by decide +kernel
theorem dL_sum_60 : decode cL_sum 60 = .ok (.i2l, 1) := by decide +kernel
theorem dL_sum_61 : decode cL_sum 61 = .ok (.ladd, 1) := by decide +kernel
theorem dL_sum_62 : decode cL_sum 62 = .ok (.lstore_n 1, 1) := by decide +kernel
theorem dL_sum_63 : decode cL_sum 63 = .ok (.iinc 3 1, 3) := by decide +kernel
theorem dL_sum_66 : decode cL_sum 66 = .ok (.goto (-22), 3) := by decide +kernel
theorem dL_sum_69 : decode cL_sum 69 = .ok (.iconst 0, 1) := by decide +kernel
theorem dL_sum_70 : decode cL_sum 70 = .ok (.istore_n 3, 1) := by decide +kernel
theorem dL_sum_71 : decode cL_sum 71 = .ok (.iload_n 3, 1) := by decide +kernel
theorem dL_sum_72 : decode cL_sum 72 = .ok (.bipush 14, 2) := by decide +kernel
theorem dL_sum_74 : decode cL_sum 74 = .ok (.if_icmp .ge 29, 3) := by decide +kernel
theorem dL_sum_77 : decode cL_sum 77 = .ok (.ldc2_w 11, 3) := by decide +kernel
theorem dL_sum_80 : decode cL_sum 80 = .ok (.lload_n 1, 1) := by decide +kernel
theorem dL_sum_81 : decode cL_sum 81 = .ok (.lmul, 1) := by decide +kernel
theorem dL_sum_82 : decode cL_sum 82 = .ok (.aload_n 0, 1) := by decide +kernel
theorem dL_sum_83 : decode cL_sum 83 = .ok (.iload_n 3, 1) := by decide +kernel
theorem dL_sum_84 : decode cL_sum 84 = .ok (.bipush 7, 2) := by decide +kernel
theorem dL_sum_86 : decode cL_sum 86 = .ok (.idiv, 1) := by decide +kernel
theorem dL_sum_87 : decode cL_sum 87 = .ok (.iload_n 3, 1) := by decide +kernel
theorem dL_sum_88 : decode cL_sum 88 = .ok (.bipush 7, 2) := by decide +kernel
theorem dL_sum_90 : decode cL_sum 90 = .ok (.irem, 1) := by decide +kernel
theorem dL_sum_91 : decode cL_sum 91 = .ok (.invokevirtual 19, 3) := by decide +kernel
theorem dL_sum_94 : decode cL_sum 94 = .ok (.i2l, 1) := by decide +kernel
theorem dL_sum_95 : decode cL_sum 95 = .ok (.ladd, 1) := by decide +kernel
theorem dL_sum_96 : decode cL_sum 96 = .ok (.lstore_n 1, 1) := by decide +kernel
theorem dL_sum_97 : decode cL_sum 97 = .ok (.iinc 3 1, 3) := by decide +kernel
theorem dL_sum_100 : decode cL_sum 100 = .ok (.goto (-29), 3) := by decide +kernel
theorem dL_sum_103 : decode cL_sum 103 = .ok (.iconst 0, 1) := by decide +kernel
theorem dL_sum_104 : decode cL_sum 104 = .ok (.istore_n 3, 1) := by decide +kernel
theorem dL_sum_105 : decode cL_sum 105 = .ok (.iload_n 3, 1) := by decide +kernel
theorem dL_sum_106 : decode cL_sum 106 = .ok (.iconst 5, 1) := by decide +kernel
theorem dL_sum_107 : decode cL_sum 107 = .ok (.aload_n 0, 1) := by decide +kernel
theorem dL_sum_108 : decode cL_sum 108 = .ok (.iconst 0, 1) := by decide +kernel
theorem dL_sum_109 : decode cL_sum 109 = .ok (.invokevirtual 13, 3) := by decide +kernel
theorem dL_sum_112 : decode cL_sum 112 = .ok (.imul, 1) := by decide +kernel
theorem dL_sum_113 : decode cL_sum 113 = .ok (.if_icmp .ge 27, 3) := by decide +kernel
theorem dL_sum_116 : decode cL_sum 116 = .ok (.ldc2_w 11, 3) := by decide +kernel
theorem dL_sum_119 : decode cL_sum 119 = .ok (.lload_n 1, 1) := by decide +kernel
theorem dL_sum_120 : decode cL_sum 120 = .ok (.lmul, 1) := by decide +kernel
theorem dL_sum_121 : decode cL_sum 121 = .ok (.aload_n 0, 1) := by decide +kernel
theorem dL_sum_122 : decode cL_sum 122 = .ok (.iload_n 3, 1) := by decide +kernel
theorem dL_sum_123 : decode cL_sum 123 = .ok (.iconst 5, 1) := by decide +kernel
theorem dL_sum_124 : decode cL_sum 124 = .ok (.idiv, 1) := by decide +kernel
theorem dL_sum_125 : decode cL_sum 125 = .ok (.iload_n 3, 1) := by decide +kernel
theorem dL_sum_126 : decode cL_sum 126 = .ok (.iconst 5, 1) := by decide +kernel
theorem dL_sum_127 : decode cL_sum 127 = .ok (.irem, 1) := by decide +kernel
theorem dL_sum_128 : decode cL_sum 128 = .ok (.invokevirtual 23, 3) := by decide +kernel
theorem dL_sum_131 : decode cL_sum 131 = .ok (.i2l, 1) := by decide +kernel
theorem dL_sum_132 : decode cL_sum 132 = .ok (.ladd, 1) := by decide +kernel
theorem dL_sum_133 : decode cL_sum 133 = .ok (.lstore_n 1, 1) := by decide +kernel
theorem dL_sum_134 : decode cL_sum 134 = .ok (.iinc 3 1, 3) := by decide +kernel
theorem dL_sum_137 : decode cL_sum 137 = .ok (.goto (-32), 3) := by decide +kernel
theorem dL_sum_140 : decode cL_sum 140 = .ok (.iconst 0, 1) := by decide +kernel
theorem dL_sum_141 : decode cL_sum 141 = .ok (.istore_n 3, 1) := by decide +kernel
theorem dL_sum_142 : decode cL_sum 142 = .ok (.iload_n 3, 1) := by decide +kernel
theorem dL_sum_143 : decode cL_sum 143 = .ok (.bipush 10, 2) := by decide +kernel
theorem dL_sum_145 : decode cL_sum 145 = .ok (.aload_n 0, 1) := by decide +kernel
theorem dL_sum_146 : decode cL_sum 146 = .ok (.iconst 1, 1) := by decide +kernel
theorem dL_sum_147 : decode cL_sum 147 = .ok (.invokevirtual 13, 3) := by decide +kernel
theorem dL_sum_150 : decode cL_sum 150 = .ok (.imul, 1) := by decide +kernel
theorem dL_sum_151 : decode cL_sum 151 = .ok (.if_icmp .ge 29, 3) := by decide +kernel
theorem dL_sum_154 : decode cL_sum 154 = .ok (.ldc2_w 11, 3) := by decide +kernel
theorem dL_sum_157 : decode cL_sum 157 = .ok (.lload_n 1, 1) := by decide +kernel
theorem dL_sum_158 : decode cL_sum 158 = .ok (.lmul, 1) := by decide +kernel
theorem dL_sum_159 : decode cL_sum 159 = .ok (.aload_n 0, 1) := by decide +kernel
theorem dL_sum_160 : decode cL_sum 160 = .ok (.iload_n 3, 1) := by decide +kernel
theorem dL_sum_161 : decode cL_sum 161 = .ok (.bipush 10, 2) := by decide +kernel
theorem dL_sum_163 : decode cL_sum 163 = .ok (.idiv, 1) := by decide +kernel
theorem dL_sum_164 : decode cL_sum 164 = .ok (.iload_n 3, 1) := by decide +kernel
theorem dL_sum_165 : decode cL_sum 165 = .ok (.bipush 10, 2) := by decide +kernel
theorem dL_sum_167 : decode cL_sum 167 = .ok (.irem, 1) := by decide +kernel
theorem dL_sum_168 : decode cL_sum 168 = .ok (.invokevirtual 26, 3) := by decide +kernel
theorem dL_sum_171 : decode cL_sum 171 = .ok (.i2l, 1) := by decide +kernel
theorem dL_sum_172 : decode cL_sum 172 = .ok (.ladd, 1) := by decide +kernel
theorem dL_sum_173 : decode cL_sum 173 = .ok (.lstore_n 1, 1) := by decide +kernel
theorem dL_sum_174 : decode cL_sum 174 = .ok (.iinc 3 1, 3) := by decide +kernel
theorem dL_sum_177 : decode cL_sum 177 = .ok (.goto (-35), 3) := by decide +kernel
theorem dL_sum_180 : decode cL_sum 180 = .ok (.iconst 0, 1) := by decide +kernel
theorem dL_sum_181 : decode cL_sum 181 = .ok (.istore_n 3, 1) := by decide +kernel
theorem dL_sum_182 : decode cL_sum 182 = .ok (.iload_n 3, 1) := by decide +kernel
theorem dL_sum_183 : decode cL_sum 183 = .ok (.bipush 6, 2) := by decide +kernel
theorem dL_sum_185 : decode cL_sum 185 = .ok (.aload_n 0, 1) := by decide +kernel
theorem dL_sum_186 : decode cL_sum 186 = .ok (.iconst 5, 1) := by decide +kernel
theorem dL_sum_187 : decode cL_sum 187 = .ok (.invokevirtual 13, 3) := by decide +kernel
theorem dL_sum_190 : decode cL_sum 190 = .ok (.imul, 1) := by decide +kernel
theorem dL_sum_191 : decode cL_sum 191 = .ok (.if_icmp .ge 29, 3) := by decide +kernel
theorem dL_sum_194 : decode cL_sum 194 = .ok (.ldc2_w 11, 3) := by decide +kernel
theorem dL_sum_197 : decode cL_sum 197 = .ok (.lload_n 1, 1) := by decide +kernel
theorem dL_sum_198 : decode cL_sum 198 = .ok (.lmul, 1) := by decide +kernel
theorem dL_sum_199 : decode cL_sum 199 = .ok (.aload_n 0, 1) := by decide +kernel
theorem dL_sum_200 : decode cL_sum 200 = .ok (.iload_n 3, 1) := by decide +kernel
theorem dL_sum_201 : decode cL_sum 201 = .ok (.bipush 6, 2) := by decide +kernel
theorem dL_sum_203 : decode cL_sum 203 = .ok (.idiv, 1) := by decide +kernel
theorem dL_sum_204 : decode cL_sum 204 = .ok (.iload_n 3, 1) := by decide +kernel
theorem dL_sum_205 : decode cL_sum 205 = .ok (.bipush 6, 2) := by decide +kernel
theorem dL_sum_207 : decode cL_sum 207 = .ok (.irem, 1) := by decide +kernel
theorem dL_sum_208 : decode cL_sum 208 = .ok (.invokevirtual 29, 3) := by decide +kernel
theorem dL_sum_211 : decode cL_sum 211 = .ok (.i2l, 1) := by decide +kernel
theorem dL_sum_212 : decode cL_sum 212 = .ok (.ladd, 1) := by decide +kernel
theorem dL_sum_213 : decode cL_sum 213 = .ok (.lstore_n 1, 1) := by decide +kernel
theorem dL_sum_214 : decode cL_sum 214 = .ok (.iinc 3 1, 3) := by decide +kernel
theorem dL_sum_217 : decode cL_sum 217 = .ok (.goto (-35), 3) := by decide +kernel
theorem dL_sum_220 : decode cL_sum 220 = .ok (.lload_n 1, 1) := by decide +kernel
theorem dL_sum_221 : decode cL_sum 221 = .ok (.lreturn, 1) := by decide +kernel
theorem dL_refused_0 : decode cL_refused 0 = .ok (.aload_n 0, 1) := by decide +kernel
theorem dL_refused_1 : decode cL_refused 1 = .ok (.invokestatic 32, 3) := by decide +kernel
theorem dL_refused_4 : decode cL_refused 4 = .ok (.lstore_n 1, 1) := by decide +kernel
theorem dL_refused_5 : decode cL_refused 5 = .ok (.aload_n 0, 1) := by decide +kernel
theorem dL_refused_6 : decode cL_refused 6 = .ok (.bipush 8, 2) := by decide +kernel
theorem dL_refused_8 : decode cL_refused 8 = .ok (.invokevirtual 13, 3) := by decide +kernel
theorem dL_refused_11 : decode cL_refused 11 = .ok (.istore_n 3, 1) := by decide +kernel
theorem dL_refused_12 : decode cL_refused 12 = .ok (.aload_n 0, 1) := by decide +kernel
theorem dL_refused_13 : decode cL_refused 13 = .ok (.iconst 1, 1) := by decide +kernel
theorem dL_refused_14 : decode cL_refused 14 = .ok (.invokevirtual 13, 3) := by decide +kernel
theorem dL_refused_17 : decode cL_refused 17 = .ok (.istore 4, 2) := by decide +kernel
theorem dL_refused_19 : decode cL_refused 19 = .ok (.aload_n 0, 1) := by decide +kernel
theorem dL_refused_20 : decode cL_refused 20 = .ok (.iconst 5, 1) := by decide +kernel
theorem dL_refused_21 : decode cL_refused 21 = .ok (.invokevirtual 13, 3) := by decide +kernel
theorem dL_refused_24 : decode cL_refused 24 = .ok (.istore 5, 2) := by decide +kernel
theorem dL_refused_26 : decode cL_refused 26 = .ok (.aload_n 0, 1) := by decide +kernel
theorem dL_refused_27 : decode cL_refused 27 = .ok (.iconst 0, 1) := by decide +kernel
theorem dL_refused_28 : decode cL_refused 28 = .ok (.iconst 0, 1) := by decide +kernel
theorem dL_refused_29 : decode cL_refused 29 = .ok (.invokevirtual 38, 3) := by decide +kernel
theorem dL_refused_32 : decode cL_refused 32 = .ok (.iconst (-1), 1) := by decide +kernel
theorem dL_refused_33 : decode cL_refused 33 = .ok (.if_icmp .ne 230, 3) := by decide +kernel
theorem dL_refused_36 : decode cL_refused 36 = .ok (.aload_n 0, 1) := by decide +kernel
theorem dL_refused_37 : decode cL_refused 37 = .ok (.iconst 2, 1) := by decide +kernel
theorem dL_refused_38 : decode cL_refused 38 = .ok (.iconst 1, 1) := by decide +kernel
theorem dL_refused_39 : decode cL_refused 39 = .ok (.invokevirtual 41, 3) := by decide +kernel
theorem dL_refused_42 : decode cL_refused 42 = .ok (.iconst (-1), 1) := by decide +kernel
theorem dL_refused_43 : decode cL_refused 43 = .ok (.if_icmp .ne 220, 3) := by decide +kernel
theorem dL_refused_46 : decode cL_refused 46 = .ok (.aload_n 0, 1) := by decide +kernel
theorem dL_refused_47 : decode cL_refused 47 = .ok (.aload_n 0, 1) := by decide +kernel
theorem dL_refused_48 : decode cL_refused 48 = .ok (.iconst 0, 1) := by decide +kernel
theorem dL_refused_49 : decode cL_refused 49 = .ok (.invokevirtual 13, 3) := by decide +kernel
theorem dL_refused_52 : decode cL_refused 52 = .ok (.invokevirtual 44, 3) := by decide +kernel
theorem dL_refused_55 : decode cL_refused 55 = .ok (.iconst (-1), 1) := by decide +kernel
theorem dL_refused_56 : decode cL_refused 56 = .ok (.if_icmp .ne 207, 3) := by decide +kernel
theorem dL_refused_59 : decode cL_refused 59 = .ok (.aload_n 0, 1) := by decide +kernel
theorem dL_refused_60 : decode cL_refused 60 = .ok (.bipush 12, 2) := by decide +kernel
theorem dL_refused_62 : decode cL_refused 62 = .ok (.iconst 0, 1) := by decide +kernel
theorem dL_refused_63 : decode cL_refused 63 = .ok (.invokevirtual 23, 3) := by decide +kernel
theorem dL_refused_66 : decode cL_refused 66 = .ok (.iconst (-1), 1) := by decide +kernel
theorem dL_refused_67 : decode cL_refused 67 = .ok (.if_icmp .ne 196, 3) := by decide +kernel
theorem dL_refused_70 : decode cL_refused 70 = .ok (.aload_n 0, 1) := by decide +kernel
theorem dL_refused_71 : decode cL_refused 71 = .ok (.iconst (-1), 1) := by decide +kernel
theorem dL_refused_72 : decode cL_refused 72 = .ok (.invokevirtual 47, 3) := by decide +kernel
theorem dL_refused_75 : decode cL_refused 75 = .ok (.iconst (-1), 1) := by decide +kernel
theorem dL_refused_76 : decode cL_refused 76 = .ok (.if_icmp .ne 187, 3) := by decide +kernel
theorem dL_refused_79 : decode cL_refused 79 = .ok (.aload_n 0, 1) := by decide +kernel
theorem dL_refused_80 : decode cL_refused 80 = .ok (.iconst 5, 1) := by decide +kernel
theorem dL_refused_81 : decode cL_refused 81 = .ok (.bipush 51, 2) := by decide +kernel
theorem dL_refused_83 : decode cL_refused 83 = .ok (.invokevirtual 50, 3) := by decide +kernel
theorem dL_refused_86 : decode cL_refused 86 = .ok (.iconst (-1), 1) := by decide +kernel
theorem dL_refused_87 : decode cL_refused 87 = .ok (.if_icmp .ne 176, 3) := by decide +kernel
theorem dL_refused_90 : decode cL_refused 90 = .ok (.aload_n 0, 1) := by decide +kernel
theorem dL_refused_91 : decode cL_refused 91 = .ok (.iconst 0, 1) := by decide +kernel
theorem dL_refused_92 : decode cL_refused 92 = .ok (.iconst 0, 1) := by decide +kernel
theorem dL_refused_93 : decode cL_refused 93 = .ok (.invokevirtual 53, 3) := by decide +kernel
theorem dL_refused_96 : decode cL_refused 96 = .ok (.iconst (-1), 1) := by decide +kernel
theorem dL_refused_97 : decode cL_refused 97 = .ok (.if_icmp .ne 166, 3) := by decide +kernel
theorem dL_refused_100 : decode cL_refused 100 = .ok (.aload_n 0, 1) := by decide +kernel
theorem dL_refused_101 : decode cL_refused 101 = .ok (.iload 4, 2) := by decide +kernel
theorem dL_refused_103 : decode cL_refused 103 = .ok (.iconst 1, 1) := by decide +kernel
theorem dL_refused_104 : decode cL_refused 104 = .ok (.invokevirtual 56, 3) := by decide +kernel
theorem dL_refused_107 : decode cL_refused 107 = .ok (.iconst (-1), 1) := by decide +kernel
theorem dL_refused_108 : decode cL_refused 108 = .ok (.if_icmp .ne 155, 3) := by decide +kernel
theorem dL_refused_111 : decode cL_refused 111 = .ok (.aload_n 0, 1) := by decide +kernel
theorem dL_refused_112 : decode cL_refused 112 = .ok (.iconst 0, 1) := by decide +kernel
theorem dL_refused_113 : decode cL_refused 113 = .ok (.sipush 1001, 3) := by decide +kernel
theorem dL_refused_116 : decode cL_refused 116 = .ok (.invokevirtual 56, 3) := by decide +kernel
theorem dL_refused_119 : decode cL_refused 119 = .ok (.iconst (-1), 1) := by decide +kernel
theorem dL_refused_120 : decode cL_refused 120 = .ok (.if_icmp .ne 143, 3) := by decide +kernel
theorem dL_refused_123 : decode cL_refused 123 = .ok (.aload_n 0, 1) := by decide +kernel
theorem dL_refused_124 : decode cL_refused 124 = .ok (.iload 4, 2) := by decide +kernel
theorem dL_refused_126 : decode cL_refused 126 = .ok (.invokevirtual 59, 3) := by decide +kernel
theorem dL_refused_129 : decode cL_refused 129 = .ok (.iconst (-1), 1) := by decide +kernel
theorem dL_refused_130 : decode cL_refused 130 = .ok (.if_icmp .ne 133, 3) := by decide +kernel
theorem dL_refused_133 : decode cL_refused 133 = .ok (.aload_n 0, 1) := by decide +kernel
theorem dL_refused_134 : decode cL_refused 134 = .ok (.iload 4, 2) := by decide +kernel
theorem dL_refused_136 : decode cL_refused 136 = .ok (.iconst 0, 1) := by decide +kernel
theorem dL_refused_137 : decode cL_refused 137 = .ok (.invokevirtual 26, 3) := by decide +kernel
theorem dL_refused_140 : decode cL_refused 140 = .ok (.iconst (-1), 1) := by decide +kernel
theorem dL_refused_141 : decode cL_refused 141 = .ok (.if_icmp .ne 122, 3) := by decide +kernel
theorem dL_refused_144 : decode cL_refused 144 = .ok (.aload_n 0, 1) := by decide +kernel
theorem dL_refused_145 : decode cL_refused 145 = .ok (.iconst 0, 1) := by decide +kernel
theorem dL_refused_146 : decode cL_refused 146 = .ok (.sipush 20001, 3) := by decide +kernel
theorem dL_refused_149 : decode cL_refused 149 = .ok (.iconst 0, 1) := by decide +kernel
theorem dL_refused_150 : decode cL_refused 150 = .ok (.invokevirtual 62, 3) := by decide +kernel
theorem dL_refused_153 : decode cL_refused 153 = .ok (.iconst (-1), 1) := by decide +kernel
theorem dL_refused_154 : decode cL_refused 154 = .ok (.if_icmp .ne 109, 3) := by decide +kernel
theorem dL_refused_157 : decode cL_refused 157 = .ok (.aload_n 0, 1) := by decide +kernel
theorem dL_refused_158 : decode cL_refused 158 = .ok (.iload 5, 2) := by decide +kernel
theorem dL_refused_160 : decode cL_refused 160 = .ok (.invokevirtual 66, 3) := by decide +kernel
theorem dL_refused_163 : decode cL_refused 163 = .ok (.iconst (-1), 1) := by decide +kernel
theorem dL_refused_164 : decode cL_refused 164 = .ok (.if_icmp .ne 99, 3) := by decide +kernel
theorem dL_refused_167 : decode cL_refused 167 = .ok (.aload_n 0, 1) := by decide +kernel
theorem dL_refused_168 : decode cL_refused 168 = .ok (.iload 4, 2) := by decide +kernel
theorem dL_refused_170 : decode cL_refused 170 = .ok (.iconst 0, 1) := by decide +kernel
theorem dL_refused_171 : decode cL_refused 171 = .ok (.invokevirtual 69, 3) := by decide +kernel
theorem dL_refused_174 : decode cL_refused 174 = .ok (.iconst (-1), 1) := by decide +kernel
theorem dL_refused_175 : decode cL_refused 175 = .ok (.if_icmp .ne 88, 3) := by decide +kernel
theorem dL_refused_178 : decode cL_refused 178 = .ok (.aload_n 0, 1) := by decide +kernel
theorem dL_refused_179 : decode cL_refused 179 = .ok (.iload 5, 2) := by decide +kernel
theorem dL_refused_181 : decode cL_refused 181 = .ok (.iconst 0, 1) := by decide +kernel
theorem dL_refused_182 : decode cL_refused 182 = .ok (.invokevirtual 29, 3) := by decide +kernel
theorem dL_refused_185 : decode cL_refused 185 = .ok (.iconst (-1), 1) := by decide +kernel
theorem dL_refused_186 : decode cL_refused 186 = .ok (.if_icmp .ne 77, 3) := by decide +kernel
theorem dL_refused_189 : decode cL_refused 189 = .ok (.aload_n 0, 1) := by decide +kernel
theorem dL_refused_190 : decode cL_refused 190 = .ok (.iconst (-1), 1) := by decide +kernel
theorem dL_refused_191 : decode cL_refused 191 = .ok (.iconst 0, 1) := by decide +kernel
theorem dL_refused_192 : decode cL_refused 192 = .ok (.invokevirtual 72, 3) := by decide +kernel
theorem dL_refused_195 : decode cL_refused 195 = .ok (.iconst (-1), 1) := by decide +kernel
theorem dL_refused_196 : decode cL_refused 196 = .ok (.if_icmp .ne 67, 3) := by decide +kernel
theorem dL_refused_199 : decode cL_refused 199 = .ok (.aload_n 0, 1) := by decide +kernel
theorem dL_refused_200 : decode cL_refused 200 = .ok (.iload 5, 2) := by decide +kernel
theorem dL_refused_202 : decode cL_refused 202 = .ok (.invokevirtual 75, 3) := by decide +kernel
theorem dL_refused_205 : decode cL_refused 205 = .ok (.iconst (-1), 1) := by decide +kernel
theorem dL_refused_206 : decode cL_refused 206 = .ok (.if_icmp .ne 57, 3) := by decide +kernel
theorem dL_refused_209 : decode cL_refused 209 = .ok (.aload_n 0, 1) := by decide +kernel
theorem dL_refused_210 : decode cL_refused 210 = .ok (.sipush 4096, 3) := by decide +kernel
theorem dL_refused_213 : decode cL_refused 213 = .ok (.invokevirtual 78, 3) := by decide +kernel
theorem dL_refused_216 : decode cL_refused 216 = .ok (.iconst (-1), 1) := by decide +kernel
theorem dL_refused_217 : decode cL_refused 217 = .ok (.if_icmp .ne 46, 3) := by decide +kernel
theorem dL_refused_220 : decode cL_refused 220 = .ok (.aload_n 0, 1) := by decide +kernel
theorem dL_refused_221 : decode cL_refused 221 = .ok (.iconst 0, 1) := by decide +kernel
theorem dL_refused_222 : decode cL_refused 222 = .ok (.iconst (-1), 1) := by decide +kernel
theorem dL_refused_223 : decode cL_refused 223 = .ok (.invokevirtual 19, 3) := by decide +kernel
theorem dL_refused_226 : decode cL_refused 226 = .ok (.iconst (-1), 1) := by decide +kernel
theorem dL_refused_227 : decode cL_refused 227 = .ok (.if_icmp .ne 36, 3) := by decide +kernel
theorem dL_refused_230 : decode cL_refused 230 = .ok (.aload_n 0, 1) := by decide +kernel
theorem dL_refused_231 : decode cL_refused 231 = .ok (.bipush 19, 2) := by decide +kernel
theorem dL_refused_233 : decode cL_refused 233 = .ok (.invokevirtual 13, 3) := by decide +kernel
theorem dL_refused_236 : decode cL_refused 236 = .ok (.iconst (-1), 1) := by decide +kernel
theorem dL_refused_237 : decode cL_refused 237 = .ok (.if_icmp .ne 26, 3) := by decide +kernel
theorem dL_refused_240 : decode cL_refused 240 = .ok (.aload_n 0, 1) := by decide +kernel
theorem dL_refused_241 : decode cL_refused 241 = .ok (.bipush 6, 2) := by decide +kernel
theorem dL_refused_243 : decode cL_refused 243 = .ok (.invokevirtual 81, 3) := by decide +kernel
theorem dL_refused_246 : decode cL_refused 246 = .ok (.iconst (-1), 1) := by decide +kernel
theorem dL_refused_247 : decode cL_refused 247 = .ok (.if_icmp .ne 16, 3) := by decide +kernel
theorem dL_refused_250 : decode cL_refused 250 = .ok (.aload_n 0, 1) := by decide +kernel
theorem dL_refused_251 : decode cL_refused 251 = .ok (.iconst 2, 1) := by decide +kernel
theorem dL_refused_252 : decode cL_refused 252 = .ok (.invokevirtual 84, 3) := by decide +kernel
theorem dL_refused_255 : decode cL_refused 255 = .ok (.iconst (-1), 1) := by decide +kernel
theorem dL_refused_256 : decode cL_refused 256 = .ok (.if_icmp .ne 7, 3) := by decide +kernel
theorem dL_refused_259 : decode cL_refused 259 = .ok (.iconst 1, 1) := by decide +kernel
theorem dL_refused_260 : decode cL_refused 260 = .ok (.goto 4, 3) := by decide +kernel
theorem dL_refused_263 : decode cL_refused 263 = .ok (.iconst 0, 1) := by decide +kernel
theorem dL_refused_264 : decode cL_refused 264 = .ok (.istore 6, 2) := by decide +kernel
theorem dL_refused_266 : decode cL_refused 266 = .ok (.iload 6, 2) := by decide +kernel
theorem dL_refused_268 : decode cL_refused 268 = .ok (.ifCond .eq 49, 3) := by decide +kernel
theorem dL_refused_271 : decode cL_refused 271 = .ok (.aload_n 0, 1) := by decide +kernel
theorem dL_refused_272 : decode cL_refused 272 = .ok (.iconst 2, 1) := by decide +kernel
theorem dL_refused_273 : decode cL_refused 273 = .ok (.invokevirtual 13, 3) := by decide +kernel
theorem dL_refused_276 : decode cL_refused 276 = .ok (.bipush 12, 2) := by decide +kernel
theorem dL_refused_278 : decode cL_refused 278 = .ok (.if_icmp .lt 12, 3) := by decide +kernel
theorem dL_refused_281 : decode cL_refused 281 = .ok (.aload_n 0, 1) := by decide +kernel
theorem dL_refused_282 : decode cL_refused 282 = .ok (.iconst 0, 1) := by decide +kernel
theorem dL_refused_283 : decode cL_refused 283 = .ok (.iconst 1, 1) := by decide +kernel
theorem dL_refused_284 : decode cL_refused 284 = .ok (.invokevirtual 53, 3) := by decide +kernel
theorem dL_refused_287 : decode cL_refused 287 = .ok (.ifCond .ge 30, 3) := by decide +kernel
theorem dL_refused_290 : decode cL_refused 290 = .ok (.aload_n 0, 1) := by decide +kernel
theorem dL_refused_291 : decode cL_refused 291 = .ok (.bipush 6, 2) := by decide +kernel
theorem dL_refused_293 : decode cL_refused 293 = .ok (.invokevirtual 13, 3) := by decide +kernel
theorem dL_refused_296 : decode cL_refused 296 = .ok (.bipush 8, 2) := by decide +kernel
theorem dL_refused_298 : decode cL_refused 298 = .ok (.if_icmp .lt 15, 3) := by decide +kernel
theorem dL_refused_301 : decode cL_refused 301 = .ok (.aload_n 0, 1) := by decide +kernel
theorem dL_refused_302 : decode cL_refused 302 = .ok (.iconst 0, 1) := by decide +kernel
theorem dL_refused_303 : decode cL_refused 303 = .ok (.iconst 1, 1) := by decide +kernel
theorem dL_refused_304 : decode cL_refused 304 = .ok (.iconst 0, 1) := by decide +kernel
theorem dL_refused_305 : decode cL_refused 305 = .ok (.invokevirtual 62, 3) := by decide +kernel
theorem dL_refused_308 : decode cL_refused 308 = .ok (.bipush (-3), 2) := by decide +kernel
theorem dL_refused_310 : decode cL_refused 310 = .ok (.if_icmp .ne 7, 3) := by decide +kernel
theorem dL_refused_313 : decode cL_refused 313 = .ok (.iconst 1, 1) := by decide +kernel
theorem dL_refused_314 : decode cL_refused 314 = .ok (.goto 4, 3) := by decide +kernel
theorem dL_refused_317 : decode cL_refused 317 = .ok (.iconst 0, 1) := by decide +kernel
theorem dL_refused_318 : decode cL_refused 318 = .ok (.istore 6, 2) := by decide +kernel
theorem dL_refused_320 : decode cL_refused 320 = .ok (.iload 6, 2) := by decide +kernel
theorem dL_refused_322 : decode cL_refused 322 = .ok (.ifCond .eq 26, 3) := by decide +kernel
theorem dL_refused_325 : decode cL_refused 325 = .ok (.aload_n 0, 1) := by decide +kernel
theorem dL_refused_326 : decode cL_refused 326 = .ok (.invokestatic 32, 3) := by decide +kernel
theorem dL_refused_329 : decode cL_refused 329 = .ok (.lload_n 1, 1) := by decide +kernel
theorem dL_refused_330 : decode cL_refused 330 = .ok (.lcmp, 1) := by decide +kernel
theorem dL_refused_331 : decode cL_refused 331 = .ok (.ifCond .ne 17, 3) := by decide +kernel
theorem dL_refused_334 : decode cL_refused 334 = .ok (.aload_n 0, 1) := by decide +kernel
theorem dL_refused_335 : decode cL_refused 335 = .ok (.bipush 8, 2) := by decide +kernel
theorem dL_refused_337 : decode cL_refused 337 = .ok (.invokevirtual 13, 3) := by decide +kernel
theorem dL_refused_340 : decode cL_refused 340 = .ok (.iload_n 3, 1) := by decide +kernel
theorem dL_refused_341 : decode cL_refused 341 = .ok (.if_icmp .ne 7, 3) := by decide +kernel
theorem dL_refused_344 : decode cL_refused 344 = .ok (.iconst 1, 1) := by decide +kernel
theorem dL_refused_345 : decode cL_refused 345 = .ok (.goto 4, 3) := by decide +kernel
theorem dL_refused_348 : decode cL_refused 348 = .ok (.iconst 0, 1) := by decide +kernel
theorem dL_refused_349 : decode cL_refused 349 = .ok (.ireturn, 1) := by decide +kernel
theorem dL_areBells_0 : decode cL_areBells 0 = .ok (.iconst 0, 1) := by decide +kernel
theorem dL_areBells_1 : decode cL_areBells 1 = .ok (.istore_n 1, 1) := by decide +kernel
theorem dL_areBells_2 : decode cL_areBells 2 = .ok (.iconst 0, 1) := by decide +kernel
theorem dL_areBells_3 : decode cL_areBells 3 = .ok (.istore_n 2, 1) := by decide +kernel
theorem dL_areBells_4 : decode cL_areBells 4 = .ok (.iconst 0, 1) := by decide +kernel
theorem dL_areBells_5 : decode cL_areBells 5 = .ok (.istore_n 3, 1) := by decide +kernel
theorem dL_areBells_6 : decode cL_areBells 6 = .ok (.iconst 1, 1) := by decide +kernel
theorem dL_areBells_7 : decode cL_areBells 7 = .ok (.istore 4, 2) := by decide +kernel
theorem dL_areBells_9 : decode cL_areBells 9 = .ok (.iconst 0, 1) := by decide +kernel
theorem dL_areBells_10 : decode cL_areBells 10 = .ok (.istore 5, 2) := by decide +kernel
theorem dL_areBells_12 : decode cL_areBells 12 = .ok (.iload 5, 2) := by decide +kernel
theorem dL_areBells_14 : decode cL_areBells 14 = .ok (.aload_n 0, 1) := by decide +kernel
theorem dL_areBells_15 : decode cL_areBells 15 = .ok (.iconst 1, 1) := by decide +kernel
theorem dL_areBells_16 : decode cL_areBells 16 = .ok (.invokevirtual 13, 3) := by decide +kernel
theorem dL_areBells_19 : decode cL_areBells 19 = .ok (.if_icmp .ge 413, 3) := by decide +kernel
theorem dL_areBells_22 : decode cL_areBells 22 = .ok (.iload 4, 2) := by decide +kernel
theorem dL_areBells_24 : decode cL_areBells 24 = .ok (.ifCond .eq 408, 3) := by decide +kernel
theorem dL_areBells_27 : decode cL_areBells 27 = .ok (.aload_n 0, 1) := by decide +kernel
theorem dL_areBells_28 : decode cL_areBells 28 = .ok (.iload 5, 2) := by decide +kernel
theorem dL_areBells_30 : decode cL_areBells 30 = .ok (.bipush 8, 2) := by decide +kernel
theorem dL_areBells_32 : decode cL_areBells 32 = .ok (.invokevirtual 26, 3) := by decide +kernel
theorem dL_areBells_35 : decode cL_areBells 35 = .ok (.istore 6, 2) := by decide +kernel
theorem dL_areBells_37 : decode cL_areBells 37 = .ok (.iload_n 1, 1) := by decide +kernel
theorem dL_areBells_38 : decode cL_areBells 38 = .ok (.iload 6, 2) := by decide +kernel
theorem dL_areBells_40 : decode cL_areBells 40 = .ok (.iconst 2, 1) := by decide +kernel
theorem dL_areBells_41 : decode cL_areBells 41 = .ok (.if_icmp .ge 7, 3) := by decide +kernel
theorem dL_areBells_44 : decode cL_areBells 44 = .ok (.iconst 1, 1) := by decide +kernel
theorem dL_areBells_45 : decode cL_areBells 45 = .ok (.goto 4, 3) := by decide +kernel
theorem dL_areBells_48 : decode cL_areBells 48 = .ok (.iconst 0, 1) := by decide +kernel
theorem dL_areBells_49 : decode cL_areBells 49 = .ok (.iadd, 1) := by decide +kernel
theorem dL_areBells_50 : decode cL_areBells 50 = .ok (.istore_n 1, 1) := by decide +kernel
theorem dL_areBells_51 : decode cL_areBells 51 = .ok (.iload_n 2, 1) := by decide +kernel
theorem dL_areBells_52 : decode cL_areBells 52 = .ok (.iload 6, 2) := by decide +kernel
theorem dL_areBells_54 : decode cL_areBells 54 = .ok (.iconst 1, 1) := by decide +kernel
theorem dL_areBells_55 : decode cL_areBells 55 = .ok (.if_icmp .ne 7, 3) := by decide +kernel
theorem dL_areBells_58 : decode cL_areBells 58 = .ok (.iconst 1, 1) := by decide +kernel
theorem dL_areBells_59 : decode cL_areBells 59 = .ok (.goto 4, 3) := by decide +kernel
theorem dL_areBells_62 : decode cL_areBells 62 = .ok (.iconst 0, 1) := by decide +kernel
theorem dL_areBells_63 : decode cL_areBells 63 = .ok (.iadd, 1) := by decide +kernel
theorem dL_areBells_64 : decode cL_areBells 64 = .ok (.istore_n 2, 1) := by decide +kernel
theorem dL_areBells_65 : decode cL_areBells 65 = .ok (.iload_n 3, 1) := by decide +kernel
theorem dL_areBells_66 : decode cL_areBells 66 = .ok (.iload 6, 2) := by decide +kernel
theorem dL_areBells_68 : decode cL_areBells 68 = .ok (.iconst 2, 1) := by decide +kernel
theorem dL_areBells_69 : decode cL_areBells 69 = .ok (.if_icmp .ne 7, 3) := by decide +kernel
theorem dL_areBells_72 : decode cL_areBells 72 = .ok (.iconst 1, 1) := by decide +kernel
theorem dL_areBells_73 : decode cL_areBells 73 = .ok (.goto 4, 3) := by decide +kernel
theorem dL_areBells_76 : decode cL_areBells 76 = .ok (.iconst 0, 1) := by decide +kernel
theorem dL_areBells_77 : decode cL_areBells 77 = .ok (.iadd, 1) := by decide +kernel
theorem dL_areBells_78 : decode cL_areBells 78 = .ok (.istore_n 3, 1) := by decide +kernel
theorem dL_areBells_79 : decode cL_areBells 79 = .ok (.aload_n 0, 1) := by decide +kernel
theorem dL_areBells_80 : decode cL_areBells 80 = .ok (.iload 5, 2) := by decide +kernel
theorem dL_areBells_82 : decode cL_areBells 82 = .ok (.iconst 2, 1) := by decide +kernel
theorem dL_areBells_83 : decode cL_areBells 83 = .ok (.invokevirtual 26, 3) := by decide +kernel
theorem dL_areBells_86 : decode cL_areBells 86 = .ok (.istore 7, 2) := by decide +kernel
theorem dL_areBells_88 : decode cL_areBells 88 = .ok (.iload 6, 2) := by decide +kernel
theorem dL_areBells_90 : decode cL_areBells 90 = .ok (.ifCond .lt 86, 3) := by decide +kernel
theorem dL_areBells_93 : decode cL_areBells 93 = .ok (.iload 6, 2) := by decide +kernel
theorem dL_areBells_95 : decode cL_areBells 95 = .ok (.iconst 4, 1) := by decide +kernel
theorem dL_areBells_96 : decode cL_areBells 96 = .ok (.if_icmp .ge 80, 3) := by decide +kernel
theorem dL_areBells_99 : decode cL_areBells 99 = .ok (.aload_n 0, 1) := by decide +kernel
theorem dL_areBells_100 : decode cL_areBells 100 = .ok (.iload 5, 2) := by decide +kernel
theorem dL_areBells_102 : decode cL_areBells 102 = .ok (.iconst 5, 1) := by decide +kernel
theorem dL_areBells_103 : decode cL_areBells 103 = .ok (.invokevirtual 26, 3) := by decide +kernel
theorem dL_areBells_106 : decode cL_areBells 106 = .ok (.iconst 1, 1) := by decide +kernel
theorem dL_areBells_107 : decode cL_areBells 107 = .ok (.if_icmp .lt 69, 3) := by decide +kernel
theorem dL_areBells_110 : decode cL_areBells 110 = .ok (.aload_n 0, 1) := by decide +kernel
theorem dL_areBells_111 : decode cL_areBells 111 = .ok (.iload 5, 2) := by decide +kernel
theorem dL_areBells_113 : decode cL_areBells 113 = .ok (.bipush 7, 2) := by decide +kernel
theorem dL_areBells_115 : decode cL_areBells 115 = .ok (.invokevirtual 26, 3) := by decide +kernel
theorem dL_areBells_118 : decode cL_areBells 118 = .ok (.ifCond .lt 58, 3) := by decide +kernel
theorem dL_areBells_121 : decode cL_areBells 121 = .ok (.aload_n 0, 1) := by decide +kernel
theorem dL_areBells_122 : decode cL_areBells 122 = .ok (.iload 5, 2) := by decide +kernel
theorem dL_areBells_124 : decode cL_areBells 124 = .ok (.bipush 7, 2) := by decide +kernel
theorem dL_areBells_126 : decode cL_areBells 126 = .ok (.invokevirtual 26, 3) := by decide +kernel
theorem dL_areBells_129 : decode cL_areBells 129 = .ok (.aload_n 0, 1) := by decide +kernel
theorem dL_areBells_130 : decode cL_areBells 130 = .ok (.iload 5, 2) := by decide +kernel
theorem dL_areBells_132 : decode cL_areBells 132 = .ok (.bipush 6, 2) := by decide +kernel
theorem dL_areBells_134 : decode cL_areBells 134 = .ok (.invokevirtual 26, 3) := by decide +kernel
theorem dL_areBells_137 : decode cL_areBells 137 = .ok (.if_icmp .ge 39, 3) := by decide +kernel
theorem dL_areBells_140 : decode cL_areBells 140 = .ok (.iload 6, 2) := by decide +kernel
theorem dL_areBells_142 : decode cL_areBells 142 = .ok (.iconst 2, 1) := by decide +kernel
theorem dL_areBells_143 : decode cL_areBells 143 = .ok (.if_icmp .ne 7, 3) := by decide +kernel
theorem dL_areBells_146 : decode cL_areBells 146 = .ok (.iconst 1, 1) := by decide +kernel
theorem dL_areBells_147 : decode cL_areBells 147 = .ok (.goto 4, 3) := by decide +kernel
theorem dL_areBells_150 : decode cL_areBells 150 = .ok (.iconst 0, 1) := by decide +kernel
theorem dL_areBells_151 : decode cL_areBells 151 = .ok (.aload_n 0, 1) := by decide +kernel
theorem dL_areBells_152 : decode cL_areBells 152 = .ok (.iload 5, 2) := by decide +kernel
theorem dL_areBells_154 : decode cL_areBells 154 = .ok (.bipush 9, 2) := by decide +kernel
theorem dL_areBells_156 : decode cL_areBells 156 = .ok (.invokevirtual 26, 3) := by decide +kernel
theorem dL_areBells_159 : decode cL_areBells 159 = .ok (.bipush (-4), 2) := by decide +kernel
theorem dL_areBells_161 : decode cL_areBells 161 = .ok (.if_icmp .eq 7, 3) := by decide +kernel
theorem dL_areBells_164 : decode cL_areBells 164 = .ok (.iconst 1, 1) := by decide +kernel
theorem dL_areBells_165 : decode cL_areBells 165 = .ok (.goto 4, 3) := by decide +kernel
theorem dL_areBells_168 : decode cL_areBells 168 = .ok (.iconst 0, 1) := by decide +kernel
theorem dL_areBells_169 : decode cL_areBells 169 = .ok (.if_icmp .ne 7, 3) := by decide +kernel
theorem dL_areBells_172 : decode cL_areBells 172 = .ok (.iconst 1, 1) := by decide +kernel
theorem dL_areBells_173 : decode cL_areBells 173 = .ok (.goto 4, 3) := by decide +kernel
theorem dL_areBells_176 : decode cL_areBells 176 = .ok (.iconst 0, 1) := by decide +kernel
theorem dL_areBells_177 : decode cL_areBells 177 = .ok (.istore 4, 2) := by decide +kernel
theorem dL_areBells_179 : decode cL_areBells 179 = .ok (.iload 6, 2) := by decide +kernel
theorem dL_areBells_181 : decode cL_areBells 181 = .ok (.iconst 3, 1) := by decide +kernel
theorem dL_areBells_182 : decode cL_areBells 182 = .ok (.if_icmp .ne 37, 3) := by decide +kernel
theorem dL_areBells_185 : decode cL_areBells 185 = .ok (.iload 4, 2) := by decide +kernel
theorem dL_areBells_187 : decode cL_areBells 187 = .ok (.ifCond .eq 26, 3) := by decide +kernel
theorem dL_areBells_190 : decode cL_areBells 190 = .ok (.iload 7, 2) := by decide +kernel
theorem dL_areBells_192 : decode cL_areBells 192 = .ok (.bipush (-4), 2) := by decide +kernel
theorem dL_areBells_194 : decode cL_areBells 194 = .ok (.if_icmp .ne 19, 3) := by decide +kernel
theorem dL_areBells_197 : decode cL_areBells 197 = .ok (.aload_n 0, 1) := by decide +kernel
theorem dL_areBells_198 : decode cL_areBells 198 = .ok (.iload 5, 2) := by decide +kernel
theorem dL_areBells_200 : decode cL_areBells 200 = .ok (.iconst 3, 1) := by decide +kernel
theorem dL_areBells_201 : decode cL_areBells 201 = .ok (.invokevirtual 26, 3) := by decide +kernel
theorem dL_areBells_204 : decode cL_areBells 204 = .ok (.bipush (-4), 2) := by decide +kernel
theorem dL_areBells_206 : decode cL_areBells 206 = .ok (.if_icmp .ne 7, 3) := by decide +kernel
theorem dL_areBells_209 : decode cL_areBells 209 = .ok (.iconst 1, 1) := by decide +kernel
theorem dL_areBells_210 : decode cL_areBells 210 = .ok (.goto 4, 3) := by decide +kernel
theorem dL_areBells_213 : decode cL_areBells 213 = .ok (.iconst 0, 1) := by decide +kernel
theorem dL_areBells_214 : decode cL_areBells 214 = .ok (.istore 4, 2) := by decide +kernel
theorem dL_areBells_216 : decode cL_areBells 216 = .ok (.goto 104, 3) := by decide +kernel
theorem dL_areBells_219 : decode cL_areBells 219 = .ok (.iload 4, 2) := by decide +kernel
theorem dL_areBells_221 : decode cL_areBells 221 = .ok (.ifCond .eq 96, 3) := by decide +kernel
theorem dL_areBells_224 : decode cL_areBells 224 = .ok (.iload 7, 2) := by decide +kernel
theorem dL_areBells_226 : decode cL_areBells 226 = .ok (.aload_n 0, 1) := by decide +kernel
theorem dL_areBells_227 : decode cL_areBells 227 = .ok (.iload 5, 2) := by decide +kernel
theorem dL_areBells_229 : decode cL_areBells 229 = .ok (.bipush 7, 2) := by decide +kernel
theorem dL_areBells_231 : decode cL_areBells 231 = .ok (.invokevirtual 26, 3) := by decide +kernel
theorem dL_areBells_234 : decode cL_areBells 234 = .ok (.iadd, 1) := by decide +kernel
theorem dL_areBells_235 : decode cL_areBells 235 = .ok (.aload_n 0, 1) := by decide +kernel
theorem dL_areBells_236 : decode cL_areBells 236 = .ok (.iload 5, 2) := by decide +kernel
theorem dL_areBells_238 : decode cL_areBells 238 = .ok (.bipush 6, 2) := by decide +kernel
theorem dL_areBells_240 : decode cL_areBells 240 = .ok (.invokevirtual 26, 3) := by decide +kernel
theorem dL_areBells_243 : decode cL_areBells 243 = .ok (.if_icmp .ne 74, 3) := by decide +kernel
theorem dL_areBells_246 : decode cL_areBells 246 = .ok (.aload_n 0, 1) := by decide +kernel
theorem dL_areBells_247 : decode cL_areBells 247 = .ok (.iload 5, 2) := by decide +kernel
theorem dL_areBells_249 : decode cL_areBells 249 = .ok (.iconst 0, 1) := by decide +kernel
theorem dL_areBells_250 : decode cL_areBells 250 = .ok (.invokevirtual 26, 3) := by decide +kernel
theorem dL_areBells_253 : decode cL_areBells 253 = .ok (.ifCond .lt 64, 3) := by decide +kernel
theorem dL_areBells_256 : decode cL_areBells 256 = .ok (.aload_n 0, 1) := by decide +kernel
theorem dL_areBells_257 : decode cL_areBells 257 = .ok (.iload 5, 2) := by decide +kernel
theorem dL_areBells_259 : decode cL_areBells 259 = .ok (.iconst 1, 1) := by decide +kernel
theorem dL_areBells_260 : decode cL_areBells 260 = .ok (.invokevirtual 26, 3) := by decide +kernel
theorem dL_areBells_263 : decode cL_areBells 263 = .ok (.ifCond .lt 54, 3) := by decide +kernel
theorem dL_areBells_266 : decode cL_areBells 266 = .ok (.aload_n 0, 1) := by decide +kernel
theorem dL_areBells_267 : decode cL_areBells 267 = .ok (.iload 5, 2) := by decide +kernel
theorem dL_areBells_269 : decode cL_areBells 269 = .ok (.iconst 0, 1) := by decide +kernel
theorem dL_areBells_270 : decode cL_areBells 270 = .ok (.invokevirtual 26, 3) := by decide +kernel
theorem dL_areBells_273 : decode cL_areBells 273 = .ok (.aload_n 0, 1) := by decide +kernel
theorem dL_areBells_274 : decode cL_areBells 274 = .ok (.iload 5, 2) := by decide +kernel
theorem dL_areBells_276 : decode cL_areBells 276 = .ok (.iconst 1, 1) := by decide +kernel
theorem dL_areBells_277 : decode cL_areBells 277 = .ok (.invokevirtual 26, 3) := by decide +kernel
theorem dL_areBells_280 : decode cL_areBells 280 = .ok (.iadd, 1) := by decide +kernel
theorem dL_areBells_281 : decode cL_areBells 281 = .ok (.iload 7, 2) := by decide +kernel
theorem dL_areBells_283 : decode cL_areBells 283 = .ok (.if_icmp .ne 34, 3) := by decide +kernel
theorem dL_areBells_286 : decode cL_areBells 286 = .ok (.aload_n 0, 1) := by decide +kernel
theorem dL_areBells_287 : decode cL_areBells 287 = .ok (.iload 5, 2) := by decide +kernel
theorem dL_areBells_289 : decode cL_areBells 289 = .ok (.iconst 3, 1) := by decide +kernel
theorem dL_areBells_290 : decode cL_areBells 290 = .ok (.invokevirtual 26, 3) := by decide +kernel
theorem dL_areBells_293 : decode cL_areBells 293 = .ok (.ldc2_w 87, 3) := by decide +kernel
theorem dL_areBells_296 : decode cL_areBells 296 = .ok (.aload_n 0, 1) := by decide +kernel
theorem dL_areBells_297 : decode cL_areBells 297 = .ok (.iload 5, 2) := by decide +kernel
theorem dL_areBells_299 : decode cL_areBells 299 = .ok (.iconst 1, 1) := by decide +kernel
theorem dL_areBells_300 : decode cL_areBells 300 = .ok (.invokevirtual 26, 3) := by decide +kernel
theorem dL_areBells_303 : decode cL_areBells 303 = .ok (.i2l, 1) := by decide +kernel
theorem dL_areBells_304 : decode cL_areBells 304 = .ok (.lmul, 1) := by decide +kernel
theorem dL_areBells_305 : decode cL_areBells 305 = .ok (.iload 7, 2) := by decide +kernel
theorem dL_areBells_307 : decode cL_areBells 307 = .ok (.i2l, 1) := by decide +kernel
theorem dL_areBells_308 : decode cL_areBells 308 = .ok (.ldiv, 1) := by decide +kernel
theorem dL_areBells_309 : decode cL_areBells 309 = .ok (.l2i, 1) := by decide +kernel
theorem dL_areBells_310 : decode cL_areBells 310 = .ok (.if_icmp .ne 7, 3) := by decide +kernel
theorem dL_areBells_313 : decode cL_areBells 313 = .ok (.iconst 1, 1) := by decide +kernel
theorem dL_areBells_314 : decode cL_areBells 314 = .ok (.goto 4, 3) := by decide +kernel
theorem dL_areBells_317 : decode cL_areBells 317 = .ok (.iconst 0, 1) := by decide +kernel
theorem dL_areBells_318 : decode cL_areBells 318 = .ok (.istore 4, 2) := by decide +kernel
theorem dL_areBells_320 : decode cL_areBells 320 = .ok (.iload 6, 2) := by decide +kernel
theorem dL_areBells_322 : decode cL_areBells 322 = .ok (.iconst 2, 1) := by decide +kernel
theorem dL_areBells_323 : decode cL_areBells 323 = .ok (.if_icmp .ne 103, 3) := by decide +kernel
theorem dL_areBells_326 : decode cL_areBells 326 = .ok (.aload_n 0, 1) := by decide +kernel
theorem dL_areBells_327 : decode cL_areBells 327 = .ok (.iload 5, 2) := by decide +kernel
theorem dL_areBells_329 : decode cL_areBells 329 = .ok (.bipush 9, 2) := by decide +kernel
theorem dL_areBells_331 : decode cL_areBells 331 = .ok (.invokevirtual 26, 3) := by decide +kernel
theorem dL_areBells_334 : decode cL_areBells 334 = .ok (.istore 8, 2) := by decide +kernel
theorem dL_areBells_336 : decode cL_areBells 336 = .ok (.iload 4, 2) := by decide +kernel
theorem dL_areBells_338 : decode cL_areBells 338 = .ok (.ifCond .eq 85, 3) := by decide +kernel
theorem dL_areBells_341 : decode cL_areBells 341 = .ok (.aload_n 0, 1) := by decide +kernel
theorem dL_areBells_342 : decode cL_areBells 342 = .ok (.iload 8, 2) := by decide +kernel
theorem dL_areBells_344 : decode cL_areBells 344 = .ok (.iconst 3, 1) := by decide +kernel
theorem dL_areBells_345 : decode cL_areBells 345 = .ok (.invokevirtual 29, 3) := by decide +kernel
theorem dL_areBells_348 : decode cL_areBells 348 = .ok (.iconst 1, 1) := by decide +kernel
theorem dL_areBells_349 : decode cL_areBells 349 = .ok (.if_icmp .ne 74, 3) := by decide +kernel
theorem dL_areBells_352 : decode cL_areBells 352 = .ok (.aload_n 0, 1) := by decide +kernel
theorem dL_areBells_353 : decode cL_areBells 353 = .ok (.iload 8, 2) := by decide +kernel
theorem dL_areBells_355 : decode cL_areBells 355 = .ok (.iconst 0, 1) := by decide +kernel
theorem dL_areBells_356 : decode cL_areBells 356 = .ok (.invokevirtual 29, 3) := by decide +kernel
theorem dL_areBells_359 : decode cL_areBells 359 = .ok (.aload_n 0, 1) := by decide +kernel
theorem dL_areBells_360 : decode cL_areBells 360 = .ok (.iload 5, 2) := by decide +kernel
theorem dL_areBells_362 : decode cL_areBells 362 = .ok (.iconst 4, 1) := by decide +kernel
theorem dL_areBells_363 : decode cL_areBells 363 = .ok (.invokevirtual 26, 3) := by decide +kernel
theorem dL_areBells_366 : decode cL_areBells 366 = .ok (.if_icmp .ne 57, 3) := by decide +kernel
theorem dL_areBells_369 : decode cL_areBells 369 = .ok (.aload_n 0, 1) := by decide +kernel
theorem dL_areBells_370 : decode cL_areBells 370 = .ok (.iload 5, 2) := by decide +kernel
theorem dL_areBells_372 : decode cL_areBells 372 = .ok (.iconst 5, 1) := by decide +kernel
theorem dL_areBells_373 : decode cL_areBells 373 = .ok (.invokevirtual 26, 3) := by decide +kernel
theorem dL_areBells_376 : decode cL_areBells 376 = .ok (.aload_n 0, 1) := by decide +kernel
theorem dL_areBells_377 : decode cL_areBells 377 = .ok (.iload 8, 2) := by decide +kernel
theorem dL_areBells_379 : decode cL_areBells 379 = .ok (.iconst 1, 1) := by decide +kernel
theorem dL_areBells_380 : decode cL_areBells 380 = .ok (.invokevirtual 29, 3) := by decide +kernel
theorem dL_areBells_383 : decode cL_areBells 383 = .ok (.isub, 1) := by decide +kernel
theorem dL_areBells_384 : decode cL_areBells 384 = .ok (.aload_n 0, 1) := by decide +kernel
theorem dL_areBells_385 : decode cL_areBells 385 = .ok (.iload 8, 2) := by decide +kernel
theorem dL_areBells_387 : decode cL_areBells 387 = .ok (.iconst 2, 1) := by decide +kernel
theorem dL_areBells_388 : decode cL_areBells 388 = .ok (.invokevirtual 29, 3) := by decide +kernel
theorem dL_areBells_391 : decode cL_areBells 391 = .ok (.if_icmp .gt 32, 3) := by decide +kernel
theorem dL_areBells_394 : decode cL_areBells 394 = .ok (.aload_n 0, 1) := by decide +kernel
theorem dL_areBells_395 : decode cL_areBells 395 = .ok (.iload 8, 2) := by decide +kernel
theorem dL_areBells_397 : decode cL_areBells 397 = .ok (.iconst 1, 1) := by decide +kernel
theorem dL_areBells_398 : decode cL_areBells 398 = .ok (.invokevirtual 29, 3) := by decide +kernel
theorem dL_areBells_401 : decode cL_areBells 401 = .ok (.aload_n 0, 1) := by decide +kernel
theorem dL_areBells_402 : decode cL_areBells 402 = .ok (.iload 5, 2) := by decide +kernel
theorem dL_areBells_404 : decode cL_areBells 404 = .ok (.iconst 5, 1) := by decide +kernel
theorem dL_areBells_405 : decode cL_areBells 405 = .ok (.invokevirtual 26, 3) := by decide +kernel
theorem dL_areBells_408 : decode cL_areBells 408 = .ok (.isub, 1) := by decide +kernel
theorem dL_areBells_409 : decode cL_areBells 409 = .ok (.aload_n 0, 1) := by decide +kernel
theorem dL_areBells_410 : decode cL_areBells 410 = .ok (.iload 8, 2) := by decide +kernel
theorem dL_areBells_412 : decode cL_areBells 412 = .ok (.iconst 2, 1) := by decide +kernel
theorem dL_areBells_413 : decode cL_areBells 413 = .ok (.invokevirtual 29, 3) := by decide +kernel
theorem dL_areBells_416 : decode cL_areBells 416 = .ok (.if_icmp .gt 7, 3) := by decide +kernel
theorem dL_areBells_419 : decode cL_areBells 419 = .ok (.iconst 1, 1) := by decide +kernel
theorem dL_areBells_420 : decode cL_areBells 420 = .ok (.goto 4, 3) := by decide +kernel
theorem dL_areBells_423 : decode cL_areBells 423 = .ok (.iconst 0, 1) := by decide +kernel
theorem dL_areBells_424 : decode cL_areBells 424 = .ok (.istore 4, 2) := by decide +kernel
theorem dL_areBells_426 : decode cL_areBells 426 = .ok (.iinc 5 1, 3) := by decide +kernel
theorem dL_areBells_429 : decode cL_areBells 429 = .ok (.goto (-417), 3) := by decide +kernel
theorem dL_areBells_432 : decode cL_areBells 432 = .ok (.iload 4, 2) := by decide +kernel
theorem dL_areBells_434 : decode cL_areBells 434 = .ok (.ifCond .eq 50, 3) := by decide +kernel
theorem dL_areBells_437 : decode cL_areBells 437 = .ok (.aload_n 0, 1) := by decide +kernel
theorem dL_areBells_438 : decode cL_areBells 438 = .ok (.iconst 2, 1) := by decide +kernel
theorem dL_areBells_439 : decode cL_areBells 439 = .ok (.invokevirtual 13, 3) := by decide +kernel
theorem dL_areBells_442 : decode cL_areBells 442 = .ok (.iload_n 1, 1) := by decide +kernel
theorem dL_areBells_443 : decode cL_areBells 443 = .ok (.if_icmp .ne 41, 3) := by decide +kernel
theorem dL_areBells_446 : decode cL_areBells 446 = .ok (.aload_n 0, 1) := by decide +kernel
theorem dL_areBells_447 : decode cL_areBells 447 = .ok (.iconst 3, 1) := by decide +kernel
theorem dL_areBells_448 : decode cL_areBells 448 = .ok (.invokevirtual 13, 3) := by decide +kernel
theorem dL_areBells_451 : decode cL_areBells 451 = .ok (.iload_n 2, 1) := by decide +kernel
theorem dL_areBells_452 : decode cL_areBells 452 = .ok (.if_icmp .ne 32, 3) := by decide +kernel
theorem dL_areBells_455 : decode cL_areBells 455 = .ok (.aload_n 0, 1) := by decide +kernel
theorem dL_areBells_456 : decode cL_areBells 456 = .ok (.iconst 4, 1) := by decide +kernel
theorem dL_areBells_457 : decode cL_areBells 457 = .ok (.invokevirtual 13, 3) := by decide +kernel
theorem dL_areBells_460 : decode cL_areBells 460 = .ok (.iload_n 3, 1) := by decide +kernel
theorem dL_areBells_461 : decode cL_areBells 461 = .ok (.if_icmp .ne 23, 3) := by decide +kernel
theorem dL_areBells_464 : decode cL_areBells 464 = .ok (.iload_n 1, 1) := by decide +kernel
theorem dL_areBells_465 : decode cL_areBells 465 = .ok (.bipush 12, 2) := by decide +kernel
theorem dL_areBells_467 : decode cL_areBells 467 = .ok (.if_icmp .gt 17, 3) := by decide +kernel
theorem dL_areBells_470 : decode cL_areBells 470 = .ok (.aload_n 0, 1) := by decide +kernel
theorem dL_areBells_471 : decode cL_areBells 471 = .ok (.bipush 7, 2) := by decide +kernel
theorem dL_areBells_473 : decode cL_areBells 473 = .ok (.invokevirtual 13, 3) := by decide +kernel
theorem dL_areBells_476 : decode cL_areBells 476 = .ok (.iload_n 3, 1) := by decide +kernel
theorem dL_areBells_477 : decode cL_areBells 477 = .ok (.if_icmp .ne 7, 3) := by decide +kernel
theorem dL_areBells_480 : decode cL_areBells 480 = .ok (.iconst 1, 1) := by decide +kernel
theorem dL_areBells_481 : decode cL_areBells 481 = .ok (.goto 4, 3) := by decide +kernel
theorem dL_areBells_484 : decode cL_areBells 484 = .ok (.iconst 0, 1) := by decide +kernel
theorem dL_areBells_485 : decode cL_areBells 485 = .ok (.ireturn, 1) := by decide +kernel
theorem dL_areMetals_0 : decode cL_areMetals 0 = .ok (.aload_n 0, 1) := by decide +kernel
theorem dL_areMetals_1 : decode cL_areMetals 1 = .ok (.iconst 2, 1) := by decide +kernel
theorem dL_areMetals_2 : decode cL_areMetals 2 = .ok (.invokevirtual 47, 3) := by decide +kernel
theorem dL_areMetals_5 : decode cL_areMetals 5 = .ok (.aload_n 0, 1) := by decide +kernel
theorem dL_areMetals_6 : decode cL_areMetals 6 = .ok (.iconst 0, 1) := by decide +kernel
theorem dL_areMetals_7 : decode cL_areMetals 7 = .ok (.invokevirtual 47, 3) := by decide +kernel
theorem dL_areMetals_10 : decode cL_areMetals 10 = .ok (.aload_n 0, 1) := by decide +kernel
theorem dL_areMetals_11 : decode cL_areMetals 11 = .ok (.iconst 1, 1) := by decide +kernel
theorem dL_areMetals_12 : decode cL_areMetals 12 = .ok (.invokevirtual 47, 3) := by decide +kernel
theorem dL_areMetals_15 : decode cL_areMetals 15 = .ok (.iadd, 1) := by decide +kernel
theorem dL_areMetals_16 : decode cL_areMetals 16 = .ok (.if_icmp .ne 41, 3) := by decide +kernel
theorem dL_areMetals_19 : decode cL_areMetals 19 = .ok (.aload_n 0, 1) := by decide +kernel
theorem dL_areMetals_20 : decode cL_areMetals 20 = .ok (.iconst 4, 1) := by decide +kernel
theorem dL_areMetals_21 : decode cL_areMetals 21 = .ok (.invokevirtual 47, 3) := by decide +kernel
theorem dL_areMetals_24 : decode cL_areMetals 24 = .ok (.aload_n 0, 1) := by decide +kernel
theorem dL_areMetals_25 : decode cL_areMetals 25 = .ok (.iconst 2, 1) := by decide +kernel
theorem dL_areMetals_26 : decode cL_areMetals 26 = .ok (.invokevirtual 47, 3) := by decide +kernel
theorem dL_areMetals_29 : decode cL_areMetals 29 = .ok (.if_icmp .gt 28, 3) := by decide +kernel
theorem dL_areMetals_32 : decode cL_areMetals 32 = .ok (.aload_n 0, 1) := by decide +kernel
theorem dL_areMetals_33 : decode cL_areMetals 33 = .ok (.iconst 2, 1) := by decide +kernel
theorem dL_areMetals_34 : decode cL_areMetals 34 = .ok (.invokevirtual 47, 3) := by decide +kernel
theorem dL_areMetals_37 : decode cL_areMetals 37 = .ok (.sipush 20000, 3) := by decide +kernel
theorem dL_areMetals_40 : decode cL_areMetals 40 = .ok (.if_icmp .gt 17, 3) := by decide +kernel
theorem dL_areMetals_43 : decode cL_areMetals 43 = .ok (.aload_n 0, 1) := by decide +kernel
theorem dL_areMetals_44 : decode cL_areMetals 44 = .ok (.iconst 0, 1) := by decide +kernel
theorem dL_areMetals_45 : decode cL_areMetals 45 = .ok (.invokevirtual 13, 3) := by decide +kernel
theorem dL_areMetals_48 : decode cL_areMetals 48 = .ok (.bipush 12, 2) := by decide +kernel
theorem dL_areMetals_50 : decode cL_areMetals 50 = .ok (.if_icmp .gt 7, 3) := by decide +kernel
theorem dL_areMetals_53 : decode cL_areMetals 53 = .ok (.iconst 1, 1) := by decide +kernel
theorem dL_areMetals_54 : decode cL_areMetals 54 = .ok (.goto 4, 3) := by decide +kernel
theorem dL_areMetals_57 : decode cL_areMetals 57 = .ok (.iconst 0, 1) := by decide +kernel
theorem dL_areMetals_58 : decode cL_areMetals 58 = .ok (.istore_n 1, 1) := by decide +kernel
theorem dL_areMetals_59 : decode cL_areMetals 59 = .ok (.iconst 0, 1) := by decide +kernel
theorem dL_areMetals_60 : decode cL_areMetals 60 = .ok (.istore_n 2, 1) := by decide +kernel
theorem dL_areMetals_61 : decode cL_areMetals 61 = .ok (.iload_n 2, 1) := by decide +kernel
theorem dL_areMetals_62 : decode cL_areMetals 62 = .ok (.iconst 2, 1) := by decide +kernel
theorem dL_areMetals_63 : decode cL_areMetals 63 = .ok (.if_icmp .ge 309, 3) := by decide +kernel
theorem dL_areMetals_66 : decode cL_areMetals 66 = .ok (.iload_n 1, 1) := by decide +kernel
theorem dL_areMetals_67 : decode cL_areMetals 67 = .ok (.ifCond .eq 305, 3) := by decide +kernel
theorem dL_areMetals_70 : decode cL_areMetals 70 = .ok (.iconst 0, 1) := by decide +kernel
theorem dL_areMetals_71 : decode cL_areMetals 71 = .ok (.istore_n 3, 1) := by decide +kernel
theorem dL_areMetals_72 : decode cL_areMetals 72 = .ok (.iconst 0, 1) := by decide +kernel
theorem dL_areMetals_73 : decode cL_areMetals 73 = .ok (.istore 4, 2) := by decide +kernel
theorem dL_areMetals_75 : decode cL_areMetals 75 = .ok (.iconst 0, 1) := by decide +kernel
theorem dL_areMetals_76 : decode cL_areMetals 76 = .ok (.istore 5, 2) := by decide +kernel
theorem dL_areMetals_78 : decode cL_areMetals 78 = .ok (.iconst 0, 1) := by decide +kernel
theorem dL_areMetals_79 : decode cL_areMetals 79 = .ok (.istore 6, 2) := by decide +kernel
theorem dL_areMetals_81 : decode cL_areMetals 81 = .ok (.iload 6, 2) := by decide +kernel
theorem dL_areMetals_83 : decode cL_areMetals 83 = .ok (.aload_n 0, 1) := by decide +kernel
theorem dL_areMetals_84 : decode cL_areMetals 84 = .ok (.iconst 0, 1) := by decide +kernel
theorem dL_areMetals_85 : decode cL_areMetals 85 = .ok (.invokevirtual 13, 3) := by decide +kernel
theorem dL_areMetals_88 : decode cL_areMetals 88 = .ok (.if_icmp .ge 85, 3) := by decide +kernel
theorem dL_areMetals_91 : decode cL_areMetals 91 = .ok (.iload_n 3, 1) := by decide +kernel
theorem dL_areMetals_92 : decode cL_areMetals 92 = .ok (.aload_n 0, 1) := by decide +kernel
theorem dL_areMetals_93 : decode cL_areMetals 93 = .ok (.iload 6, 2) := by decide +kernel
theorem dL_areMetals_95 : decode cL_areMetals 95 = .ok (.iload_n 2, 1) := by decide +kernel
theorem dL_areMetals_96 : decode cL_areMetals 96 = .ok (.invokevirtual 23, 3) := by decide +kernel
theorem dL_areMetals_99 : decode cL_areMetals 99 = .ok (.iadd, 1) := by decide +kernel
theorem dL_areMetals_100 : decode cL_areMetals 100 = .ok (.istore_n 3, 1) := by decide +kernel
theorem dL_areMetals_101 : decode cL_areMetals 101 = .ok (.iload_n 1, 1) := by decide +kernel
theorem dL_areMetals_102 : decode cL_areMetals 102 = .ok (.ifCond .eq 63, 3) := by decide +kernel
theorem dL_areMetals_105 : decode cL_areMetals 105 = .ok (.aload_n 0, 1) := by decide +kernel
theorem dL_areMetals_106 : decode cL_areMetals 106 = .ok (.iload 6, 2) := by decide +kernel
theorem dL_areMetals_108 : decode cL_areMetals 108 = .ok (.iconst 2, 1) := by decide +kernel
theorem dL_areMetals_109 : decode cL_areMetals 109 = .ok (.invokevirtual 23, 3) := by decide +kernel
theorem dL_areMetals_112 : decode cL_areMetals 112 = .ok (.ifCond .le 53, 3) := by decide +kernel
theorem dL_areMetals_115 : decode cL_areMetals 115 = .ok (.aload_n 0, 1) := by decide +kernel
theorem dL_areMetals_116 : decode cL_areMetals 116 = .ok (.iload 6, 2) := by decide +kernel
theorem dL_areMetals_118 : decode cL_areMetals 118 = .ok (.iconst 0, 1) := by decide +kernel
theorem dL_areMetals_119 : decode cL_areMetals 119 = .ok (.invokevirtual 23, 3) := by decide +kernel
theorem dL_areMetals_122 : decode cL_areMetals 122 = .ok (.aload_n 0, 1) := by decide +kernel
theorem dL_areMetals_123 : decode cL_areMetals 123 = .ok (.iload 6, 2) := by decide +kernel
theorem dL_areMetals_125 : decode cL_areMetals 125 = .ok (.iconst 1, 1) := by decide +kernel
theorem dL_areMetals_126 : decode cL_areMetals 126 = .ok (.invokevirtual 23, 3) := by decide +kernel
theorem dL_areMetals_129 : decode cL_areMetals 129 = .ok (.iadd, 1) := by decide +kernel
theorem dL_areMetals_130 : decode cL_areMetals 130 = .ok (.aload_n 0, 1) := by decide +kernel
theorem dL_areMetals_131 : decode cL_areMetals 131 = .ok (.iload 6, 2) := by decide +kernel
theorem dL_areMetals_133 : decode cL_areMetals 133 = .ok (.iconst 2, 1) := by decide +kernel
theorem dL_areMetals_134 : decode cL_areMetals 134 = .ok (.invokevirtual 23, 3) := by decide +kernel
theorem dL_areMetals_137 : decode cL_areMetals 137 = .ok (.if_icmp .ne 28, 3) := by decide +kernel
theorem dL_areMetals_140 : decode cL_areMetals 140 = .ok (.aload_n 0, 1) := by decide +kernel
theorem dL_areMetals_141 : decode cL_areMetals 141 = .ok (.iload 6, 2) := by decide +kernel
theorem dL_areMetals_143 : decode cL_areMetals 143 = .ok (.iconst 4, 1) := by decide +kernel
theorem dL_areMetals_144 : decode cL_areMetals 144 = .ok (.invokevirtual 23, 3) := by decide +kernel
theorem dL_areMetals_147 : decode cL_areMetals 147 = .ok (.ifCond .lt 18, 3) := by decide +kernel
theorem dL_areMetals_150 : decode cL_areMetals 150 = .ok (.aload_n 0, 1) := by decide +kernel
theorem dL_areMetals_151 : decode cL_areMetals 151 = .ok (.iload 6, 2) := by decide +kernel
theorem dL_areMetals_153 : decode cL_areMetals 153 = .ok (.iconst 4, 1) := by decide +kernel
theorem dL_areMetals_154 : decode cL_areMetals 154 = .ok (.invokevirtual 23, 3) := by decide +kernel
theorem dL_areMetals_157 : decode cL_areMetals 157 = .ok (.iconst 3, 1) := by decide +kernel
theorem dL_areMetals_158 : decode cL_areMetals 158 = .ok (.if_icmp .ge 7, 3) := by decide +kernel
theorem dL_areMetals_161 : decode cL_areMetals 161 = .ok (.iconst 1, 1) := by decide +kernel
theorem dL_areMetals_162 : decode cL_areMetals 162 = .ok (.goto 4, 3) := by decide +kernel
theorem dL_areMetals_165 : decode cL_areMetals 165 = .ok (.iconst 0, 1) := by decide +kernel
theorem dL_areMetals_166 : decode cL_areMetals 166 = .ok (.istore_n 1, 1) := by decide +kernel
theorem dL_areMetals_167 : decode cL_areMetals 167 = .ok (.iinc 6 1, 3) := by decide +kernel
theorem dL_areMetals_170 : decode cL_areMetals 170 = .ok (.goto (-89), 3) := by decide +kernel
theorem dL_areMetals_173 : decode cL_areMetals 173 = .ok (.iconst 0, 1) := by decide +kernel
theorem dL_areMetals_174 : decode cL_areMetals 174 = .ok (.istore 6, 2) := by decide +kernel
theorem dL_areMetals_176 : decode cL_areMetals 176 = .ok (.iload 6, 2) := by decide +kernel
theorem dL_areMetals_178 : decode cL_areMetals 178 = .ok (.aload_n 0, 1) := by decide +kernel
theorem dL_areMetals_179 : decode cL_areMetals 179 = .ok (.iconst 1, 1) := by decide +kernel
theorem dL_areMetals_180 : decode cL_areMetals 180 = .ok (.invokevirtual 13, 3) := by decide +kernel
theorem dL_areMetals_183 : decode cL_areMetals 183 = .ok (.if_icmp .ge 65, 3) := by decide +kernel
theorem dL_areMetals_186 : decode cL_areMetals 186 = .ok (.iload 4, 2) := by decide +kernel
theorem dL_areMetals_188 : decode cL_areMetals 188 = .ok (.aload_n 0, 1) := by decide +kernel
theorem dL_areMetals_189 : decode cL_areMetals 189 = .ok (.iload 6, 2) := by decide +kernel
theorem dL_areMetals_191 : decode cL_areMetals 191 = .ok (.bipush 8, 2) := by decide +kernel
theorem dL_areMetals_193 : decode cL_areMetals 193 = .ok (.invokevirtual 26, 3) := by decide +kernel
theorem dL_areMetals_196 : decode cL_areMetals 196 = .ok (.iconst 2, 1) := by decide +kernel
theorem dL_areMetals_197 : decode cL_areMetals 197 = .ok (.if_icmp .ge 13, 3) := by decide +kernel
theorem dL_areMetals_200 : decode cL_areMetals 200 = .ok (.aload_n 0, 1) := by decide +kernel
theorem dL_areMetals_201 : decode cL_areMetals 201 = .ok (.iload 6, 2) := by decide +kernel
theorem dL_areMetals_203 : decode cL_areMetals 203 = .ok (.iload_n 2, 1) := by decide +kernel
theorem dL_areMetals_204 : decode cL_areMetals 204 = .ok (.invokevirtual 26, 3) := by decide +kernel
theorem dL_areMetals_207 : decode cL_areMetals 207 = .ok (.goto 4, 3) := by decide +kernel
theorem dL_areMetals_210 : decode cL_areMetals 210 = .ok (.iconst 0, 1) := by decide +kernel
theorem dL_areMetals_211 : decode cL_areMetals 211 = .ok (.iadd, 1) := by decide +kernel
theorem dL_areMetals_212 : decode cL_areMetals 212 = .ok (.istore 4, 2) := by decide +kernel
theorem dL_areMetals_214 : decode cL_areMetals 214 = .ok (.iload 5, 2) := by decide +kernel
theorem dL_areMetals_216 : decode cL_areMetals 216 = .ok (.aload_n 0, 1) := by decide +kernel
theorem dL_areMetals_217 : decode cL_areMetals 217 = .ok (.iload 6, 2) := by decide +kernel
theorem dL_areMetals_219 : decode cL_areMetals 219 = .ok (.bipush 8, 2) := by decide +kernel
theorem dL_areMetals_221 : decode cL_areMetals 221 = .ok (.invokevirtual 26, 3) := by decide +kernel
theorem dL_areMetals_224 : decode cL_areMetals 224 = .ok (.iconst 2, 1) := by decide +kernel
theorem dL_areMetals_225 : decode cL_areMetals 225 = .ok (.if_icmp .ne 13, 3) := by decide +kernel
theorem dL_areMetals_228 : decode cL_areMetals 228 = .ok (.aload_n 0, 1) := by decide +kernel
theorem dL_areMetals_229 : decode cL_areMetals 229 = .ok (.iload 6, 2) := by decide +kernel
theorem dL_areMetals_231 : decode cL_areMetals 231 = .ok (.iload_n 2, 1) := by decide +kernel
theorem dL_areMetals_232 : decode cL_areMetals 232 = .ok (.invokevirtual 26, 3) := by decide +kernel
theorem dL_areMetals_235 : decode cL_areMetals 235 = .ok (.goto 4, 3) := by decide +kernel
theorem dL_areMetals_238 : decode cL_areMetals 238 = .ok (.iconst 0, 1) := by decide +kernel
theorem dL_areMetals_239 : decode cL_areMetals 239 = .ok (.iadd, 1) := by decide +kernel
theorem dL_areMetals_240 : decode cL_areMetals 240 = .ok (.istore 5, 2) := by decide +kernel
theorem dL_areMetals_242 : decode cL_areMetals 242 = .ok (.iinc 6 1, 3) := by decide +kernel
theorem dL_areMetals_245 : decode cL_areMetals 245 = .ok (.goto (-69), 3) := by decide +kernel
theorem dL_areMetals_248 : decode cL_areMetals 248 = .ok (.iconst 0, 1) := by decide +kernel
theorem dL_areMetals_249 : decode cL_areMetals 249 = .ok (.istore 6, 2) := by decide +kernel
theorem dL_areMetals_251 : decode cL_areMetals 251 = .ok (.iconst 1, 1) := by decide +kernel
theorem dL_areMetals_252 : decode cL_areMetals 252 = .ok (.istore 7, 2) := by decide +kernel
theorem dL_areMetals_254 : decode cL_areMetals 254 = .ok (.iload 7, 2) := by decide +kernel
theorem dL_areMetals_256 : decode cL_areMetals 256 = .ok (.bipush 7, 2) := by decide +kernel
theorem dL_areMetals_258 : decode cL_areMetals 258 = .ok (.if_icmp .ge 41, 3) := by decide +kernel
theorem dL_areMetals_261 : decode cL_areMetals 261 = .ok (.iload 6, 2) := by decide +kernel
theorem dL_areMetals_263 : decode cL_areMetals 263 = .ok (.aload_n 0, 1) := by decide +kernel
theorem dL_areMetals_264 : decode cL_areMetals 264 = .ok (.iload_n 2, 1) := by decide +kernel
theorem dL_areMetals_265 : decode cL_areMetals 265 = .ok (.iload 7, 2) := by decide +kernel
theorem dL_areMetals_267 : decode cL_areMetals 267 = .ok (.invokevirtual 19, 3) := by decide +kernel
theorem dL_areMetals_270 : decode cL_areMetals 270 = .ok (.iadd, 1) := by decide +kernel
theorem dL_areMetals_271 : decode cL_areMetals 271 = .ok (.istore 6, 2) := by decide +kernel
theorem dL_areMetals_273 : decode cL_areMetals 273 = .ok (.iload_n 1, 1) := by decide +kernel
theorem dL_areMetals_274 : decode cL_areMetals 274 = .ok (.ifCond .eq 17, 3) := by decide +kernel
theorem dL_areMetals_277 : decode cL_areMetals 277 = .ok (.aload_n 0, 1) := by decide +kernel
theorem dL_areMetals_278 : decode cL_areMetals 278 = .ok (.iload_n 2, 1) := by decide +kernel
theorem dL_areMetals_279 : decode cL_areMetals 279 = .ok (.iload 7, 2) := by decide +kernel
theorem dL_areMetals_281 : decode cL_areMetals 281 = .ok (.invokevirtual 19, 3) := by decide +kernel
theorem dL_areMetals_284 : decode cL_areMetals 284 = .ok (.ifCond .lt 7, 3) := by decide +kernel
theorem dL_areMetals_287 : decode cL_areMetals 287 = .ok (.iconst 1, 1) := by decide +kernel
theorem dL_areMetals_288 : decode cL_areMetals 288 = .ok (.goto 4, 3) := by decide +kernel
theorem dL_areMetals_291 : decode cL_areMetals 291 = .ok (.iconst 0, 1) := by decide +kernel
theorem dL_areMetals_292 : decode cL_areMetals 292 = .ok (.istore_n 1, 1) := by decide +kernel
theorem dL_areMetals_293 : decode cL_areMetals 293 = .ok (.iinc 7 1, 3) := by decide +kernel
theorem dL_areMetals_296 : decode cL_areMetals 296 = .ok (.goto (-42), 3) := by decide +kernel
theorem dL_areMetals_299 : decode cL_areMetals 299 = .ok (.iload_n 1, 1) := by decide +kernel
theorem dL_areMetals_300 : decode cL_areMetals 300 = .ok (.ifCond .eq 64, 3) := by decide +kernel
theorem dL_areMetals_303 : decode cL_areMetals 303 = .ok (.aload_n 0, 1) := by decide +kernel
theorem dL_areMetals_304 : decode cL_areMetals 304 = .ok (.iload_n 2, 1) := by decide +kernel
theorem dL_areMetals_305 : decode cL_areMetals 305 = .ok (.iconst 0, 1) := by decide +kernel
theorem dL_areMetals_306 : decode cL_areMetals 306 = .ok (.invokevirtual 19, 3) := by decide +kernel
theorem dL_areMetals_309 : decode cL_areMetals 309 = .ok (.iload 6, 2) := by decide +kernel
theorem dL_areMetals_311 : decode cL_areMetals 311 = .ok (.if_icmp .ne 53, 3) := by decide +kernel
theorem dL_areMetals_314 : decode cL_areMetals 314 = .ok (.aload_n 0, 1) := by decide +kernel
theorem dL_areMetals_315 : decode cL_areMetals 315 = .ok (.iload_n 2, 1) := by decide +kernel
theorem dL_areMetals_316 : decode cL_areMetals 316 = .ok (.iconst 2, 1) := by decide +kernel
theorem dL_areMetals_317 : decode cL_areMetals 317 = .ok (.invokevirtual 19, 3) := by decide +kernel
theorem dL_areMetals_320 : decode cL_areMetals 320 = .ok (.aload_n 0, 1) := by decide +kernel
theorem dL_areMetals_321 : decode cL_areMetals 321 = .ok (.iload_n 2, 1) := by decide +kernel
theorem dL_areMetals_322 : decode cL_areMetals 322 = .ok (.invokevirtual 47, 3) := by decide +kernel
theorem dL_areMetals_325 : decode cL_areMetals 325 = .ok (.if_icmp .ne 39, 3) := by decide +kernel
theorem dL_areMetals_328 : decode cL_areMetals 328 = .ok (.aload_n 0, 1) := by decide +kernel
theorem dL_areMetals_329 : decode cL_areMetals 329 = .ok (.iload_n 2, 1) := by decide +kernel
theorem dL_areMetals_330 : decode cL_areMetals 330 = .ok (.iconst 3, 1) := by decide +kernel
theorem dL_areMetals_331 : decode cL_areMetals 331 = .ok (.invokevirtual 19, 3) := by decide +kernel
theorem dL_areMetals_334 : decode cL_areMetals 334 = .ok (.iload_n 3, 1) := by decide +kernel
theorem dL_areMetals_335 : decode cL_areMetals 335 = .ok (.if_icmp .ne 29, 3) := by decide +kernel
theorem dL_areMetals_338 : decode cL_areMetals 338 = .ok (.aload_n 0, 1) := by decide +kernel
theorem dL_areMetals_339 : decode cL_areMetals 339 = .ok (.iload_n 2, 1) := by decide +kernel
theorem dL_areMetals_340 : decode cL_areMetals 340 = .ok (.iconst 4, 1) := by decide +kernel
theorem dL_areMetals_341 : decode cL_areMetals 341 = .ok (.invokevirtual 19, 3) := by decide +kernel
theorem dL_areMetals_344 : decode cL_areMetals 344 = .ok (.iload 4, 2) := by decide +kernel
theorem dL_areMetals_346 : decode cL_areMetals 346 = .ok (.if_icmp .ne 18, 3) := by decide +kernel
theorem dL_areMetals_349 : decode cL_areMetals 349 = .ok (.aload_n 0, 1) := by decide +kernel
theorem dL_areMetals_350 : decode cL_areMetals 350 = .ok (.iload_n 2, 1) := by decide +kernel
theorem dL_areMetals_351 : decode cL_areMetals 351 = .ok (.iconst 5, 1) := by decide +kernel
theorem dL_areMetals_352 : decode cL_areMetals 352 = .ok (.invokevirtual 19, 3) := by decide +kernel
theorem dL_areMetals_355 : decode cL_areMetals 355 = .ok (.iload 5, 2) := by decide +kernel
theorem dL_areMetals_357 : decode cL_areMetals 357 = .ok (.if_icmp .ne 7, 3) := by decide +kernel
theorem dL_areMetals_360 : decode cL_areMetals 360 = .ok (.iconst 1, 1) := by decide +kernel
theorem dL_areMetals_361 : decode cL_areMetals 361 = .ok (.goto 4, 3) := by decide +kernel
theorem dL_areMetals_364 : decode cL_areMetals 364 = .ok (.iconst 0, 1) := by decide +kernel
theorem dL_areMetals_365 : decode cL_areMetals 365 = .ok (.istore_n 1, 1) := by decide +kernel
theorem dL_areMetals_366 : decode cL_areMetals 366 = .ok (.iinc 2 1, 3) := by decide +kernel
theorem dL_areMetals_369 : decode cL_areMetals 369 = .ok (.goto (-308), 3) := by decide +kernel
theorem dL_areMetals_372 : decode cL_areMetals 372 = .ok (.iload_n 1, 1) := by decide +kernel
theorem dL_areMetals_373 : decode cL_areMetals 373 = .ok (.ireturn, 1) := by decide +kernel
theorem dL_fits_0 : decode cL_fits 0 = .ok (.iconst 0, 1) := by decide +kernel
theorem dL_fits_1 : decode cL_fits 1 = .ok (.istore_n 1, 1) := by decide +kernel
theorem dL_fits_2 : decode cL_fits 2 = .ok (.aload_n 0, 1) := by decide +kernel
theorem dL_fits_3 : decode cL_fits 3 = .ok (.invokestatic 89, 3) := by decide +kernel
theorem dL_fits_6 : decode cL_fits 6 = .ok (.ifCond .eq 14, 3) := by decide +kernel
theorem dL_fits_9 : decode cL_fits 9 = .ok (.aload_n 0, 1) := by decide +kernel
theorem dL_fits_10 : decode cL_fits 10 = .ok (.invokestatic 93, 3) := by decide +kernel
theorem dL_fits_13 : decode cL_fits 13 = .ok (.ifCond .eq 7, 3) := by decide +kernel
theorem dL_fits_16 : decode cL_fits 16 = .ok (.iconst 1, 1) := by decide +kernel
theorem dL_fits_17 : decode cL_fits 17 = .ok (.goto 4, 3) := by decide +kernel
theorem dL_fits_20 : decode cL_fits 20 = .ok (.iconst 0, 1) := by decide +kernel
theorem dL_fits_21 : decode cL_fits 21 = .ok (.istore_n 2, 1) := by decide +kernel
theorem dL_fits_22 : decode cL_fits 22 = .ok (.iconst 0, 1) := by decide +kernel
theorem dL_fits_23 : decode cL_fits 23 = .ok (.istore_n 3, 1) := by decide +kernel
theorem dL_fits_24 : decode cL_fits 24 = .ok (.iload_n 3, 1) := by decide +kernel
theorem dL_fits_25 : decode cL_fits 25 = .ok (.aload_n 0, 1) := by decide +kernel
theorem dL_fits_26 : decode cL_fits 26 = .ok (.iconst 5, 1) := by decide +kernel
theorem dL_fits_27 : decode cL_fits 27 = .ok (.invokevirtual 13, 3) := by decide +kernel
theorem dL_fits_30 : decode cL_fits 30 = .ok (.if_icmp .ge 221, 3) := by decide +kernel
theorem dL_fits_33 : decode cL_fits 33 = .ok (.iload_n 2, 1) := by decide +kernel
theorem dL_fits_34 : decode cL_fits 34 = .ok (.ifCond .eq 217, 3) := by decide +kernel
theorem dL_fits_37 : decode cL_fits 37 = .ok (.iload_n 1, 1) := by decide +kernel
theorem dL_fits_38 : decode cL_fits 38 = .ok (.aload_n 0, 1) := by decide +kernel
theorem dL_fits_39 : decode cL_fits 39 = .ok (.iload_n 3, 1) := by decide +kernel
theorem dL_fits_40 : decode cL_fits 40 = .ok (.iconst 3, 1) := by decide +kernel
theorem dL_fits_41 : decode cL_fits 41 = .ok (.invokevirtual 29, 3) := by decide +kernel
theorem dL_fits_44 : decode cL_fits 44 = .ok (.ifCond .ne 7, 3) := by decide +kernel
theorem dL_fits_47 : decode cL_fits 47 = .ok (.iconst 1, 1) := by decide +kernel
theorem dL_fits_48 : decode cL_fits 48 = .ok (.goto 4, 3) := by decide +kernel
theorem dL_fits_51 : decode cL_fits 51 = .ok (.iconst 0, 1) := by decide +kernel
theorem dL_fits_52 : decode cL_fits 52 = .ok (.iadd, 1) := by decide +kernel
theorem dL_fits_53 : decode cL_fits 53 = .ok (.istore_n 1, 1) := by decide +kernel
theorem dL_fits_54 : decode cL_fits 54 = .ok (.iconst 0, 1) := by decide +kernel
theorem dL_fits_55 : decode cL_fits 55 = .ok (.istore 4, 2) := by decide +kernel
theorem dL_fits_57 : decode cL_fits 57 = .ok (.bipush (-4), 2) := by decide +kernel
theorem dL_fits_59 : decode cL_fits 59 = .ok (.istore 5, 2) := by decide +kernel
theorem dL_fits_61 : decode cL_fits 61 = .ok (.aload_n 0, 1) := by decide +kernel
theorem dL_fits_62 : decode cL_fits 62 = .ok (.iconst 1, 1) := by decide +kernel
theorem dL_fits_63 : decode cL_fits 63 = .ok (.invokevirtual 13, 3) := by decide +kernel
theorem dL_fits_66 : decode cL_fits 66 = .ok (.iconst 1, 1) := by decide +kernel
theorem dL_fits_67 : decode cL_fits 67 = .ok (.isub, 1) := by decide +kernel
theorem dL_fits_68 : decode cL_fits 68 = .ok (.istore 6, 2) := by decide +kernel
theorem dL_fits_70 : decode cL_fits 70 = .ok (.iload 6, 2) := by decide +kernel
theorem dL_fits_72 : decode cL_fits 72 = .ok (.ifCond .lt 141, 3) := by decide +kernel
theorem dL_fits_75 : decode cL_fits 75 = .ok (.aload_n 0, 1) := by decide +kernel
theorem dL_fits_76 : decode cL_fits 76 = .ok (.iload 6, 2) := by decide +kernel
theorem dL_fits_78 : decode cL_fits 78 = .ok (.iconst 5, 1) := by decide +kernel
theorem dL_fits_79 : decode cL_fits 79 = .ok (.invokevirtual 26, 3) := by decide +kernel
theorem dL_fits_82 : decode cL_fits 82 = .ok (.aload_n 0, 1) := by decide +kernel
theorem dL_fits_83 : decode cL_fits 83 = .ok (.iload_n 3, 1) := by decide +kernel
theorem dL_fits_84 : decode cL_fits 84 = .ok (.iconst 1, 1) := by decide +kernel
theorem dL_fits_85 : decode cL_fits 85 = .ok (.invokevirtual 29, 3) := by decide +kernel
theorem dL_fits_88 : decode cL_fits 88 = .ok (.isub, 1) := by decide +kernel
theorem dL_fits_89 : decode cL_fits 89 = .ok (.istore 7, 2) := by decide +kernel
theorem dL_fits_91 : decode cL_fits 91 = .ok (.aload_n 0, 1) := by decide +kernel
theorem dL_fits_92 : decode cL_fits 92 = .ok (.iload 6, 2) := by decide +kernel
theorem dL_fits_94 : decode cL_fits 94 = .ok (.bipush 8, 2) := by decide +kernel
theorem dL_fits_96 : decode cL_fits 96 = .ok (.invokevirtual 26, 3) := by decide +kernel
theorem dL_fits_99 : decode cL_fits 99 = .ok (.ifCond .ne 46, 3) := by decide +kernel
theorem dL_fits_102 : decode cL_fits 102 = .ok (.aload_n 0, 1) := by decide +kernel
theorem dL_fits_103 : decode cL_fits 103 = .ok (.iload 6, 2) := by decide +kernel
theorem dL_fits_105 : decode cL_fits 105 = .ok (.iconst 4, 1) := by decide +kernel
theorem dL_fits_106 : decode cL_fits 106 = .ok (.invokevirtual 26, 3) := by decide +kernel
theorem dL_fits_109 : decode cL_fits 109 = .ok (.aload_n 0, 1) := by decide +kernel
theorem dL_fits_110 : decode cL_fits 110 = .ok (.iload_n 3, 1) := by decide +kernel
theorem dL_fits_111 : decode cL_fits 111 = .ok (.iconst 0, 1) := by decide +kernel
theorem dL_fits_112 : decode cL_fits 112 = .ok (.invokevirtual 29, 3) := by decide +kernel
theorem dL_fits_115 : decode cL_fits 115 = .ok (.if_icmp .ne 30, 3) := by decide +kernel
theorem dL_fits_118 : decode cL_fits 118 = .ok (.iload 7, 2) := by decide +kernel
theorem dL_fits_120 : decode cL_fits 120 = .ok (.aload_n 0, 1) := by decide +kernel
theorem dL_fits_121 : decode cL_fits 121 = .ok (.iload_n 3, 1) := by decide +kernel
theorem dL_fits_122 : decode cL_fits 122 = .ok (.iconst 2, 1) := by decide +kernel
theorem dL_fits_123 : decode cL_fits 123 = .ok (.invokevirtual 29, 3) := by decide +kernel
theorem dL_fits_126 : decode cL_fits 126 = .ok (.if_icmp .gt 19, 3) := by decide +kernel
theorem dL_fits_129 : decode cL_fits 129 = .ok (.iload 7, 2) := by decide +kernel
theorem dL_fits_131 : decode cL_fits 131 = .ok (.ineg, 1) := by decide +kernel
theorem dL_fits_132 : decode cL_fits 132 = .ok (.aload_n 0, 1) := by decide +kernel
theorem dL_fits_133 : decode cL_fits 133 = .ok (.iload_n 3, 1) := by decide +kernel
theorem dL_fits_134 : decode cL_fits 134 = .ok (.iconst 2, 1) := by decide +kernel
theorem dL_fits_135 : decode cL_fits 135 = .ok (.invokevirtual 29, 3) := by decide +kernel
theorem dL_fits_138 : decode cL_fits 138 = .ok (.if_icmp .gt 7, 3) := by decide +kernel
theorem dL_fits_141 : decode cL_fits 141 = .ok (.iconst 1, 1) := by decide +kernel
theorem dL_fits_142 : decode cL_fits 142 = .ok (.goto 4, 3) := by decide +kernel
theorem dL_fits_145 : decode cL_fits 145 = .ok (.iconst 0, 1) := by decide +kernel
theorem dL_fits_146 : decode cL_fits 146 = .ok (.istore 8, 2) := by decide +kernel
theorem dL_fits_148 : decode cL_fits 148 = .ok (.iload 4, 2) := by decide +kernel
theorem dL_fits_150 : decode cL_fits 150 = .ok (.iload 8, 2) := by decide +kernel
theorem dL_fits_152 : decode cL_fits 152 = .ok (.ifCond .eq 7, 3) := by decide +kernel
theorem dL_fits_155 : decode cL_fits 155 = .ok (.iconst 1, 1) := by decide +kernel
theorem dL_fits_156 : decode cL_fits 156 = .ok (.goto 4, 3) := by decide +kernel
theorem dL_fits_159 : decode cL_fits 159 = .ok (.iconst 0, 1) := by decide +kernel
theorem dL_fits_160 : decode cL_fits 160 = .ok (.iadd, 1) := by decide +kernel
theorem dL_fits_161 : decode cL_fits 161 = .ok (.istore 4, 2) := by decide +kernel
theorem dL_fits_163 : decode cL_fits 163 = .ok (.iload 8, 2) := by decide +kernel
theorem dL_fits_165 : decode cL_fits 165 = .ok (.ifCond .eq 8, 3) := by decide +kernel
theorem dL_fits_168 : decode cL_fits 168 = .ok (.iload 6, 2) := by decide +kernel
theorem dL_fits_170 : decode cL_fits 170 = .ok (.goto 5, 3) := by decide +kernel
theorem dL_fits_173 : decode cL_fits 173 = .ok (.iload 5, 2) := by decide +kernel
theorem dL_fits_175 : decode cL_fits 175 = .ok (.istore 5, 2) := by decide +kernel
theorem dL_fits_177 : decode cL_fits 177 = .ok (.iload_n 2, 1) := by decide +kernel
theorem dL_fits_178 : decode cL_fits 178 = .ok (.ifCond .eq 27, 3) := by decide +kernel
theorem dL_fits_181 : decode cL_fits 181 = .ok (.iload 8, 2) := by decide +kernel
theorem dL_fits_183 : decode cL_fits 183 = .ok (.aload_n 0, 1) := by decide +kernel
theorem dL_fits_184 : decode cL_fits 184 = .ok (.iload 6, 2) := by decide +kernel
theorem dL_fits_186 : decode cL_fits 186 = .ok (.iload_n 3, 1) := by decide +kernel
theorem dL_fits_187 : decode cL_fits 187 = .ok (.invokevirtual 72, 3) := by decide +kernel
theorem dL_fits_190 : decode cL_fits 190 = .ok (.ifCond .ne 7, 3) := by decide +kernel
theorem dL_fits_193 : decode cL_fits 193 = .ok (.iconst 1, 1) := by decide +kernel
theorem dL_fits_194 : decode cL_fits 194 = .ok (.goto 4, 3) := by decide +kernel
theorem dL_fits_197 : decode cL_fits 197 = .ok (.iconst 0, 1) := by decide +kernel
theorem dL_fits_198 : decode cL_fits 198 = .ok (.if_icmp .ne 7, 3) := by decide +kernel
theorem dL_fits_201 : decode cL_fits 201 = .ok (.iconst 1, 1) := by decide +kernel
theorem dL_fits_202 : decode cL_fits 202 = .ok (.goto 4, 3) := by decide +kernel
theorem dL_fits_205 : decode cL_fits 205 = .ok (.iconst 0, 1) := by decide +kernel
theorem dL_fits_206 : decode cL_fits 206 = .ok (.istore_n 2, 1) := by decide +kernel
theorem dL_fits_207 : decode cL_fits 207 = .ok (.iinc 6 (-1), 3) := by decide +kernel
theorem dL_fits_210 : decode cL_fits 210 = .ok (.goto (-140), 3) := by decide +kernel
theorem dL_fits_213 : decode cL_fits 213 = .ok (.iload_n 2, 1) := by decide +kernel
theorem dL_fits_214 : decode cL_fits 214 = .ok (.ifCond .eq 29, 3) := by decide +kernel
theorem dL_fits_217 : decode cL_fits 217 = .ok (.aload_n 0, 1) := by decide +kernel
theorem dL_fits_218 : decode cL_fits 218 = .ok (.iload_n 3, 1) := by decide +kernel
theorem dL_fits_219 : decode cL_fits 219 = .ok (.iconst 4, 1) := by decide +kernel
theorem dL_fits_220 : decode cL_fits 220 = .ok (.invokevirtual 29, 3) := by decide +kernel
theorem dL_fits_223 : decode cL_fits 223 = .ok (.iload 5, 2) := by decide +kernel
theorem dL_fits_225 : decode cL_fits 225 = .ok (.if_icmp .ne 18, 3) := by decide +kernel
theorem dL_fits_228 : decode cL_fits 228 = .ok (.aload_n 0, 1) := by decide +kernel
theorem dL_fits_229 : decode cL_fits 229 = .ok (.iload_n 3, 1) := by decide +kernel
theorem dL_fits_230 : decode cL_fits 230 = .ok (.iconst 5, 1) := by decide +kernel
theorem dL_fits_231 : decode cL_fits 231 = .ok (.invokevirtual 29, 3) := by decide +kernel
theorem dL_fits_234 : decode cL_fits 234 = .ok (.iload 4, 2) := by decide +kernel
theorem dL_fits_236 : decode cL_fits 236 = .ok (.if_icmp .ne 7, 3) := by decide +kernel
theorem dL_fits_239 : decode cL_fits 239 = .ok (.iconst 1, 1) := by decide +kernel
theorem dL_fits_240 : decode cL_fits 240 = .ok (.goto 4, 3) := by decide +kernel
theorem dL_fits_243 : decode cL_fits 243 = .ok (.iconst 0, 1) := by decide +kernel
theorem dL_fits_244 : decode cL_fits 244 = .ok (.istore_n 2, 1) := by decide +kernel
theorem dL_fits_245 : decode cL_fits 245 = .ok (.iinc 3 1, 3) := by decide +kernel
theorem dL_fits_248 : decode cL_fits 248 = .ok (.goto (-224), 3) := by decide +kernel
theorem dL_fits_251 : decode cL_fits 251 = .ok (.iload_n 2, 1) := by decide +kernel
theorem dL_fits_252 : decode cL_fits 252 = .ok (.ifCond .eq 23, 3) := by decide +kernel
theorem dL_fits_255 : decode cL_fits 255 = .ok (.aload_n 0, 1) := by decide +kernel
theorem dL_fits_256 : decode cL_fits 256 = .ok (.bipush 6, 2) := by decide +kernel
theorem dL_fits_258 : decode cL_fits 258 = .ok (.invokevirtual 13, 3) := by decide +kernel
theorem dL_fits_261 : decode cL_fits 261 = .ok (.iload_n 1, 1) := by decide +kernel
theorem dL_fits_262 : decode cL_fits 262 = .ok (.if_icmp .ne 13, 3) := by decide +kernel
theorem dL_fits_265 : decode cL_fits 265 = .ok (.iload_n 1, 1) := by decide +kernel
theorem dL_fits_266 : decode cL_fits 266 = .ok (.bipush 8, 2) := by decide +kernel
theorem dL_fits_268 : decode cL_fits 268 = .ok (.if_icmp .gt 7, 3) := by decide +kernel
theorem dL_fits_271 : decode cL_fits 271 = .ok (.iconst 1, 1) := by decide +kernel
theorem dL_fits_272 : decode cL_fits 272 = .ok (.goto 4, 3) := by decide +kernel
theorem dL_fits_275 : decode cL_fits 275 = .ok (.iconst 0, 1) := by decide +kernel
theorem dL_fits_276 : decode cL_fits 276 = .ok (.ireturn, 1) := by decide +kernel
theorem dL_comesTrue_0 : decode cL_comesTrue 0 = .ok (.aload_n 0, 1) := by decide +kernel
theorem dL_comesTrue_1 : decode cL_comesTrue 1 = .ok (.iconst 5, 1) := by decide +kernel
theorem dL_comesTrue_2 : decode cL_comesTrue 2 = .ok (.invokevirtual 13, 3) := by decide +kernel
theorem dL_comesTrue_5 : decode cL_comesTrue 5 = .ok (.ifCond .eq 11, 3) := by decide +kernel
theorem dL_comesTrue_8 : decode cL_comesTrue 8 = .ok (.aload_n 0, 1) := by decide +kernel
theorem dL_comesTrue_9 : decode cL_comesTrue 9 = .ok (.iconst 1, 1) := by decide +kernel
theorem dL_comesTrue_10 : decode cL_comesTrue 10 = .ok (.invokevirtual 13, 3) := by decide +kernel
theorem dL_comesTrue_13 : decode cL_comesTrue 13 = .ok (.ifCond .ne 5, 3) := by decide +kernel
theorem dL_comesTrue_16 : decode cL_comesTrue 16 = .ok (.iconst 1, 1) := by decide +kernel
theorem dL_comesTrue_17 : decode cL_comesTrue 17 = .ok (.ireturn, 1) := by decide +kernel
theorem dL_comesTrue_18 : decode cL_comesTrue 18 = .ok (.aload_n 0, 1) := by decide +kernel
theorem dL_comesTrue_19 : decode cL_comesTrue 19 = .ok (.invokestatic 32, 3) := by decide +kernel
theorem dL_comesTrue_22 : decode cL_comesTrue 22 = .ok (.lstore_n 2, 1) := by decide +kernel
theorem dL_comesTrue_23 : decode cL_comesTrue 23 = .ok (.iload_n 1, 1) := by decide +kernel
theorem dL_comesTrue_24 : decode cL_comesTrue 24 = .ok (.aload_n 0, 1) := by decide +kernel
theorem dL_comesTrue_25 : decode cL_comesTrue 25 = .ok (.iconst 5, 1) := by decide +kernel
theorem dL_comesTrue_26 : decode cL_comesTrue 26 = .ok (.invokevirtual 13, 3) := by decide +kernel
theorem dL_comesTrue_29 : decode cL_comesTrue 29 = .ok (.invokestatic 96, 3) := by decide +kernel
theorem dL_comesTrue_32 : decode cL_comesTrue 32 = .ok (.istore 4, 2) := by decide +kernel
theorem dL_comesTrue_34 : decode cL_comesTrue 34 = .ok (.iload_n 1, 1) := by decide +kernel
theorem dL_comesTrue_35 : decode cL_comesTrue 35 = .ok (.iconst 4, 1) := by decide +kernel
theorem dL_comesTrue_36 : decode cL_comesTrue 36 = .ok (.ishr, 1) := by decide +kernel
theorem dL_comesTrue_37 : decode cL_comesTrue 37 = .ok (.aload_n 0, 1) := by decide +kernel
theorem dL_comesTrue_38 : decode cL_comesTrue 38 = .ok (.iconst 1, 1) := by decide +kernel
theorem dL_comesTrue_39 : decode cL_comesTrue 39 = .ok (.invokevirtual 13, 3) := by decide +kernel
theorem dL_comesTrue_42 : decode cL_comesTrue 42 = .ok (.invokestatic 96, 3) := by decide +kernel
theorem dL_comesTrue_45 : decode cL_comesTrue 45 = .ok (.istore 5, 2) := by decide +kernel
theorem dL_comesTrue_47 : decode cL_comesTrue 47 = .ok (.aload_n 0, 1) := by decide +kernel
theorem dL_comesTrue_48 : decode cL_comesTrue 48 = .ok (.iload 5, 2) := by decide +kernel
theorem dL_comesTrue_50 : decode cL_comesTrue 50 = .ok (.iload 4, 2) := by decide +kernel
theorem dL_comesTrue_52 : decode cL_comesTrue 52 = .ok (.invokevirtual 72, 3) := by decide +kernel
theorem dL_comesTrue_55 : decode cL_comesTrue 55 = .ok (.istore 6, 2) := by decide +kernel
theorem dL_comesTrue_57 : decode cL_comesTrue 57 = .ok (.iload 6, 2) := by decide +kernel
theorem dL_comesTrue_59 : decode cL_comesTrue 59 = .ok (.bipush (-2), 2) := by decide +kernel
theorem dL_comesTrue_61 : decode cL_comesTrue 61 = .ok (.if_icmp .ne 7, 3) := by decide +kernel
theorem dL_comesTrue_64 : decode cL_comesTrue 64 = .ok (.iconst 1, 1) := by decide +kernel
theorem dL_comesTrue_65 : decode cL_comesTrue 65 = .ok (.goto 4, 3) := by decide +kernel
theorem dL_comesTrue_68 : decode cL_comesTrue 68 = .ok (.iconst 0, 1) := by decide +kernel
theorem dL_comesTrue_69 : decode cL_comesTrue 69 = .ok (.aload_n 0, 1) := by decide +kernel
theorem dL_comesTrue_70 : decode cL_comesTrue 70 = .ok (.iload 5, 2) := by decide +kernel
theorem dL_comesTrue_72 : decode cL_comesTrue 72 = .ok (.bipush 8, 2) := by decide +kernel
