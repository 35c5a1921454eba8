theorem dX9_init_126 : decode cX9_init 126 = .ok (.getfield 48, 3) := by decide +kernel
theorem dX9_init_129 : decode cX9_init 129 = .ok (.arraylength, 1) := by decide +kernel
theorem dX9_init_130 : decode cX9_init 130 = .ok (.if_icmp .ge 22, 3) := by decide +kernel
theorem dX9_init_133 : decode cX9_init 133 = .ok (.aload_n 0, 1) := by decide +kernel
theorem dX9_init_134 : decode cX9_init 134 = .ok (.getfield 48, 3) := by decide +kernel
theorem dX9_init_137 : decode cX9_init 137 = .ok (.iload_n 1, 1) := by decide +kernel
theorem dX9_init_138 : decode cX9_init 138 = .ok (.new 46, 3) := by decide +kernel
theorem dX9_init_141 : decode cX9_init 141 = .ok (.dup, 1) := by decide +kernel
theorem dX9_init_142 : decode cX9_init 142 = .ok (.invokespecial 71, 3) := by decide +kernel
theorem dX9_init_145 : decode cX9_init 145 = .ok (.aastore, 1) := by decide +kernel
theorem dX9_init_146 : decode cX9_init 146 = .ok (.iinc 1 1, 3) := by decide +kernel
theorem dX9_init_149 : decode cX9_init 149 = .ok (.goto (-25), 3) := by decide +kernel
theorem dX9_init_152 : decode cX9_init 152 = .ok (.iconst 0, 1) := by decide +kernel
theorem dX9_init_153 : decode cX9_init 153 = .ok (.istore_n 1, 1) := by decide +kernel
theorem dX9_init_154 : decode cX9_init 154 = .ok (.iload_n 1, 1) := by decide +kernel
theorem dX9_init_155 : decode cX9_init 155 = .ok (.aload_n 0, 1) := by decide +kernel
theorem dX9_init_156 : decode cX9_init 156 = .ok (.getfield 54, 3) := by decide +kernel
theorem dX9_init_159 : decode cX9_init 159 = .ok (.arraylength, 1) := by decide +kernel
theorem dX9_init_160 : decode cX9_init 160 = .ok (.if_icmp .ge 22, 3) := by decide +kernel
theorem dX9_init_163 : decode cX9_init 163 = .ok (.aload_n 0, 1) := by decide +kernel
theorem dX9_init_164 : decode cX9_init 164 = .ok (.getfield 54, 3) := by decide +kernel
theorem dX9_init_167 : decode cX9_init 167 = .ok (.iload_n 1, 1) := by decide +kernel
theorem dX9_init_168 : decode cX9_init 168 = .ok (.new 52, 3) := by decide +kernel
theorem dX9_init_171 : decode cX9_init 171 = .ok (.dup, 1) := by decide +kernel
theorem dX9_init_172 : decode cX9_init 172 = .ok (.invokespecial 72, 3) := by decide +kernel
theorem dX9_init_175 : decode cX9_init 175 = .ok (.aastore, 1) := by decide +kernel
theorem dX9_init_176 : decode cX9_init 176 = .ok (.iinc 1 1, 3) := by decide +kernel
theorem dX9_init_179 : decode cX9_init 179 = .ok (.goto (-25), 3) := by decide +kernel
theorem dX9_init_182 : decode cX9_init 182 = .ok (.return_, 1) := by decide +kernel
theorem dX9_copyFrom_0 : decode cX9_copyFrom 0 = .ok (.aload_n 0, 1) := by decide +kernel
theorem dX9_copyFrom_1 : decode cX9_copyFrom 1 = .ok (.getfield 12, 3) := by decide +kernel
theorem dX9_copyFrom_4 : decode cX9_copyFrom 4 = .ok (.aload_n 1, 1) := by decide +kernel
theorem dX9_copyFrom_5 : decode cX9_copyFrom 5 = .ok (.getfield 12, 3) := by decide +kernel
theorem dX9_copyFrom_8 : decode cX9_copyFrom 8 = .ok (.invokevirtual 73, 3) := by decide +kernel
theorem dX9_copyFrom_11 : decode cX9_copyFrom 11 = .ok (.aload_n 0, 1) := by decide +kernel
theorem dX9_copyFrom_12 : decode cX9_copyFrom 12 = .ok (.getfield 18, 3) := by decide +kernel
theorem dX9_copyFrom_15 : decode cX9_copyFrom 15 = .ok (.aload_n 1, 1) := by decide +kernel
theorem dX9_copyFrom_16 : decode cX9_copyFrom 16 = .ok (.getfield 18, 3) := by decide +kernel
theorem dX9_copyFrom_19 : decode cX9_copyFrom 19 = .ok (.invokevirtual 73, 3) := by decide +kernel
theorem dX9_copyFrom_22 : decode cX9_copyFrom 22 = .ok (.aload_n 0, 1) := by decide +kernel
theorem dX9_copyFrom_23 : decode cX9_copyFrom 23 = .ok (.getfield 21, 3) := by decide +kernel
theorem dX9_copyFrom_26 : decode cX9_copyFrom 26 = .ok (.aload_n 1, 1) := by decide +kernel
theorem dX9_copyFrom_27 : decode cX9_copyFrom 27 = .ok (.getfield 21, 3) := by decide +kernel
theorem dX9_copyFrom_30 : decode cX9_copyFrom 30 = .ok (.invokevirtual 73, 3) := by decide +kernel
theorem dX9_copyFrom_33 : decode cX9_copyFrom 33 = .ok (.aload_n 0, 1) := by decide +kernel
theorem dX9_copyFrom_34 : decode cX9_copyFrom 34 = .ok (.getfield 24, 3) := by decide +kernel
theorem dX9_copyFrom_37 : decode cX9_copyFrom 37 = .ok (.aload_n 1, 1) := by decide +kernel
theorem dX9_copyFrom_38 : decode cX9_copyFrom 38 = .ok (.getfield 24, 3) := by decide +kernel
theorem dX9_copyFrom_41 : decode cX9_copyFrom 41 = .ok (.invokevirtual 73, 3) := by decide +kernel
theorem dX9_copyFrom_44 : decode cX9_copyFrom 44 = .ok (.aload_n 0, 1) := by decide +kernel
theorem dX9_copyFrom_45 : decode cX9_copyFrom 45 = .ok (.getfield 30, 3) := by decide +kernel
theorem dX9_copyFrom_48 : decode cX9_copyFrom 48 = .ok (.aload_n 1, 1) := by decide +kernel
theorem dX9_copyFrom_49 : decode cX9_copyFrom 49 = .ok (.getfield 30, 3) := by decide +kernel
theorem dX9_copyFrom_52 : decode cX9_copyFrom 52 = .ok (.invokevirtual 77, 3) := by decide +kernel
theorem dX9_copyFrom_55 : decode cX9_copyFrom 55 = .ok (.aload_n 1, 1) := by decide +kernel
theorem dX9_copyFrom_56 : decode cX9_copyFrom 56 = .ok (.getfield 43, 3) := by decide +kernel
theorem dX9_copyFrom_59 : decode cX9_copyFrom 59 = .ok (.iconst 0, 1) := by decide +kernel
theorem dX9_copyFrom_60 : decode cX9_copyFrom 60 = .ok (.aload_n 0, 1) := by decide +kernel
theorem dX9_copyFrom_61 : decode cX9_copyFrom 61 = .ok (.getfield 43, 3) := by decide +kernel
theorem dX9_copyFrom_64 : decode cX9_copyFrom 64 = .ok (.iconst 0, 1) := by decide +kernel
theorem dX9_copyFrom_65 : decode cX9_copyFrom 65 = .ok (.aload_n 0, 1) := by decide +kernel
theorem dX9_copyFrom_66 : decode cX9_copyFrom 66 = .ok (.getfield 43, 3) := by decide +kernel
theorem dX9_copyFrom_69 : decode cX9_copyFrom 69 = .ok (.arraylength, 1) := by decide +kernel
theorem dX9_copyFrom_70 : decode cX9_copyFrom 70 = .ok (.invokestatic 80, 3) := by decide +kernel
theorem dX9_copyFrom_73 : decode cX9_copyFrom 73 = .ok (.aload_n 0, 1) := by decide +kernel
theorem dX9_copyFrom_74 : decode cX9_copyFrom 74 = .ok (.aload_n 1, 1) := by decide +kernel
theorem dX9_copyFrom_75 : decode cX9_copyFrom 75 = .ok (.getfield 58, 3) := by decide +kernel
theorem dX9_copyFrom_78 : decode cX9_copyFrom 78 = .ok (.putfield 58, 3) := by decide +kernel
theorem dX9_copyFrom_81 : decode cX9_copyFrom 81 = .ok (.iconst 0, 1) := by decide +kernel
theorem dX9_copyFrom_82 : decode cX9_copyFrom 82 = .ok (.istore_n 2, 1) := by decide +kernel
theorem dX9_copyFrom_83 : decode cX9_copyFrom 83 = .ok (.iload_n 2, 1) := by decide +kernel
theorem dX9_copyFrom_84 : decode cX9_copyFrom 84 = .ok (.aload_n 0, 1) := by decide +kernel
theorem dX9_copyFrom_85 : decode cX9_copyFrom 85 = .ok (.getfield 58, 3) := by decide +kernel
theorem dX9_copyFrom_88 : decode cX9_copyFrom 88 = .ok (.if_icmp .ge 24, 3) := by decide +kernel
theorem dX9_copyFrom_91 : decode cX9_copyFrom 91 = .ok (.aload_n 0, 1) := by decide +kernel
theorem dX9_copyFrom_92 : decode cX9_copyFrom 92 = .ok (.getfield 48, 3) := by decide +kernel
theorem dX9_copyFrom_95 : decode cX9_copyFrom 95 = .ok (.iload_n 2, 1) := by decide +kernel
theorem dX9_copyFrom_96 : decode cX9_copyFrom 96 = .ok (.aaload, 1) := by decide +kernel
theorem dX9_copyFrom_97 : decode cX9_copyFrom 97 = .ok (.aload_n 1, 1) := by decide +kernel
theorem dX9_copyFrom_98 : decode cX9_copyFrom 98 = .ok (.getfield 48, 3) := by decide +kernel
theorem dX9_copyFrom_101 : decode cX9_copyFrom 101 = .ok (.iload_n 2, 1) := by decide +kernel
theorem dX9_copyFrom_102 : decode cX9_copyFrom 102 = .ok (.aaload, 1) := by decide +kernel
theorem dX9_copyFrom_103 : decode cX9_copyFrom 103 = .ok (.invokevirtual 86, 3) := by decide +kernel
theorem dX9_copyFrom_106 : decode cX9_copyFrom 106 = .ok (.iinc 2 1, 3) := by decide +kernel
theorem dX9_copyFrom_109 : decode cX9_copyFrom 109 = .ok (.goto (-26), 3) := by decide +kernel
theorem dX9_copyFrom_112 : decode cX9_copyFrom 112 = .ok (.aload_n 0, 1) := by decide +kernel
theorem dX9_copyFrom_113 : decode cX9_copyFrom 113 = .ok (.aload_n 1, 1) := by decide +kernel
theorem dX9_copyFrom_114 : decode cX9_copyFrom 114 = .ok (.getfield 62, 3) := by decide +kernel
theorem dX9_copyFrom_117 : decode cX9_copyFrom 117 = .ok (.putfield 62, 3) := by decide +kernel
theorem dX9_copyFrom_120 : decode cX9_copyFrom 120 = .ok (.iconst 0, 1) := by decide +kernel
theorem dX9_copyFrom_121 : decode cX9_copyFrom 121 = .ok (.istore_n 2, 1) := by decide +kernel
theorem dX9_copyFrom_122 : decode cX9_copyFrom 122 = .ok (.iload_n 2, 1) := by decide +kernel
theorem dX9_copyFrom_123 : decode cX9_copyFrom 123 = .ok (.aload_n 0, 1) := by decide +kernel
theorem dX9_copyFrom_124 : decode cX9_copyFrom 124 = .ok (.getfield 62, 3) := by decide +kernel
theorem dX9_copyFrom_127 : decode cX9_copyFrom 127 = .ok (.if_icmp .ge 24, 3) := by decide +kernel
theorem dX9_copyFrom_130 : decode cX9_copyFrom 130 = .ok (.aload_n 0, 1) := by decide +kernel
theorem dX9_copyFrom_131 : decode cX9_copyFrom 131 = .ok (.getfield 54, 3) := by decide +kernel
theorem dX9_copyFrom_134 : decode cX9_copyFrom 134 = .ok (.iload_n 2, 1) := by decide +kernel
theorem dX9_copyFrom_135 : decode cX9_copyFrom 135 = .ok (.aaload, 1) := by decide +kernel
theorem dX9_copyFrom_136 : decode cX9_copyFrom 136 = .ok (.aload_n 1, 1) := by decide +kernel
theorem dX9_copyFrom_137 : decode cX9_copyFrom 137 = .ok (.getfield 54, 3) := by decide +kernel
theorem dX9_copyFrom_140 : decode cX9_copyFrom 140 = .ok (.iload_n 2, 1) := by decide +kernel
theorem dX9_copyFrom_141 : decode cX9_copyFrom 141 = .ok (.aaload, 1) := by decide +kernel
theorem dX9_copyFrom_142 : decode cX9_copyFrom 142 = .ok (.invokevirtual 89, 3) := by decide +kernel
theorem dX9_copyFrom_145 : decode cX9_copyFrom 145 = .ok (.iinc 2 1, 3) := by decide +kernel
theorem dX9_copyFrom_148 : decode cX9_copyFrom 148 = .ok (.goto (-26), 3) := by decide +kernel
theorem dX9_copyFrom_151 : decode cX9_copyFrom 151 = .ok (.return_, 1) := by decide +kernel
theorem dX9_bellAt_0 : decode cX9_bellAt 0 = .ok (.iload_n 1, 1) := by decide +kernel
theorem dX9_bellAt_1 : decode cX9_bellAt 1 = .ok (.iconst 0, 1) := by decide +kernel
theorem dX9_bellAt_2 : decode cX9_bellAt 2 = .ok (.aload_n 0, 1) := by decide +kernel
theorem dX9_bellAt_3 : decode cX9_bellAt 3 = .ok (.getfield 58, 3) := by decide +kernel
theorem dX9_bellAt_6 : decode cX9_bellAt 6 = .ok (.iconst 1, 1) := by decide +kernel
theorem dX9_bellAt_7 : decode cX9_bellAt 7 = .ok (.isub, 1) := by decide +kernel
theorem dX9_bellAt_8 : decode cX9_bellAt 8 = .ok (.invokestatic 92, 3) := by decide +kernel
theorem dX9_bellAt_11 : decode cX9_bellAt 11 = .ok (.ifCond .eq 12, 3) := by decide +kernel
theorem dX9_bellAt_14 : decode cX9_bellAt 14 = .ok (.aload_n 0, 1) := by decide +kernel
theorem dX9_bellAt_15 : decode cX9_bellAt 15 = .ok (.getfield 48, 3) := by decide +kernel
theorem dX9_bellAt_18 : decode cX9_bellAt 18 = .ok (.iload_n 1, 1) := by decide +kernel
theorem dX9_bellAt_19 : decode cX9_bellAt 19 = .ok (.aaload, 1) := by decide +kernel
theorem dX9_bellAt_20 : decode cX9_bellAt 20 = .ok (.goto 4, 3) := by decide +kernel
theorem dX9_bellAt_23 : decode cX9_bellAt 23 = .ok (.aconst_null, 1) := by decide +kernel
theorem dX9_bellAt_24 : decode cX9_bellAt 24 = .ok (.areturn, 1) := by decide +kernel
theorem dX9_orderAt_0 : decode cX9_orderAt 0 = .ok (.iload_n 1, 1) := by decide +kernel
theorem dX9_orderAt_1 : decode cX9_orderAt 1 = .ok (.iconst 0, 1) := by decide +kernel
theorem dX9_orderAt_2 : decode cX9_orderAt 2 = .ok (.aload_n 0, 1) := by decide +kernel
theorem dX9_orderAt_3 : decode cX9_orderAt 3 = .ok (.getfield 62, 3) := by decide +kernel
theorem dX9_orderAt_6 : decode cX9_orderAt 6 = .ok (.iconst 1, 1) := by decide +kernel
theorem dX9_orderAt_7 : decode cX9_orderAt 7 = .ok (.isub, 1) := by decide +kernel
theorem dX9_orderAt_8 : decode cX9_orderAt 8 = .ok (.invokestatic 92, 3) := by decide +kernel
theorem dX9_orderAt_11 : decode cX9_orderAt 11 = .ok (.ifCond .eq 12, 3) := by decide +kernel
theorem dX9_orderAt_14 : decode cX9_orderAt 14 = .ok (.aload_n 0, 1) := by decide +kernel
theorem dX9_orderAt_15 : decode cX9_orderAt 15 = .ok (.getfield 54, 3) := by decide +kernel
theorem dX9_orderAt_18 : decode cX9_orderAt 18 = .ok (.iload_n 1, 1) := by decide +kernel
theorem dX9_orderAt_19 : decode cX9_orderAt 19 = .ok (.aaload, 1) := by decide +kernel
theorem dX9_orderAt_20 : decode cX9_orderAt 20 = .ok (.goto 4, 3) := by decide +kernel
theorem dX9_orderAt_23 : decode cX9_orderAt 23 = .ok (.aconst_null, 1) := by decide +kernel
theorem dX9_orderAt_24 : decode cX9_orderAt 24 = .ok (.areturn, 1) := by decide +kernel
theorem dX9_meltDown_0 : decode cX9_meltDown 0 = .ok (.aload_n 1, 1) := by decide +kernel
theorem dX9_meltDown_1 : decode cX9_meltDown 1 = .ok (.getfield 96, 3) := by decide +kernel
theorem dX9_meltDown_4 : decode cX9_meltDown 4 = .ok (.iconst 1, 1) := by decide +kernel
theorem dX9_meltDown_5 : decode cX9_meltDown 5 = .ok (.if_icmp .ne 11, 3) := by decide +kernel
theorem dX9_meltDown_8 : decode cX9_meltDown 8 = .ok (.aload_n 0, 1) := by decide +kernel
theorem dX9_meltDown_9 : decode cX9_meltDown 9 = .ok (.aload_n 1, 1) := by decide +kernel
theorem dX9_meltDown_10 : decode cX9_meltDown 10 = .ok (.getfield 101, 3) := by decide +kernel
theorem dX9_meltDown_13 : decode cX9_meltDown 13 = .ok (.invokevirtual 104, 3) := by decide +kernel
theorem dX9_meltDown_16 : decode cX9_meltDown 16 = .ok (.aload_n 0, 1) := by decide +kernel
theorem dX9_meltDown_17 : decode cX9_meltDown 17 = .ok (.getfield 24, 3) := by decide +kernel
theorem dX9_meltDown_20 : decode cX9_meltDown 20 = .ok (.aload_n 1, 1) := by decide +kernel
theorem dX9_meltDown_21 : decode cX9_meltDown 21 = .ok (.getfield 101, 3) := by decide +kernel
theorem dX9_meltDown_24 : decode cX9_meltDown 24 = .ok (.invokevirtual 107, 3) := by decide +kernel
theorem dX9_meltDown_27 : decode cX9_meltDown 27 = .ok (.return_, 1) := by decide +kernel
theorem dX9_burn_0 : decode cX9_burn 0 = .ok (.iconst 0, 1) := by decide +kernel
theorem dX9_burn_1 : decode cX9_burn 1 = .ok (.istore_n 2, 1) := by decide +kernel
theorem dX9_burn_2 : decode cX9_burn 2 = .ok (.iload_n 2, 1) := by decide +kernel
theorem dX9_burn_3 : decode cX9_burn 3 = .ok (.iconst 1, 1) := by decide +kernel
theorem dX9_burn_4 : decode cX9_burn 4 = .ok (.if_icmp .gt 37, 3) := by decide +kernel
theorem dX9_burn_7 : decode cX9_burn 7 = .ok (.aload_n 1, 1) := by decide +kernel
theorem dX9_burn_8 : decode cX9_burn 8 = .ok (.iload_n 2, 1) := by decide +kernel
theorem dX9_burn_9 : decode cX9_burn 9 = .ok (.aload_n 0, 1) := by decide +kernel
theorem dX9_burn_10 : decode cX9_burn 10 = .ok (.getfield 43, 3) := by decide +kernel
theorem dX9_burn_13 : decode cX9_burn 13 = .ok (.iload_n 2, 1) := by decide +kernel
theorem dX9_burn_14 : decode cX9_burn 14 = .ok (.iaload, 1) := by decide +kernel
theorem dX9_burn_15 : decode cX9_burn 15 = .ok (.invokevirtual 110, 3) := by decide +kernel
theorem dX9_burn_18 : decode cX9_burn 18 = .ok (.istore_n 3, 1) := by decide +kernel
theorem dX9_burn_19 : decode cX9_burn 19 = .ok (.aload_n 1, 1) := by decide +kernel
theorem dX9_burn_20 : decode cX9_burn 20 = .ok (.iload_n 2, 1) := by decide +kernel
theorem dX9_burn_21 : decode cX9_burn 21 = .ok (.iload_n 3, 1) := by decide +kernel
theorem dX9_burn_22 : decode cX9_burn 22 = .ok (.ineg, 1) := by decide +kernel
theorem dX9_burn_23 : decode cX9_burn 23 = .ok (.invokevirtual 114, 3) := by decide +kernel
theorem dX9_burn_26 : decode cX9_burn 26 = .ok (.aload_n 0, 1) := by decide +kernel
theorem dX9_burn_27 : decode cX9_burn 27 = .ok (.getfield 21, 3) := by decide +kernel
theorem dX9_burn_30 : decode cX9_burn 30 = .ok (.iload_n 2, 1) := by decide +kernel
theorem dX9_burn_31 : decode cX9_burn 31 = .ok (.iload_n 3, 1) := by decide +kernel
theorem dX9_burn_32 : decode cX9_burn 32 = .ok (.invokevirtual 114, 3) := by decide +kernel
theorem dX9_burn_35 : decode cX9_burn 35 = .ok (.iinc 2 1, 3) := by decide +kernel
theorem dX9_burn_38 : decode cX9_burn 38 = .ok (.goto (-36), 3) := by decide +kernel
theorem dX9_burn_41 : decode cX9_burn 41 = .ok (.return_, 1) := by decide +kernel
theorem dX9_burntMelt_0 : decode cX9_burntMelt 0 = .ok (.aload_n 0, 1) := by decide +kernel
theorem dX9_burntMelt_1 : decode cX9_burntMelt 1 = .ok (.getfield 68, 3) := by decide +kernel
theorem dX9_burntMelt_4 : decode cX9_burntMelt 4 = .ok (.aload_n 0, 1) := by decide +kernel
theorem dX9_burntMelt_5 : decode cX9_burntMelt 5 = .ok (.getfield 24, 3) := by decide +kernel
theorem dX9_burntMelt_8 : decode cX9_burntMelt 8 = .ok (.invokevirtual 73, 3) := by decide +kernel
theorem dX9_burntMelt_11 : decode cX9_burntMelt 11 = .ok (.iconst 0, 1) := by decide +kernel
theorem dX9_burntMelt_12 : decode cX9_burntMelt 12 = .ok (.istore_n 1, 1) := by decide +kernel
theorem dX9_burntMelt_13 : decode cX9_burntMelt 13 = .ok (.iload_n 1, 1) := by decide +kernel
theorem dX9_burntMelt_14 : decode cX9_burntMelt 14 = .ok (.iconst 1, 1) := by decide +kernel
theorem dX9_burntMelt_15 : decode cX9_burntMelt 15 = .ok (.if_icmp .gt 32, 3) := by decide +kernel
theorem dX9_burntMelt_18 : decode cX9_burntMelt 18 = .ok (.aload_n 0, 1) := by decide +kernel
theorem dX9_burntMelt_19 : decode cX9_burntMelt 19 = .ok (.getfield 68, 3) := by decide +kernel
theorem dX9_burntMelt_22 : decode cX9_burntMelt 22 = .ok (.iload_n 1, 1) := by decide +kernel
theorem dX9_burntMelt_23 : decode cX9_burntMelt 23 = .ok (.aload_n 0, 1) := by decide +kernel
theorem dX9_burntMelt_24 : decode cX9_burntMelt 24 = .ok (.getfield 24, 3) := by decide +kernel
theorem dX9_burntMelt_27 : decode cX9_burntMelt 27 = .ok (.iload_n 1, 1) := by decide +kernel
theorem dX9_burntMelt_28 : decode cX9_burntMelt 28 = .ok (.aload_n 0, 1) := by decide +kernel
theorem dX9_burntMelt_29 : decode cX9_burntMelt 29 = .ok (.getfield 43, 3) := by decide +kernel
theorem dX9_burntMelt_32 : decode cX9_burntMelt 32 = .ok (.iload_n 1, 1) := by decide +kernel
theorem dX9_burntMelt_33 : decode cX9_burntMelt 33 = .ok (.iaload, 1) := by decide +kernel
theorem dX9_burntMelt_34 : decode cX9_burntMelt 34 = .ok (.invokevirtual 110, 3) := by decide +kernel
theorem dX9_burntMelt_37 : decode cX9_burntMelt 37 = .ok (.ineg, 1) := by decide +kernel
theorem dX9_burntMelt_38 : decode cX9_burntMelt 38 = .ok (.invokevirtual 114, 3) := by decide +kernel
theorem dX9_burntMelt_41 : decode cX9_burntMelt 41 = .ok (.iinc 1 1, 3) := by decide +kernel
theorem dX9_burntMelt_44 : decode cX9_burntMelt 44 = .ok (.goto (-31), 3) := by decide +kernel
theorem dX9_burntMelt_47 : decode cX9_burntMelt 47 = .ok (.aload_n 0, 1) := by decide +kernel
theorem dX9_burntMelt_48 : decode cX9_burntMelt 48 = .ok (.getfield 68, 3) := by decide +kernel
theorem dX9_burntMelt_51 : decode cX9_burntMelt 51 = .ok (.areturn, 1) := by decide +kernel
theorem dX9_sprueOf_0 : decode cX9_sprueOf 0 = .ok (.iload_n 1, 1) := by decide +kernel
theorem dX9_sprueOf_1 : decode cX9_sprueOf 1 = .ok (.aload_n 0, 1) := by decide +kernel
theorem dX9_sprueOf_2 : decode cX9_sprueOf 2 = .ok (.getfield 43, 3) := by decide +kernel
theorem dX9_sprueOf_5 : decode cX9_sprueOf 5 = .ok (.iconst 4, 1) := by decide +kernel
theorem dX9_sprueOf_6 : decode cX9_sprueOf 6 = .ok (.iaload, 1) := by decide +kernel
theorem dX9_sprueOf_7 : decode cX9_sprueOf 7 = .ok (.invokestatic 118, 3) := by decide +kernel
theorem dX9_sprueOf_10 : decode cX9_sprueOf 10 = .ok (.ireturn, 1) := by decide +kernel
theorem dX9_weightWithSprue_0 : decode cX9_weightWithSprue 0 = .ok (.iload_n 1, 1) := by decide +kernel
theorem dX9_weightWithSprue_1 : decode cX9_weightWithSprue 1 = .ok (.aload_n 0, 1) := by decide +kernel
theorem dX9_weightWithSprue_2 : decode cX9_weightWithSprue 2 = .ok (.iload_n 1, 1) := by decide +kernel
theorem dX9_weightWithSprue_3 : decode cX9_weightWithSprue 3 = .ok (.invokevirtual 121, 3) := by decide +kernel
theorem dX9_weightWithSprue_6 : decode cX9_weightWithSprue 6 = .ok (.iadd, 1) := by decide +kernel
theorem dX9_weightWithSprue_7 : decode cX9_weightWithSprue 7 = .ok (.ireturn, 1) := by decide +kernel
theorem dX9_castBell_0 : decode cX9_castBell 0 = .ok (.aload_n 0, 1) := by decide +kernel
theorem dX9_castBell_1 : decode cX9_castBell 1 = .ok (.aload_n 0, 1) := by decide +kernel
theorem dX9_castBell_2 : decode cX9_castBell 2 = .ok (.getfield 24, 3) := by decide +kernel
theorem dX9_castBell_5 : decode cX9_castBell 5 = .ok (.invokevirtual 104, 3) := by decide +kernel
theorem dX9_castBell_8 : decode cX9_castBell 8 = .ok (.aload_n 0, 1) := by decide +kernel
theorem dX9_castBell_9 : decode cX9_castBell 9 = .ok (.getfield 48, 3) := by decide +kernel
theorem dX9_castBell_12 : decode cX9_castBell 12 = .ok (.aload_n 0, 1) := by decide +kernel
theorem dX9_castBell_13 : decode cX9_castBell 13 = .ok (.getfield 58, 3) := by decide +kernel
theorem dX9_castBell_16 : decode cX9_castBell 16 = .ok (.aaload, 1) := by decide +kernel
theorem dX9_castBell_17 : decode cX9_castBell 17 = .ok (.astore_n 3, 1) := by decide +kernel
theorem dX9_castBell_18 : decode cX9_castBell 18 = .ok (.aload_n 0, 1) := by decide +kernel
theorem dX9_castBell_19 : decode cX9_castBell 19 = .ok (.getfield 24, 3) := by decide +kernel
theorem dX9_castBell_22 : decode cX9_castBell 22 = .ok (.aload_n 3, 1) := by decide +kernel
theorem dX9_castBell_23 : decode cX9_castBell 23 = .ok (.getfield 125, 3) := by decide +kernel
theorem dX9_castBell_26 : decode cX9_castBell 26 = .ok (.iload_n 2, 1) := by decide +kernel
theorem dX9_castBell_27 : decode cX9_castBell 27 = .ok (.invokevirtual 126, 3) := by decide +kernel
theorem dX9_castBell_30 : decode cX9_castBell 30 = .ok (.aload_n 0, 1) := by decide +kernel
theorem dX9_castBell_31 : decode cX9_castBell 31 = .ok (.getfield 24, 3) := by decide +kernel
theorem dX9_castBell_34 : decode cX9_castBell 34 = .ok (.aload_n 0, 1) := by decide +kernel
theorem dX9_castBell_35 : decode cX9_castBell 35 = .ok (.getfield 65, 3) := by decide +kernel
theorem dX9_castBell_38 : decode cX9_castBell 38 = .ok (.aload_n 0, 1) := by decide +kernel
theorem dX9_castBell_39 : decode cX9_castBell 39 = .ok (.iload_n 2, 1) := by decide +kernel
theorem dX9_castBell_40 : decode cX9_castBell 40 = .ok (.invokevirtual 121, 3) := by decide +kernel
theorem dX9_castBell_43 : decode cX9_castBell 43 = .ok (.invokevirtual 126, 3) := by decide +kernel
theorem dX9_castBell_46 : decode cX9_castBell 46 = .ok (.aload_n 0, 1) := by decide +kernel
theorem dX9_castBell_47 : decode cX9_castBell 47 = .ok (.getfield 30, 3) := by decide +kernel
theorem dX9_castBell_50 : decode cX9_castBell 50 = .ok (.aload_n 0, 1) := by decide +kernel
theorem dX9_castBell_51 : decode cX9_castBell 51 = .ok (.getfield 65, 3) := by decide +kernel
theorem dX9_castBell_54 : decode cX9_castBell 54 = .ok (.iconst 0, 1) := by decide +kernel
theorem dX9_castBell_55 : decode cX9_castBell 55 = .ok (.invokevirtual 130, 3) := by decide +kernel
theorem dX9_castBell_58 : decode cX9_castBell 58 = .ok (.aload_n 3, 1) := by decide +kernel
theorem dX9_castBell_59 : decode cX9_castBell 59 = .ok (.getfield 125, 3) := by decide +kernel
theorem dX9_castBell_62 : decode cX9_castBell 62 = .ok (.invokevirtual 133, 3) := by decide +kernel
theorem dX9_castBell_65 : decode cX9_castBell 65 = .ok (.istore 4, 2) := by decide +kernel
theorem dX9_castBell_67 : decode cX9_castBell 67 = .ok (.aload_n 3, 1) := by decide +kernel
theorem dX9_castBell_68 : decode cX9_castBell 68 = .ok (.iload_n 1, 1) := by decide +kernel
theorem dX9_castBell_69 : decode cX9_castBell 69 = .ok (.putfield 137, 3) := by decide +kernel
theorem dX9_castBell_72 : decode cX9_castBell 72 = .ok (.aload_n 3, 1) := by decide +kernel
theorem dX9_castBell_73 : decode cX9_castBell 73 = .ok (.iload_n 1, 1) := by decide +kernel
theorem dX9_castBell_74 : decode cX9_castBell 74 = .ok (.iload_n 2, 1) := by decide +kernel
theorem dX9_castBell_75 : decode cX9_castBell 75 = .ok (.invokestatic 140, 3) := by decide +kernel
theorem dX9_castBell_78 : decode cX9_castBell 78 = .ok (.iload 4, 2) := by decide +kernel
theorem dX9_castBell_80 : decode cX9_castBell 80 = .ok (.invokestatic 143, 3) := by decide +kernel
theorem dX9_castBell_83 : decode cX9_castBell 83 = .ok (.putfield 147, 3) := by decide +kernel
theorem dX9_castBell_86 : decode cX9_castBell 86 = .ok (.aload_n 3, 1) := by decide +kernel
theorem dX9_castBell_87 : decode cX9_castBell 87 = .ok (.iload_n 2, 1) := by decide +kernel
theorem dX9_castBell_88 : decode cX9_castBell 88 = .ok (.putfield 150, 3) := by decide +kernel
theorem dX9_castBell_91 : decode cX9_castBell 91 = .ok (.aload_n 3, 1) := by decide +kernel
theorem dX9_castBell_92 : decode cX9_castBell 92 = .ok (.iconst 0, 1) := by decide +kernel
theorem dX9_castBell_93 : decode cX9_castBell 93 = .ok (.putfield 153, 3) := by decide +kernel
theorem dX9_castBell_96 : decode cX9_castBell 96 = .ok (.aload_n 3, 1) := by decide +kernel
theorem dX9_castBell_97 : decode cX9_castBell 97 = .ok (.iload 4, 2) := by decide +kernel
theorem dX9_castBell_99 : decode cX9_castBell 99 = .ok (.aload_n 0, 1) := by decide +kernel
theorem dX9_castBell_100 : decode cX9_castBell 100 = .ok (.getfield 43, 3) := by decide +kernel
theorem dX9_castBell_103 : decode cX9_castBell 103 = .ok (.iconst 2, 1) := by decide +kernel
theorem dX9_castBell_104 : decode cX9_castBell 104 = .ok (.iaload, 1) := by decide +kernel
theorem dX9_castBell_105 : decode cX9_castBell 105 = .ok (.aload_n 0, 1) := by decide +kernel
theorem dX9_castBell_106 : decode cX9_castBell 106 = .ok (.getfield 43, 3) := by decide +kernel
theorem dX9_castBell_109 : decode cX9_castBell 109 = .ok (.iconst 3, 1) := by decide +kernel
theorem dX9_castBell_110 : decode cX9_castBell 110 = .ok (.iaload, 1) := by decide +kernel
theorem dX9_castBell_111 : decode cX9_castBell 111 = .ok (.invokestatic 92, 3) := by decide +kernel
theorem dX9_castBell_114 : decode cX9_castBell 114 = .ok (.ifCond .eq 7, 3) := by decide +kernel
theorem dX9_castBell_117 : decode cX9_castBell 117 = .ok (.iconst 0, 1) := by decide +kernel
theorem dX9_castBell_118 : decode cX9_castBell 118 = .ok (.goto 4, 3) := by decide +kernel
theorem dX9_castBell_121 : decode cX9_castBell 121 = .ok (.iconst 1, 1) := by decide +kernel
theorem dX9_castBell_122 : decode cX9_castBell 122 = .ok (.putfield 156, 3) := by decide +kernel
theorem dX9_castBell_125 : decode cX9_castBell 125 = .ok (.aload_n 3, 1) := by decide +kernel
theorem dX9_castBell_126 : decode cX9_castBell 126 = .ok (.iconst 0, 1) := by decide +kernel
theorem dX9_castBell_127 : decode cX9_castBell 127 = .ok (.putfield 159, 3) := by decide +kernel
theorem dX9_castBell_130 : decode cX9_castBell 130 = .ok (.aload_n 0, 1) := by decide +kernel
theorem dX9_castBell_131 : decode cX9_castBell 131 = .ok (.dup, 1) := by decide +kernel
theorem dX9_castBell_132 : decode cX9_castBell 132 = .ok (.getfield 58, 3) := by decide +kernel
theorem dX9_castBell_135 : decode cX9_castBell 135 = .ok (.iconst 1, 1) := by decide +kernel
theorem dX9_castBell_136 : decode cX9_castBell 136 = .ok (.iadd, 1) := by decide +kernel
theorem dX9_castBell_137 : decode cX9_castBell 137 = .ok (.putfield 58, 3) := by decide +kernel
theorem dX9_castBell_140 : decode cX9_castBell 140 = .ok (.aload_n 0, 1) := by decide +kernel
theorem dX9_castBell_141 : decode cX9_castBell 141 = .ok (.getfield 58, 3) := by decide +kernel
theorem dX9_castBell_144 : decode cX9_castBell 144 = .ok (.iconst 1, 1) := by decide +kernel
theorem dX9_castBell_145 : decode cX9_castBell 145 = .ok (.isub, 1) := by decide +kernel
theorem dX9_castBell_146 : decode cX9_castBell 146 = .ok (.ireturn, 1) := by decide +kernel
theorem dX9_shave_0 : decode cX9_shave 0 = .ok (.aload_n 1, 1) := by decide +kernel
theorem dX9_shave_1 : decode cX9_shave 1 = .ok (.aload_n 1, 1) := by decide +kernel
theorem dX9_shave_2 : decode cX9_shave 2 = .ok (.iload_n 2, 1) := by decide +kernel
theorem dX9_shave_3 : decode cX9_shave 3 = .ok (.aload_n 0, 1) := by decide +kernel
theorem dX9_shave_4 : decode cX9_shave 4 = .ok (.getfield 43, 3) := by decide +kernel
theorem dX9_shave_7 : decode cX9_shave 7 = .ok (.iconst 5, 1) := by decide +kernel
theorem dX9_shave_8 : decode cX9_shave 8 = .ok (.iaload, 1) := by decide +kernel
theorem dX9_shave_9 : decode cX9_shave 9 = .ok (.invokevirtual 162, 3) := by decide +kernel
theorem dX9_shave_12 : decode cX9_shave 12 = .ok (.putfield 147, 3) := by decide +kernel
theorem dX9_shave_15 : decode cX9_shave 15 = .ok (.aload_n 1, 1) := by decide +kernel
theorem dX9_shave_16 : decode cX9_shave 16 = .ok (.iload_n 2, 1) := by decide +kernel
theorem dX9_shave_17 : decode cX9_shave 17 = .ok (.invokevirtual 165, 3) := by decide +kernel
theorem dX9_shave_20 : decode cX9_shave 20 = .ok (.ifCond .eq 8, 3) := by decide +kernel
theorem dX9_shave_23 : decode cX9_shave 23 = .ok (.aload_n 1, 1) := by decide +kernel
theorem dX9_shave_24 : decode cX9_shave 24 = .ok (.iconst 1, 1) := by decide +kernel
theorem dX9_shave_25 : decode cX9_shave 25 = .ok (.putfield 156, 3) := by decide +kernel
theorem dX9_shave_28 : decode cX9_shave 28 = .ok (.aload_n 1, 1) := by decide +kernel
theorem dX9_shave_29 : decode cX9_shave 29 = .ok (.dup, 1) := by decide +kernel
theorem dX9_shave_30 : decode cX9_shave 30 = .ok (.getfield 153, 3) := by decide +kernel
theorem dX9_shave_33 : decode cX9_shave 33 = .ok (.iload_n 2, 1) := by decide +kernel
theorem dX9_shave_34 : decode cX9_shave 34 = .ok (.iadd, 1) := by decide +kernel
theorem dX9_shave_35 : decode cX9_shave 35 = .ok (.putfield 153, 3) := by decide +kernel
theorem dX9_shave_38 : decode cX9_shave 38 = .ok (.aload_n 1, 1) := by decide +kernel
theorem dX9_shave_39 : decode cX9_shave 39 = .ok (.getfield 125, 3) := by decide +kernel
theorem dX9_shave_42 : decode cX9_shave 42 = .ok (.aload_n 0, 1) := by decide +kernel
theorem dX9_shave_43 : decode cX9_shave 43 = .ok (.getfield 65, 3) := by decide +kernel
theorem dX9_shave_46 : decode cX9_shave 46 = .ok (.iload_n 2, 1) := by decide +kernel
theorem dX9_shave_47 : decode cX9_shave 47 = .ok (.invokevirtual 126, 3) := by decide +kernel
theorem dX9_shave_50 : decode cX9_shave 50 = .ok (.aload_n 0, 1) := by decide +kernel
theorem dX9_shave_51 : decode cX9_shave 51 = .ok (.getfield 30, 3) := by decide +kernel
theorem dX9_shave_54 : decode cX9_shave 54 = .ok (.aload_n 0, 1) := by decide +kernel
theorem dX9_shave_55 : decode cX9_shave 55 = .ok (.getfield 65, 3) := by decide +kernel
theorem dX9_shave_58 : decode cX9_shave 58 = .ok (.iconst 1, 1) := by decide +kernel
theorem dX9_shave_59 : decode cX9_shave 59 = .ok (.invokevirtual 130, 3) := by decide +kernel
theorem dX9_shave_62 : decode cX9_shave 62 = .ok (.return_, 1) := by decide +kernel
theorem dX9_breakUp_0 : decode cX9_breakUp 0 = .ok (.aload_n 0, 1) := by decide +kernel
theorem dX9_breakUp_1 : decode cX9_breakUp 1 = .ok (.getfield 30, 3) := by decide +kernel
theorem dX9_breakUp_4 : decode cX9_breakUp 4 = .ok (.aload_n 1, 1) := by decide +kernel
theorem dX9_breakUp_5 : decode cX9_breakUp 5 = .ok (.getfield 125, 3) := by decide +kernel
theorem dX9_breakUp_8 : decode cX9_breakUp 8 = .ok (.iconst 2, 1) := by decide +kernel
theorem dX9_breakUp_9 : decode cX9_breakUp 9 = .ok (.invokevirtual 130, 3) := by decide +kernel
theorem dX9_breakUp_12 : decode cX9_breakUp 12 = .ok (.aload_n 1, 1) := by decide +kernel
theorem dX9_breakUp_13 : decode cX9_breakUp 13 = .ok (.getfield 125, 3) := by decide +kernel
theorem dX9_breakUp_16 : decode cX9_breakUp 16 = .ok (.invokevirtual 169, 3) := by decide +kernel
theorem dX9_breakUp_19 : decode cX9_breakUp 19 = .ok (.aload_n 1, 1) := by decide +kernel
theorem dX9_breakUp_20 : decode cX9_breakUp 20 = .ok (.iconst 3, 1) := by decide +kernel
theorem dX9_breakUp_21 : decode cX9_breakUp 21 = .ok (.putfield 156, 3) := by decide +kernel
theorem dX9_breakUp_24 : decode cX9_breakUp 24 = .ok (.return_, 1) := by decide +kernel
theorem dX9_takeOrder_0 : decode cX9_takeOrder 0 = .ok (.aload_n 0, 1) := by decide +kernel
theorem dX9_takeOrder_1 : decode cX9_takeOrder 1 = .ok (.getfield 54, 3) := by decide +kernel
theorem dX9_takeOrder_4 : decode cX9_takeOrder 4 = .ok (.aload_n 0, 1) := by decide +kernel
theorem dX9_takeOrder_5 : decode cX9_takeOrder 5 = .ok (.getfield 62, 3) := by decide +kernel
theorem dX9_takeOrder_8 : decode cX9_takeOrder 8 = .ok (.aaload, 1) := by decide +kernel
theorem dX9_takeOrder_9 : decode cX9_takeOrder 9 = .ok (.astore 4, 2) := by decide +kernel
theorem dX9_takeOrder_11 : decode cX9_takeOrder 11 = .ok (.aload 4, 2) := by decide +kernel
theorem dX9_takeOrder_13 : decode cX9_takeOrder 13 = .ok (.iload_n 1, 1) := by decide +kernel
theorem dX9_takeOrder_14 : decode cX9_takeOrder 14 = .ok (.putfield 172, 3) := by decide +kernel
theorem dX9_takeOrder_17 : decode cX9_takeOrder 17 = .ok (.aload 4, 2) := by decide +kernel
theorem dX9_takeOrder_19 : decode cX9_takeOrder 19 = .ok (.iload_n 2, 1) := by decide +kernel
theorem dX9_takeOrder_20 : decode cX9_takeOrder 20 = .ok (.putfield 173, 3) := by decide +kernel
theorem dX9_takeOrder_23 : decode cX9_takeOrder 23 = .ok (.aload 4, 2) := by decide +kernel
theorem dX9_takeOrder_25 : decode cX9_takeOrder 25 = .ok (.iload_n 3, 1) := by decide +kernel
theorem dX9_takeOrder_26 : decode cX9_takeOrder 26 = .ok (.putfield 174, 3) := by decide +kernel
theorem dX9_takeOrder_29 : decode cX9_takeOrder 29 = .ok (.aload 4, 2) := by decide +kernel
theorem dX9_takeOrder_31 : decode cX9_takeOrder 31 = .ok (.iconst 0, 1) := by decide +kernel
theorem dX9_takeOrder_32 : decode cX9_takeOrder 32 = .ok (.putfield 177, 3) := by decide +kernel
theorem dX9_takeOrder_35 : decode cX9_takeOrder 35 = .ok (.aload_n 0, 1) := by decide +kernel
theorem dX9_takeOrder_36 : decode cX9_takeOrder 36 = .ok (.dup, 1) := by decide +kernel
theorem dX9_takeOrder_37 : decode cX9_takeOrder 37 = .ok (.getfield 62, 3) := by decide +kernel
theorem dX9_takeOrder_40 : decode cX9_takeOrder 40 = .ok (.iconst 1, 1) := by decide +kernel
theorem dX9_takeOrder_41 : decode cX9_takeOrder 41 = .ok (.iadd, 1) := by decide +kernel
theorem dX9_takeOrder_42 : decode cX9_takeOrder 42 = .ok (.putfield 62, 3) := by decide +kernel
theorem dX9_takeOrder_45 : decode cX9_takeOrder 45 = .ok (.aload_n 0, 1) := by decide +kernel
theorem dX9_takeOrder_46 : decode cX9_takeOrder 46 = .ok (.getfield 62, 3) := by decide +kernel
theorem dX9_takeOrder_49 : decode cX9_takeOrder 49 = .ok (.iconst 1, 1) := by decide +kernel
theorem dX9_takeOrder_50 : decode cX9_takeOrder 50 = .ok (.isub, 1) := by decide +kernel
theorem dX9_takeOrder_51 : decode cX9_takeOrder 51 = .ok (.ireturn, 1) := by decide +kernel
theorem dX9_bellsIn_0 : decode cX9_bellsIn 0 = .ok (.iconst 0, 1) := by decide +kernel
theorem dX9_bellsIn_1 : decode cX9_bellsIn 1 = .ok (.istore_n 2, 1) := by decide +kernel
theorem dX9_bellsIn_2 : decode cX9_bellsIn 2 = .ok (.iconst 0, 1) := by decide +kernel
theorem dX9_bellsIn_3 : decode cX9_bellsIn 3 = .ok (.istore_n 3, 1) := by decide +kernel
theorem dX9_bellsIn_4 : decode cX9_bellsIn 4 = .ok (.iload_n 3, 1) := by decide +kernel
theorem dX9_bellsIn_5 : decode cX9_bellsIn 5 = .ok (.aload_n 0, 1) := by decide +kernel
theorem dX9_bellsIn_6 : decode cX9_bellsIn 6 = .ok (.getfield 58, 3) := by decide +kernel
theorem dX9_bellsIn_9 : decode cX9_bellsIn 9 = .ok (.if_icmp .ge 25, 3) := by decide +kernel
theorem dX9_bellsIn_12 : decode cX9_bellsIn 12 = .ok (.aload_n 0, 1) := by decide +kernel
theorem dX9_bellsIn_13 : decode cX9_bellsIn 13 = .ok (.getfield 48, 3) := by decide +kernel
theorem dX9_bellsIn_16 : decode cX9_bellsIn 16 = .ok (.iload_n 3, 1) := by decide +kernel
theorem dX9_bellsIn_17 : decode cX9_bellsIn 17 = .ok (.aaload, 1) := by decide +kernel
theorem dX9_bellsIn_18 : decode cX9_bellsIn 18 = .ok (.getfield 156, 3) := by decide +kernel
theorem dX9_bellsIn_21 : decode cX9_bellsIn 21 = .ok (.iload_n 1, 1) := by decide +kernel
theorem dX9_bellsIn_22 : decode cX9_bellsIn 22 = .ok (.if_icmp .ne 6, 3) := by decide +kernel
theorem dX9_bellsIn_25 : decode cX9_bellsIn 25 = .ok (.iinc 2 1, 3) := by decide +kernel
theorem dX9_bellsIn_28 : decode cX9_bellsIn 28 = .ok (.iinc 3 1, 3) := by decide +kernel
theorem dX9_bellsIn_31 : decode cX9_bellsIn 31 = .ok (.goto (-27), 3) := by decide +kernel
theorem dX9_bellsIn_34 : decode cX9_bellsIn 34 = .ok (.iload_n 2, 1) := by decide +kernel
theorem dX9_bellsIn_35 : decode cX9_bellsIn 35 = .ok (.ireturn, 1) := by decide +kernel
theorem dX9_remainingBells_0 : decode cX9_remainingBells 0 = .ok (.aload_n 0, 1) := by decide +kernel
theorem dX9_remainingBells_1 : decode cX9_remainingBells 1 = .ok (.iconst 0, 1) := by decide +kernel
theorem dX9_remainingBells_2 : decode cX9_remainingBells 2 = .ok (.invokevirtual 178, 3) := by decide +kernel
theorem dX9_remainingBells_5 : decode cX9_remainingBells 5 = .ok (.aload_n 0, 1) := by decide +kernel
theorem dX9_remainingBells_6 : decode cX9_remainingBells 6 = .ok (.iconst 1, 1) := by decide +kernel
theorem dX9_remainingBells_7 : decode cX9_remainingBells 7 = .ok (.invokevirtual 178, 3) := by decide +kernel
theorem dX9_remainingBells_10 : decode cX9_remainingBells 10 = .ok (.iadd, 1) := by decide +kernel
theorem dX9_remainingBells_11 : decode cX9_remainingBells 11 = .ok (.ireturn, 1) := by decide +kernel
theorem dX9_inBells_0 : decode cX9_inBells 0 = .ok (.iconst 0, 1) := by decide +kernel
theorem dX9_inBells_1 : decode cX9_inBells 1 = .ok (.istore_n 3, 1) := by decide +kernel
theorem dX9_inBells_2 : decode cX9_inBells 2 = .ok (.iconst 0, 1) := by decide +kernel
theorem dX9_inBells_3 : decode cX9_inBells 3 = .ok (.istore 4, 2) := by decide +kernel
theorem dX9_inBells_5 : decode cX9_inBells 5 = .ok (.iload 4, 2) := by decide +kernel
theorem dX9_inBells_7 : decode cX9_inBells 7 = .ok (.aload_n 0, 1) := by decide +kernel
theorem dX9_inBells_8 : decode cX9_inBells 8 = .ok (.getfield 58, 3) := by decide +kernel
theorem dX9_inBells_11 : decode cX9_inBells 11 = .ok (.if_icmp .ge 40, 3) := by decide +kernel
theorem dX9_inBells_14 : decode cX9_inBells 14 = .ok (.aload_n 0, 1) := by decide +kernel
theorem dX9_inBells_15 : decode cX9_inBells 15 = .ok (.getfield 48, 3) := by decide +kernel
theorem dX9_inBells_18 : decode cX9_inBells 18 = .ok (.iload 4, 2) := by decide +kernel
theorem dX9_inBells_20 : decode cX9_inBells 20 = .ok (.aaload, 1) := by decide +kernel
theorem dX9_inBells_21 : decode cX9_inBells 21 = .ok (.getfield 156, 3) := by decide +kernel
theorem dX9_inBells_24 : decode cX9_inBells 24 = .ok (.iload_n 2, 1) := by decide +kernel
theorem dX9_inBells_25 : decode cX9_inBells 25 = .ok (.if_icmp .ne 20, 3) := by decide +kernel
theorem dX9_inBells_28 : decode cX9_inBells 28 = .ok (.iload_n 3, 1) := by decide +kernel
theorem dX9_inBells_29 : decode cX9_inBells 29 = .ok (.aload_n 0, 1) := by decide +kernel
theorem dX9_inBells_30 : decode cX9_inBells 30 = .ok (.getfield 48, 3) := by decide +kernel
theorem dX9_inBells_33 : decode cX9_inBells 33 = .ok (.iload 4, 2) := by decide +kernel
theorem dX9_inBells_35 : decode cX9_inBells 35 = .ok (.aaload, 1) := by decide +kernel
theorem dX9_inBells_36 : decode cX9_inBells 36 = .ok (.getfield 125, 3) := by decide +kernel
theorem dX9_inBells_39 : decode cX9_inBells 39 = .ok (.iload_n 1, 1) := by decide +kernel
theorem dX9_inBells_40 : decode cX9_inBells 40 = .ok (.invokevirtual 181, 3) := by decide +kernel
theorem dX9_inBells_43 : decode cX9_inBells 43 = .ok (.iadd, 1) := by decide +kernel
theorem dX9_inBells_44 : decode cX9_inBells 44 = .ok (.istore_n 3, 1) := by decide +kernel
theorem dX9_inBells_45 : decode cX9_inBells 45 = .ok (.iinc 4 1, 3) := by decide +kernel
theorem dX9_inBells_48 : decode cX9_inBells 48 = .ok (.goto (-43), 3) := by decide +kernel
theorem dX9_inBells_51 : decode cX9_inBells 51 = .ok (.iload_n 3, 1) := by decide +kernel
theorem dX9_inBells_52 : decode cX9_inBells 52 = .ok (.ireturn, 1) := by decide +kernel
theorem dX9_ordersIn_0 : decode cX9_ordersIn 0 = .ok (.iconst 0, 1) := by decide +kernel
theorem dX9_ordersIn_1 : decode cX9_ordersIn 1 = .ok (.istore_n 2, 1) := by decide +kernel
theorem dX9_ordersIn_2 : decode cX9_ordersIn 2 = .ok (.iconst 0, 1) := by decide +kernel
theorem dX9_ordersIn_3 : decode cX9_ordersIn 3 = .ok (.istore_n 3, 1) := by decide +kernel
theorem dX9_ordersIn_4 : decode cX9_ordersIn 4 = .ok (.iload_n 3, 1) := by decide +kernel
theorem dX9_ordersIn_5 : decode cX9_ordersIn 5 = .ok (.aload_n 0, 1) := by decide +kernel
theorem dX9_ordersIn_6 : decode cX9_ordersIn 6 = .ok (.getfield 62, 3) := by decide +kernel
theorem dX9_ordersIn_9 : decode cX9_ordersIn 9 = .ok (.if_icmp .ge 25, 3) := by decide +kernel
theorem dX9_ordersIn_12 : decode cX9_ordersIn 12 = .ok (.aload_n 0, 1) := by decide +kernel
theorem dX9_ordersIn_13 : decode cX9_ordersIn 13 = .ok (.getfield 54, 3) := by decide +kernel
theorem dX9_ordersIn_16 : decode cX9_ordersIn 16 = .ok (.iload_n 3, 1) := by decide +kernel
theorem dX9_ordersIn_17 : decode cX9_ordersIn 17 = .ok (.aaload, 1) := by decide +kernel
theorem dX9_ordersIn_18 : decode cX9_ordersIn 18 = .ok (.getfield 177, 3) := by decide +kernel
theorem dX9_ordersIn_21 : decode cX9_ordersIn 21 = .ok (.iload_n 1, 1) := by decide +kernel
theorem dX9_ordersIn_22 : decode cX9_ordersIn 22 = .ok (.if_icmp .ne 6, 3) := by decide +kernel
theorem dX9_ordersIn_25 : decode cX9_ordersIn 25 = .ok (.iinc 2 1, 3) := by decide +kernel
theorem dX9_ordersIn_28 : decode cX9_ordersIn 28 = .ok (.iinc 3 1, 3) := by decide +kernel
theorem dX9_ordersIn_31 : decode cX9_ordersIn 31 = .ok (.goto (-27), 3) := by decide +kernel
theorem dX9_ordersIn_34 : decode cX9_ordersIn 34 = .ok (.iload_n 2, 1) := by decide +kernel
theorem dX9_ordersIn_35 : decode cX9_ordersIn 35 = .ok (.ireturn, 1) := by decide +kernel
theorem dX9_lowestBellFor_0 : decode cX9_lowestBellFor 0 = .ok (.iconst 0, 1) := by decide +kernel
theorem dX9_lowestBellFor_1 : decode cX9_lowestBellFor 1 = .ok (.istore_n 2, 1) := by decide +kernel
theorem dX9_lowestBellFor_2 : decode cX9_lowestBellFor 2 = .ok (.iload_n 2, 1) := by decide +kernel
theorem dX9_lowestBellFor_3 : decode cX9_lowestBellFor 3 = .ok (.aload_n 0, 1) := by decide +kernel
theorem dX9_lowestBellFor_4 : decode cX9_lowestBellFor 4 = .ok (.getfield 58, 3) := by decide +kernel
theorem dX9_lowestBellFor_7 : decode cX9_lowestBellFor 7 = .ok (.if_icmp .ge 24, 3) := by decide +kernel
theorem dX9_lowestBellFor_10 : decode cX9_lowestBellFor 10 = .ok (.aload_n 1, 1) := by decide +kernel
theorem dX9_lowestBellFor_11 : decode cX9_lowestBellFor 11 = .ok (.aload_n 0, 1) := by decide +kernel
theorem dX9_lowestBellFor_12 : decode cX9_lowestBellFor 12 = .ok (.getfield 48, 3) := by decide +kernel
theorem dX9_lowestBellFor_15 : decode cX9_lowestBellFor 15 = .ok (.iload_n 2, 1) := by decide +kernel
theorem dX9_lowestBellFor_16 : decode cX9_lowestBellFor 16 = .ok (.aaload, 1) := by decide +kernel
theorem dX9_lowestBellFor_17 : decode cX9_lowestBellFor 17 = .ok (.invokevirtual 184, 3) := by decide +kernel
theorem dX9_lowestBellFor_20 : decode cX9_lowestBellFor 20 = .ok (.ifCond .eq 5, 3) := by decide +kernel
theorem dX9_lowestBellFor_23 : decode cX9_lowestBellFor 23 = .ok (.iload_n 2, 1) := by decide +kernel
theorem dX9_lowestBellFor_24 : decode cX9_lowestBellFor 24 = .ok (.ireturn, 1) := by decide +kernel
theorem dX9_lowestBellFor_25 : decode cX9_lowestBellFor 25 = .ok (.iinc 2 1, 3) := by decide +kernel
theorem dX9_lowestBellFor_28 : decode cX9_lowestBellFor 28 = .ok (.goto (-26), 3) := by decide +kernel
theorem dX9_lowestBellFor_31 : decode cX9_lowestBellFor 31 = .ok (.bipush (-4), 2) := by decide +kernel
theorem dX9_lowestBellFor_33 : decode cX9_lowestBellFor 33 = .ok (.ireturn, 1) := by decide +kernel
theorem dX9_bellsFor_0 : decode cX9_bellsFor 0 = .ok (.iconst 0, 1) := by decide +kernel
theorem dX9_bellsFor_1 : decode cX9_bellsFor 1 = .ok (.istore_n 2, 1) := by decide +kernel
theorem dX9_bellsFor_2 : decode cX9_bellsFor 2 = .ok (.iconst 0, 1) := by decide +kernel
theorem dX9_bellsFor_3 : decode cX9_bellsFor 3 = .ok (.istore_n 3, 1) := by decide +kernel
theorem dX9_bellsFor_4 : decode cX9_bellsFor 4 = .ok (.iload_n 3, 1) := by decide +kernel
theorem dX9_bellsFor_5 : decode cX9_bellsFor 5 = .ok (.aload_n 0, 1) := by decide +kernel
theorem dX9_bellsFor_6 : decode cX9_bellsFor 6 = .ok (.getfield 58, 3) := by decide +kernel
theorem dX9_bellsFor_9 : decode cX9_bellsFor 9 = .ok (.if_icmp .ge 25, 3) := by decide +kernel
theorem dX9_bellsFor_12 : decode cX9_bellsFor 12 = .ok (.aload_n 1, 1) := by decide +kernel
theorem dX9_bellsFor_13 : decode cX9_bellsFor 13 = .ok (.aload_n 0, 1) := by decide +kernel
theorem dX9_bellsFor_14 : decode cX9_bellsFor 14 = .ok (.getfield 48, 3) := by decide +kernel
theorem dX9_bellsFor_17 : decode cX9_bellsFor 17 = .ok (.iload_n 3, 1) := by decide +kernel
theorem dX9_bellsFor_18 : decode cX9_bellsFor 18 = .ok (.aaload, 1) := by decide +kernel
theorem dX9_bellsFor_19 : decode cX9_bellsFor 19 = .ok (.invokevirtual 184, 3) := by decide +kernel
theorem dX9_bellsFor_22 : decode cX9_bellsFor 22 = .ok (.ifCond .eq 6, 3) := by decide +kernel
theorem dX9_bellsFor_25 : decode cX9_bellsFor 25 = .ok (.iinc 2 1, 3) := by decide +kernel
theorem dX9_bellsFor_28 : decode cX9_bellsFor 28 = .ok (.iinc 3 1, 3) := by decide +kernel
theorem dX9_bellsFor_31 : decode cX9_bellsFor 31 = .ok (.goto (-27), 3) := by decide +kernel
theorem dX9_bellsFor_34 : decode cX9_bellsFor 34 = .ok (.iload_n 2, 1) := by decide +kernel
theorem dX9_bellsFor_35 : decode cX9_bellsFor 35 = .ok (.ireturn, 1) := by decide +kernel
theorem dX9_fewestPoundsToFit_0 : decode cX9_fewestPoundsToFit 0 = .ok (.aload_n 1, 1) := by decide +kernel
theorem dX9_fewestPoundsToFit_1 : decode cX9_fewestPoundsToFit 1 = .ok (.getfield 137, 3) := by decide +kernel
theorem dX9_fewestPoundsToFit_4 : decode cX9_fewestPoundsToFit 4 = .ok (.aload_n 2, 1) := by decide +kernel
theorem dX9_fewestPoundsToFit_5 : decode cX9_fewestPoundsToFit 5 = .ok (.getfield 172, 3) := by decide +kernel
theorem dX9_fewestPoundsToFit_8 : decode cX9_fewestPoundsToFit 8 = .ok (.if_icmp .eq 6, 3) := by decide +kernel
theorem dX9_fewestPoundsToFit_11 : decode cX9_fewestPoundsToFit 11 = .ok (.bipush (-4), 2) := by decide +kernel
theorem dX9_fewestPoundsToFit_13 : decode cX9_fewestPoundsToFit 13 = .ok (.ireturn, 1) := by decide +kernel
theorem dX9_fewestPoundsToFit_14 : decode cX9_fewestPoundsToFit 14 = .ok (.sipush 1000, 3) := by decide +kernel
theorem dX9_fewestPoundsToFit_17 : decode cX9_fewestPoundsToFit 17 = .ok (.aload_n 1, 1) := by decide +kernel
theorem dX9_fewestPoundsToFit_18 : decode cX9_fewestPoundsToFit 18 = .ok (.getfield 125, 3) := by decide +kernel
theorem dX9_fewestPoundsToFit_21 : decode cX9_fewestPoundsToFit 21 = .ok (.invokevirtual 188, 3) := by decide +kernel
theorem dX9_fewestPoundsToFit_24 : decode cX9_fewestPoundsToFit 24 = .ok (.iconst 1, 1) := by decide +kernel
theorem dX9_fewestPoundsToFit_25 : decode cX9_fewestPoundsToFit 25 = .ok (.isub, 1) := by decide +kernel
theorem dX9_fewestPoundsToFit_26 : decode cX9_fewestPoundsToFit 26 = .ok (.invokestatic 191, 3) := by decide +kernel
theorem dX9_fewestPoundsToFit_29 : decode cX9_fewestPoundsToFit 29 = .ok (.istore_n 3, 1) := by decide +kernel
theorem dX9_fewestPoundsToFit_30 : decode cX9_fewestPoundsToFit 30 = .ok (.iconst 1, 1) := by decide +kernel
theorem dX9_fewestPoundsToFit_31 : decode cX9_fewestPoundsToFit 31 = .ok (.istore 4, 2) := by decide +kernel
theorem dX9_fewestPoundsToFit_33 : decode cX9_fewestPoundsToFit 33 = .ok (.iload 4, 2) := by decide +kernel
theorem dX9_fewestPoundsToFit_35 : decode cX9_fewestPoundsToFit 35 = .ok (.iload_n 3, 1) := by decide +kernel
theorem dX9_fewestPoundsToFit_36 : decode cX9_fewestPoundsToFit 36 = .ok (.if_icmp .gt 40, 3) := by decide +kernel
theorem dX9_fewestPoundsToFit_39 : decode cX9_fewestPoundsToFit 39 = .ok (.aload_n 1, 1) := by decide +kernel
theorem dX9_fewestPoundsToFit_40 : decode cX9_fewestPoundsToFit 40 = .ok (.iload 4, 2) := by decide +kernel
theorem dX9_fewestPoundsToFit_42 : decode cX9_fewestPoundsToFit 42 = .ok (.invokevirtual 165, 3) := by decide +kernel
theorem dX9_fewestPoundsToFit_45 : decode cX9_fewestPoundsToFit 45 = .ok (.ifCond .ne 31, 3) := by decide +kernel
theorem dX9_fewestPoundsToFit_48 : decode cX9_fewestPoundsToFit 48 = .ok (.aload_n 2, 1) := by decide +kernel
theorem dX9_fewestPoundsToFit_49 : decode cX9_fewestPoundsToFit 49 = .ok (.aload_n 1, 1) := by decide +kernel
theorem dX9_fewestPoundsToFit_50 : decode cX9_fewestPoundsToFit 50 = .ok (.iload 4, 2) := by decide +kernel
theorem dX9_fewestPoundsToFit_52 : decode cX9_fewestPoundsToFit 52 = .ok (.aload_n 0, 1) := by decide +kernel
theorem dX9_fewestPoundsToFit_53 : decode cX9_fewestPoundsToFit 53 = .ok (.getfield 43, 3) := by decide +kernel
theorem dX9_fewestPoundsToFit_56 : decode cX9_fewestPoundsToFit 56 = .ok (.iconst 5, 1) := by decide +kernel
theorem dX9_fewestPoundsToFit_57 : decode cX9_fewestPoundsToFit 57 = .ok (.iaload, 1) := by decide +kernel
theorem dX9_fewestPoundsToFit_58 : decode cX9_fewestPoundsToFit 58 = .ok (.invokevirtual 162, 3) := by decide +kernel
theorem dX9_fewestPoundsToFit_61 : decode cX9_fewestPoundsToFit 61 = .ok (.invokevirtual 196, 3) := by decide +kernel
theorem dX9_fewestPoundsToFit_64 : decode cX9_fewestPoundsToFit 64 = .ok (.ifCond .eq 6, 3) := by decide +kernel
theorem dX9_fewestPoundsToFit_67 : decode cX9_fewestPoundsToFit 67 = .ok (.iload 4, 2) := by decide +kernel
theorem dX9_fewestPoundsToFit_69 : decode cX9_fewestPoundsToFit 69 = .ok (.ireturn, 1) := by decide +kernel
theorem dX9_fewestPoundsToFit_70 : decode cX9_fewestPoundsToFit 70 = .ok (.iinc 4 1, 3) := by decide +kernel
theorem dX9_fewestPoundsToFit_73 : decode cX9_fewestPoundsToFit 73 = .ok (.goto (-40), 3) := by decide +kernel
theorem dX9_fewestPoundsToFit_76 : decode cX9_fewestPoundsToFit 76 = .ok (.bipush (-4), 2) := by decide +kernel
theorem dX9_fewestPoundsToFit_78 : decode cX9_fewestPoundsToFit 78 = .ok (.ireturn, 1) := by decide +kernel
theorem dX9_heaviestBellFor_0 : decode cX9_heaviestBellFor 0 = .ok (.aload_n 0, 1) := by decide +kernel
theorem dX9_heaviestBellFor_1 : decode cX9_heaviestBellFor 1 = .ok (.invokevirtual 199, 3) := by decide +kernel
theorem dX9_heaviestBellFor_4 : decode cX9_heaviestBellFor 4 = .ok (.invokevirtual 188, 3) := by decide +kernel
theorem dX9_heaviestBellFor_7 : decode cX9_heaviestBellFor 7 = .ok (.istore_n 2, 1) := by decide +kernel
theorem dX9_heaviestBellFor_8 : decode cX9_heaviestBellFor 8 = .ok (.iload_n 2, 1) := by decide +kernel
theorem dX9_heaviestBellFor_9 : decode cX9_heaviestBellFor 9 = .ok (.aload_n 1, 1) := by decide +kernel
theorem dX9_heaviestBellFor_10 : decode cX9_heaviestBellFor 10 = .ok (.getfield 172, 3) := by decide +kernel
theorem dX9_heaviestBellFor_13 : decode cX9_heaviestBellFor 13 = .ok (.aload_n 1, 1) := by decide +kernel
theorem dX9_heaviestBellFor_14 : decode cX9_heaviestBellFor 14 = .ok (.getfield 173, 3) := by decide +kernel
theorem dX9_heaviestBellFor_17 : decode cX9_heaviestBellFor 17 = .ok (.invokestatic 203, 3) := by decide +kernel
theorem dX9_heaviestBellFor_20 : decode cX9_heaviestBellFor 20 = .ok (.invokestatic 191, 3) := by decide +kernel
theorem dX9_heaviestBellFor_23 : decode cX9_heaviestBellFor 23 = .ok (.istore_n 3, 1) := by decide +kernel
theorem dX9_heaviestBellFor_24 : decode cX9_heaviestBellFor 24 = .ok (.iload_n 3, 1) := by decide +kernel
theorem dX9_heaviestBellFor_25 : decode cX9_heaviestBellFor 25 = .ok (.invokestatic 140, 3) := by decide +kernel
theorem dX9_heaviestBellFor_28 : decode cX9_heaviestBellFor 28 = .ok (.istore 4, 2) := by decide +kernel
theorem dX9_heaviestBellFor_30 : decode cX9_heaviestBellFor 30 = .ok (.iload_n 3, 1) := by decide +kernel
theorem dX9_heaviestBellFor_31 : decode cX9_heaviestBellFor 31 = .ok (.istore 5, 2) := by decide +kernel
theorem dX9_heaviestBellFor_33 : decode cX9_heaviestBellFor 33 = .ok (.iload 5, 2) := by decide +kernel
theorem dX9_heaviestBellFor_35 : decode cX9_heaviestBellFor 35 = .ok (.iconst 1, 1) := by decide +kernel
theorem dX9_heaviestBellFor_36 : decode cX9_heaviestBellFor 36 = .ok (.if_icmp .lt 76, 3) := by decide +kernel
theorem dX9_heaviestBellFor_39 : decode cX9_heaviestBellFor 39 = .ok (.iload 4, 2) := by decide +kernel
theorem dX9_heaviestBellFor_41 : decode cX9_heaviestBellFor 41 = .ok (.iconst 1, 1) := by decide +kernel
theorem dX9_heaviestBellFor_42 : decode cX9_heaviestBellFor 42 = .ok (.if_icmp .le 26, 3) := by decide +kernel
theorem dX9_heaviestBellFor_45 : decode cX9_heaviestBellFor 45 = .ok (.iload 4, 2) := by decide +kernel
theorem dX9_heaviestBellFor_47 : decode cX9_heaviestBellFor 47 = .ok (.i2l, 1) := by decide +kernel
theorem dX9_heaviestBellFor_48 : decode cX9_heaviestBellFor 48 = .ok (.invokestatic 206, 3) := by decide +kernel
theorem dX9_heaviestBellFor_51 : decode cX9_heaviestBellFor 51 = .ok (.ldc2_w 210, 3) := by decide +kernel
theorem dX9_heaviestBellFor_54 : decode cX9_heaviestBellFor 54 = .ok (.iload 5, 2) := by decide +kernel
theorem dX9_heaviestBellFor_56 : decode cX9_heaviestBellFor 56 = .ok (.i2l, 1) := by decide +kernel
theorem dX9_heaviestBellFor_57 : decode cX9_heaviestBellFor 57 = .ok (.lmul, 1) := by decide +kernel
theorem dX9_heaviestBellFor_58 : decode cX9_heaviestBellFor 58 = .ok (.lcmp, 1) := by decide +kernel
theorem dX9_heaviestBellFor_59 : decode cX9_heaviestBellFor 59 = .ok (.ifCond .le 9, 3) := by decide +kernel
theorem dX9_heaviestBellFor_62 : decode cX9_heaviestBellFor 62 = .ok (.iinc 4 (-1), 3) := by decide +kernel
theorem dX9_heaviestBellFor_65 : decode cX9_heaviestBellFor 65 = .ok (.goto (-26), 3) := by decide +kernel
theorem dX9_heaviestBellFor_68 : decode cX9_heaviestBellFor 68 = .ok (.aload_n 0, 1) := by decide +kernel
theorem dX9_heaviestBellFor_69 : decode cX9_heaviestBellFor 69 = .ok (.iload 5, 2) := by decide +kernel
theorem dX9_heaviestBellFor_71 : decode cX9_heaviestBellFor 71 = .ok (.invokevirtual 212, 3) := by decide +kernel
theorem dX9_heaviestBellFor_74 : decode cX9_heaviestBellFor 74 = .ok (.iload_n 2, 1) := by decide +kernel
theorem dX9_heaviestBellFor_75 : decode cX9_heaviestBellFor 75 = .ok (.if_icmp .gt 31, 3) := by decide +kernel
theorem dX9_heaviestBellFor_78 : decode cX9_heaviestBellFor 78 = .ok (.aload_n 1, 1) := by decide +kernel
theorem dX9_heaviestBellFor_79 : decode cX9_heaviestBellFor 79 = .ok (.getfield 172, 3) := by decide +kernel
theorem dX9_heaviestBellFor_82 : decode cX9_heaviestBellFor 82 = .ok (.iload 4, 2) := by decide +kernel
theorem dX9_heaviestBellFor_84 : decode cX9_heaviestBellFor 84 = .ok (.aload_n 0, 1) := by decide +kernel
theorem dX9_heaviestBellFor_85 : decode cX9_heaviestBellFor 85 = .ok (.getfield 68, 3) := by decide +kernel
theorem dX9_heaviestBellFor_88 : decode cX9_heaviestBellFor 88 = .ok (.iload 5, 2) := by decide +kernel
theorem dX9_heaviestBellFor_90 : decode cX9_heaviestBellFor 90 = .ok (.invokevirtual 215, 3) := by decide +kernel
theorem dX9_heaviestBellFor_93 : decode cX9_heaviestBellFor 93 = .ok (.invokestatic 143, 3) := by decide +kernel
theorem dX9_heaviestBellFor_96 : decode cX9_heaviestBellFor 96 = .ok (.aload_n 1, 1) := by decide +kernel
theorem dX9_heaviestBellFor_97 : decode cX9_heaviestBellFor 97 = .ok (.getfield 173, 3) := by decide +kernel
theorem dX9_heaviestBellFor_100 : decode cX9_heaviestBellFor 100 = .ok (.if_icmp .lt 6, 3) := by decide +kernel
theorem dX9_heaviestBellFor_103 : decode cX9_heaviestBellFor 103 = .ok (.iload 5, 2) := by decide +kernel
theorem dX9_heaviestBellFor_105 : decode cX9_heaviestBellFor 105 = .ok (.ireturn, 1) := by decide +kernel
theorem dX9_heaviestBellFor_106 : decode cX9_heaviestBellFor 106 = .ok (.iinc 5 (-1), 3) := by decide +kernel
theorem dX9_heaviestBellFor_109 : decode cX9_heaviestBellFor 109 = .ok (.goto (-76), 3) := by decide +kernel
theorem dX9_heaviestBellFor_112 : decode cX9_heaviestBellFor 112 = .ok (.bipush (-4), 2) := by decide +kernel
theorem dX9_heaviestBellFor_114 : decode cX9_heaviestBellFor 114 = .ok (.ireturn, 1) := by decide +kernel
theorem dX10_init_0 : decode cX10_init 0 = .ok (.aload_n 0, 1) := by decide +kernel
theorem dX10_init_1 : decode cX10_init 1 = .ok (.invokespecial 1, 3) := by decide +kernel
theorem dX10_init_4 : decode cX10_init 4 = .ok (.aload_n 0, 1) := by decide +kernel
theorem dX10_init_5 : decode cX10_init 5 = .ok (.new 7, 3) := by decide +kernel
theorem dX10_init_8 : decode cX10_init 8 = .ok (.dup, 1) := by decide +kernel
theorem dX10_init_9 : decode cX10_init 9 = .ok (.invokespecial 9, 3) := by decide +kernel
theorem dX10_init_12 : decode cX10_init 12 = .ok (.putfield 10, 3) := by decide +kernel
theorem dX10_init_15 : decode cX10_init 15 = .ok (.aload_n 0, 1) := by decide +kernel
theorem dX10_init_16 : decode cX10_init 16 = .ok (.new 16, 3) := by decide +kernel
theorem dX10_init_19 : decode cX10_init 19 = .ok (.dup, 1) := by decide +kernel
theorem dX10_init_20 : decode cX10_init 20 = .ok (.invokespecial 18, 3) := by decide +kernel
theorem dX10_init_23 : decode cX10_init 23 = .ok (.putfield 19, 3) := by decide +kernel
theorem dX10_init_26 : decode cX10_init 26 = .ok (.aload_n 0, 1) := by decide +kernel
theorem dX10_init_27 : decode cX10_init 27 = .ok (.new 23, 3) := by decide +kernel
theorem dX10_init_30 : decode cX10_init 30 = .ok (.dup, 1) := by decide +kernel
theorem dX10_init_31 : decode cX10_init 31 = .ok (.invokespecial 25, 3) := by decide +kernel
theorem dX10_init_34 : decode cX10_init 34 = .ok (.putfield 26, 3) := by decide +kernel
theorem dX10_init_37 : decode cX10_init 37 = .ok (.aload_n 0, 1) := by decide +kernel
theorem dX10_init_38 : decode cX10_init 38 = .ok (.new 30, 3) := by decide +kernel
theorem dX10_init_41 : decode cX10_init 41 = .ok (.dup, 1) := by decide +kernel
theorem dX10_init_42 : decode cX10_init 42 = .ok (.invokespecial 32, 3) := by decide +kernel
theorem dX10_init_45 : decode cX10_init 45 = .ok (.putfield 33, 3) := by decide +kernel
theorem dX10_init_48 : decode cX10_init 48 = .ok (.aload_n 0, 1) := by decide +kernel
theorem dX10_init_49 : decode cX10_init 49 = .ok (.bipush 60, 2) := by decide +kernel
theorem dX10_init_51 : decode cX10_init 51 = .ok (.newarray .char, 2) := by decide +kernel
theorem dX10_init_53 : decode cX10_init 53 = .ok (.putfield 37, 3) := by decide +kernel
theorem dX10_init_56 : decode cX10_init 56 = .ok (.aload_n 0, 1) := by decide +kernel
theorem dX10_init_57 : decode cX10_init 57 = .ok (.iconst 0, 1) := by decide +kernel
theorem dX10_init_58 : decode cX10_init 58 = .ok (.putfield 41, 3) := by decide +kernel
theorem dX10_init_61 : decode cX10_init 61 = .ok (.return_, 1) := by decide +kernel
theorem dX10_buy_0 : decode cX10_buy 0 = .ok (.iload_n 1, 1) := by decide +kernel
theorem dX10_buy_1 : decode cX10_buy 1 = .ok (.invokestatic 45, 3) := by decide +kernel
theorem dX10_buy_4 : decode cX10_buy 4 = .ok (.ifCond .eq 13, 3) := by decide +kernel
theorem dX10_buy_7 : decode cX10_buy 7 = .ok (.iload_n 2, 1) := by decide +kernel
theorem dX10_buy_8 : decode cX10_buy 8 = .ok (.iconst 1, 1) := by decide +kernel
theorem dX10_buy_9 : decode cX10_buy 9 = .ok (.ldc 49, 2) := by decide +kernel
theorem dX10_buy_11 : decode cX10_buy 11 = .ok (.invokestatic 50, 3) := by decide +kernel
theorem dX10_buy_14 : decode cX10_buy 14 = .ok (.ifCond .ne 5, 3) := by decide +kernel
theorem dX10_buy_17 : decode cX10_buy 17 = .ok (.iconst (-1), 1) := by decide +kernel
theorem dX10_buy_18 : decode cX10_buy 18 = .ok (.ireturn, 1) := by decide +kernel
theorem dX10_buy_19 : decode cX10_buy 19 = .ok (.aload_n 0, 1) := by decide +kernel
theorem dX10_buy_20 : decode cX10_buy 20 = .ok (.getfield 10, 3) := by decide +kernel
theorem dX10_buy_23 : decode cX10_buy 23 = .ok (.getfield 54, 3) := by decide +kernel
theorem dX10_buy_26 : decode cX10_buy 26 = .ok (.iload_n 1, 1) := by decide +kernel
theorem dX10_buy_27 : decode cX10_buy 27 = .ok (.invokevirtual 58, 3) := by decide +kernel
theorem dX10_buy_30 : decode cX10_buy 30 = .ok (.iload_n 2, 1) := by decide +kernel
theorem dX10_buy_31 : decode cX10_buy 31 = .ok (.iadd, 1) := by decide +kernel
theorem dX10_buy_32 : decode cX10_buy 32 = .ok (.ldc 64, 2) := by decide +kernel
theorem dX10_buy_34 : decode cX10_buy 34 = .ok (.if_icmp .le 6, 3) := by decide +kernel
theorem dX10_buy_37 : decode cX10_buy 37 = .ok (.bipush (-3), 2) := by decide +kernel
theorem dX10_buy_39 : decode cX10_buy 39 = .ok (.ireturn, 1) := by decide +kernel
theorem dX10_buy_40 : decode cX10_buy 40 = .ok (.aload_n 0, 1) := by decide +kernel
theorem dX10_buy_41 : decode cX10_buy 41 = .ok (.getfield 19, 3) := by decide +kernel
theorem dX10_buy_44 : decode cX10_buy 44 = .ok (.aload_n 0, 1) := by decide +kernel
theorem dX10_buy_45 : decode cX10_buy 45 = .ok (.getfield 10, 3) := by decide +kernel
theorem dX10_buy_48 : decode cX10_buy 48 = .ok (.invokevirtual 65, 3) := by decide +kernel
theorem dX10_buy_51 : decode cX10_buy 51 = .ok (.aload_n 0, 1) := by decide +kernel
theorem dX10_buy_52 : decode cX10_buy 52 = .ok (.getfield 10, 3) := by decide +kernel
theorem dX10_buy_55 : decode cX10_buy 55 = .ok (.getfield 69, 3) := by decide +kernel
theorem dX10_buy_58 : decode cX10_buy 58 = .ok (.iload_n 1, 1) := by decide +kernel
theorem dX10_buy_59 : decode cX10_buy 59 = .ok (.iload_n 2, 1) := by decide +kernel
theorem dX10_buy_60 : decode cX10_buy 60 = .ok (.invokevirtual 72, 3) := by decide +kernel
theorem dX10_buy_63 : decode cX10_buy 63 = .ok (.aload_n 0, 1) := by decide +kernel
theorem dX10_buy_64 : decode cX10_buy 64 = .ok (.getfield 10, 3) := by decide +kernel
theorem dX10_buy_67 : decode cX10_buy 67 = .ok (.getfield 54, 3) := by decide +kernel
theorem dX10_buy_70 : decode cX10_buy 70 = .ok (.iload_n 1, 1) := by decide +kernel
theorem dX10_buy_71 : decode cX10_buy 71 = .ok (.iload_n 2, 1) := by decide +kernel
theorem dX10_buy_72 : decode cX10_buy 72 = .ok (.invokevirtual 72, 3) := by decide +kernel
theorem dX10_buy_75 : decode cX10_buy 75 = .ok (.aload_n 0, 1) := by decide +kernel
theorem dX10_buy_76 : decode cX10_buy 76 = .ok (.getfield 10, 3) := by decide +kernel
theorem dX10_buy_79 : decode cX10_buy 79 = .ok (.getfield 54, 3) := by decide +kernel
theorem dX10_buy_82 : decode cX10_buy 82 = .ok (.iload_n 1, 1) := by decide +kernel
theorem dX10_buy_83 : decode cX10_buy 83 = .ok (.invokevirtual 58, 3) := by decide +kernel
theorem dX10_buy_86 : decode cX10_buy 86 = .ok (.ireturn, 1) := by decide +kernel
theorem dX10_charge_0 : decode cX10_charge 0 = .ok (.iload_n 1, 1) := by decide +kernel
theorem dX10_charge_1 : decode cX10_charge 1 = .ok (.invokestatic 45, 3) := by decide +kernel
theorem dX10_charge_4 : decode cX10_charge 4 = .ok (.ifCond .eq 14, 3) := by decide +kernel
theorem dX10_charge_7 : decode cX10_charge 7 = .ok (.iload_n 2, 1) := by decide +kernel
theorem dX10_charge_8 : decode cX10_charge 8 = .ok (.iconst 1, 1) := by decide +kernel
theorem dX10_charge_9 : decode cX10_charge 9 = .ok (.sipush 20000, 3) := by decide +kernel
theorem dX10_charge_12 : decode cX10_charge 12 = .ok (.invokestatic 50, 3) := by decide +kernel
theorem dX10_charge_15 : decode cX10_charge 15 = .ok (.ifCond .ne 5, 3) := by decide +kernel
theorem dX10_charge_18 : decode cX10_charge 18 = .ok (.iconst (-1), 1) := by decide +kernel
theorem dX10_charge_19 : decode cX10_charge 19 = .ok (.ireturn, 1) := by decide +kernel
theorem dX10_charge_20 : decode cX10_charge 20 = .ok (.aload_n 0, 1) := by decide +kernel
theorem dX10_charge_21 : decode cX10_charge 21 = .ok (.getfield 10, 3) := by decide +kernel
theorem dX10_charge_24 : decode cX10_charge 24 = .ok (.getfield 54, 3) := by decide +kernel
theorem dX10_charge_27 : decode cX10_charge 27 = .ok (.iload_n 1, 1) := by decide +kernel
theorem dX10_charge_28 : decode cX10_charge 28 = .ok (.invokevirtual 58, 3) := by decide +kernel
theorem dX10_charge_31 : decode cX10_charge 31 = .ok (.iload_n 2, 1) := by decide +kernel
theorem dX10_charge_32 : decode cX10_charge 32 = .ok (.if_icmp .ge 6, 3) := by decide +kernel
theorem dX10_charge_35 : decode cX10_charge 35 = .ok (.bipush (-2), 2) := by decide +kernel
theorem dX10_charge_37 : decode cX10_charge 37 = .ok (.ireturn, 1) := by decide +kernel
theorem dX10_charge_38 : decode cX10_charge 38 = .ok (.aload_n 0, 1) := by decide +kernel
theorem dX10_charge_39 : decode cX10_charge 39 = .ok (.getfield 10, 3) := by decide +kernel
theorem dX10_charge_42 : decode cX10_charge 42 = .ok (.getfield 76, 3) := by decide +kernel
theorem dX10_charge_45 : decode cX10_charge 45 = .ok (.invokevirtual 79, 3) := by decide +kernel
theorem dX10_charge_48 : decode cX10_charge 48 = .ok (.iload_n 2, 1) := by decide +kernel
theorem dX10_charge_49 : decode cX10_charge 49 = .ok (.iadd, 1) := by decide +kernel
theorem dX10_charge_50 : decode cX10_charge 50 = .ok (.sipush 20000, 3) := by decide +kernel
theorem dX10_charge_53 : decode cX10_charge 53 = .ok (.if_icmp .le 6, 3) := by decide +kernel
theorem dX10_charge_56 : decode cX10_charge 56 = .ok (.bipush (-3), 2) := by decide +kernel
theorem dX10_charge_58 : decode cX10_charge 58 = .ok (.ireturn, 1) := by decide +kernel
theorem dX10_charge_59 : decode cX10_charge 59 = .ok (.aload_n 0, 1) := by decide +kernel
theorem dX10_charge_60 : decode cX10_charge 60 = .ok (.getfield 19, 3) := by decide +kernel
theorem dX10_charge_63 : decode cX10_charge 63 = .ok (.aload_n 0, 1) := by decide +kernel
theorem dX10_charge_64 : decode cX10_charge 64 = .ok (.getfield 10, 3) := by decide +kernel
theorem dX10_charge_67 : decode cX10_charge 67 = .ok (.invokevirtual 65, 3) := by decide +kernel
theorem dX10_charge_70 : decode cX10_charge 70 = .ok (.aload_n 0, 1) := by decide +kernel
theorem dX10_charge_71 : decode cX10_charge 71 = .ok (.getfield 10, 3) := by decide +kernel
theorem dX10_charge_74 : decode cX10_charge 74 = .ok (.getfield 54, 3) := by decide +kernel
theorem dX10_charge_77 : decode cX10_charge 77 = .ok (.iload_n 1, 1) := by decide +kernel
theorem dX10_charge_78 : decode cX10_charge 78 = .ok (.iload_n 2, 1) := by decide +kernel
theorem dX10_charge_79 : decode cX10_charge 79 = .ok (.ineg, 1) := by decide +kernel
theorem dX10_charge_80 : decode cX10_charge 80 = .ok (.invokevirtual 72, 3) := by decide +kernel
theorem dX10_charge_83 : decode cX10_charge 83 = .ok (.aload_n 0, 1) := by decide +kernel
theorem dX10_charge_84 : decode cX10_charge 84 = .ok (.getfield 10, 3) := by decide +kernel
theorem dX10_charge_87 : decode cX10_charge 87 = .ok (.getfield 76, 3) := by decide +kernel
theorem dX10_charge_90 : decode cX10_charge 90 = .ok (.iload_n 1, 1) := by decide +kernel
theorem dX10_charge_91 : decode cX10_charge 91 = .ok (.iload_n 2, 1) := by decide +kernel
theorem dX10_charge_92 : decode cX10_charge 92 = .ok (.invokevirtual 72, 3) := by decide +kernel
theorem dX10_charge_95 : decode cX10_charge 95 = .ok (.aload_n 0, 1) := by decide +kernel
theorem dX10_charge_96 : decode cX10_charge 96 = .ok (.getfield 10, 3) := by decide +kernel
theorem dX10_charge_99 : decode cX10_charge 99 = .ok (.getfield 76, 3) := by decide +kernel
theorem dX10_charge_102 : decode cX10_charge 102 = .ok (.invokevirtual 79, 3) := by decide +kernel
theorem dX10_charge_105 : decode cX10_charge 105 = .ok (.ireturn, 1) := by decide +kernel
theorem dX10_scrap_0 : decode cX10_scrap 0 = .ok (.aload_n 0, 1) := by decide +kernel
theorem dX10_scrap_1 : decode cX10_scrap 1 = .ok (.getfield 10, 3) := by decide +kernel
theorem dX10_scrap_4 : decode cX10_scrap 4 = .ok (.getfield 83, 3) := by decide +kernel
theorem dX10_scrap_7 : decode cX10_scrap 7 = .ok (.iload_n 1, 1) := by decide +kernel
theorem dX10_scrap_8 : decode cX10_scrap 8 = .ok (.invokevirtual 87, 3) := by decide +kernel
theorem dX10_scrap_11 : decode cX10_scrap 11 = .ok (.astore_n 2, 1) := by decide +kernel
theorem dX10_scrap_12 : decode cX10_scrap 12 = .ok (.aload_n 2, 1) := by decide +kernel
theorem dX10_scrap_13 : decode cX10_scrap 13 = .ok (.ifnonnull 5, 3) := by decide +kernel
theorem dX10_scrap_16 : decode cX10_scrap 16 = .ok (.iconst (-1), 1) := by decide +kernel
theorem dX10_scrap_17 : decode cX10_scrap 17 = .ok (.ireturn, 1) := by decide +kernel
theorem dX10_scrap_18 : decode cX10_scrap 18 = .ok (.aload_n 0, 1) := by decide +kernel
theorem dX10_scrap_19 : decode cX10_scrap 19 = .ok (.getfield 10, 3) := by decide +kernel
theorem dX10_scrap_22 : decode cX10_scrap 22 = .ok (.getfield 76, 3) := by decide +kernel
theorem dX10_scrap_25 : decode cX10_scrap 25 = .ok (.invokevirtual 79, 3) := by decide +kernel
theorem dX10_scrap_28 : decode cX10_scrap 28 = .ok (.aload_n 2, 1) := by decide +kernel
theorem dX10_scrap_29 : decode cX10_scrap 29 = .ok (.getfield 93, 3) := by decide +kernel
theorem dX10_scrap_32 : decode cX10_scrap 32 = .ok (.invokevirtual 79, 3) := by decide +kernel
theorem dX10_scrap_35 : decode cX10_scrap 35 = .ok (.iadd, 1) := by decide +kernel
theorem dX10_scrap_36 : decode cX10_scrap 36 = .ok (.sipush 20000, 3) := by decide +kernel
theorem dX10_scrap_39 : decode cX10_scrap 39 = .ok (.if_icmp .le 6, 3) := by decide +kernel
theorem dX10_scrap_42 : decode cX10_scrap 42 = .ok (.bipush (-3), 2) := by decide +kernel
theorem dX10_scrap_44 : decode cX10_scrap 44 = .ok (.ireturn, 1) := by decide +kernel
theorem dX10_scrap_45 : decode cX10_scrap 45 = .ok (.aload_n 0, 1) := by decide +kernel
theorem dX10_scrap_46 : decode cX10_scrap 46 = .ok (.getfield 19, 3) := by decide +kernel
theorem dX10_scrap_49 : decode cX10_scrap 49 = .ok (.aload_n 0, 1) := by decide +kernel
theorem dX10_scrap_50 : decode cX10_scrap 50 = .ok (.getfield 10, 3) := by decide +kernel
theorem dX10_scrap_53 : decode cX10_scrap 53 = .ok (.invokevirtual 65, 3) := by decide +kernel
theorem dX10_scrap_56 : decode cX10_scrap 56 = .ok (.aload_n 0, 1) := by decide +kernel
theorem dX10_scrap_57 : decode cX10_scrap 57 = .ok (.getfield 10, 3) := by decide +kernel
theorem dX10_scrap_60 : decode cX10_scrap 60 = .ok (.aload_n 2, 1) := by decide +kernel
theorem dX10_scrap_61 : decode cX10_scrap 61 = .ok (.invokevirtual 98, 3) := by decide +kernel
theorem dX10_scrap_64 : decode cX10_scrap 64 = .ok (.aload_n 0, 1) := by decide +kernel
theorem dX10_scrap_65 : decode cX10_scrap 65 = .ok (.getfield 10, 3) := by decide +kernel
theorem dX10_scrap_68 : decode cX10_scrap 68 = .ok (.getfield 83, 3) := by decide +kernel
theorem dX10_scrap_71 : decode cX10_scrap 71 = .ok (.iload_n 1, 1) := by decide +kernel
theorem dX10_scrap_72 : decode cX10_scrap 72 = .ok (.invokevirtual 102, 3) := by decide +kernel
theorem dX10_scrap_75 : decode cX10_scrap 75 = .ok (.aload_n 0, 1) := by decide +kernel
theorem dX10_scrap_76 : decode cX10_scrap 76 = .ok (.getfield 10, 3) := by decide +kernel
theorem dX10_scrap_79 : decode cX10_scrap 79 = .ok (.getfield 76, 3) := by decide +kernel
theorem dX10_scrap_82 : decode cX10_scrap 82 = .ok (.invokevirtual 79, 3) := by decide +kernel
theorem dX10_scrap_85 : decode cX10_scrap 85 = .ok (.ireturn, 1) := by decide +kernel
theorem dX10_lot_0 : decode cX10_lot 0 = .ok (.aload_n 0, 1) := by decide +kernel
theorem dX10_lot_1 : decode cX10_lot 1 = .ok (.getfield 10, 3) := by decide +kernel
theorem dX10_lot_4 : decode cX10_lot 4 = .ok (.getfield 83, 3) := by decide +kernel
theorem dX10_lot_7 : decode cX10_lot 7 = .ok (.iload_n 1, 1) := by decide +kernel
theorem dX10_lot_8 : decode cX10_lot 8 = .ok (.invokevirtual 87, 3) := by decide +kernel
theorem dX10_lot_11 : decode cX10_lot 11 = .ok (.astore_n 3, 1) := by decide +kernel
theorem dX10_lot_12 : decode cX10_lot 12 = .ok (.aload_n 3, 1) := by decide +kernel
theorem dX10_lot_13 : decode cX10_lot 13 = .ok (.ifnull 12, 3) := by decide +kernel
theorem dX10_lot_16 : decode cX10_lot 16 = .ok (.iload_n 2, 1) := by decide +kernel
theorem dX10_lot_17 : decode cX10_lot 17 = .ok (.iconst 0, 1) := by decide +kernel
theorem dX10_lot_18 : decode cX10_lot 18 = .ok (.iconst 4, 1) := by decide +kernel
theorem dX10_lot_19 : decode cX10_lot 19 = .ok (.invokestatic 50, 3) := by decide +kernel
theorem dX10_lot_22 : decode cX10_lot 22 = .ok (.ifCond .ne 5, 3) := by decide +kernel
theorem dX10_lot_25 : decode cX10_lot 25 = .ok (.iconst (-1), 1) := by decide +kernel
theorem dX10_lot_26 : decode cX10_lot 26 = .ok (.ireturn, 1) := by decide +kernel
theorem dX10_lot_27 : decode cX10_lot 27 = .ok (.iload_n 2, 1) := by decide +kernel
theorem dX10_lot_28 : decode cX10_lot 28 = .ok (.iconst 4, 1) := by decide +kernel
theorem dX10_lot_29 : decode cX10_lot 29 = .ok (.if_icmp .ne 10, 3) := by decide +kernel
theorem dX10_lot_32 : decode cX10_lot 32 = .ok (.aload_n 3, 1) := by decide +kernel
theorem dX10_lot_33 : decode cX10_lot 33 = .ok (.getfield 106, 3) := by decide +kernel
theorem dX10_lot_36 : decode cX10_lot 36 = .ok (.goto 11, 3) := by decide +kernel
theorem dX10_lot_39 : decode cX10_lot 39 = .ok (.aload_n 3, 1) := by decide +kernel
theorem dX10_lot_40 : decode cX10_lot 40 = .ok (.getfield 93, 3) := by decide +kernel
theorem dX10_lot_43 : decode cX10_lot 43 = .ok (.iload_n 2, 1) := by decide +kernel
theorem dX10_lot_44 : decode cX10_lot 44 = .ok (.invokevirtual 109, 3) := by decide +kernel
theorem dX10_lot_47 : decode cX10_lot 47 = .ok (.ireturn, 1) := by decide +kernel
theorem dX10_melt_0 : decode cX10_melt 0 = .ok (.iload_n 1, 1) := by decide +kernel
theorem dX10_melt_1 : decode cX10_melt 1 = .ok (.iconst 0, 1) := by decide +kernel
theorem dX10_melt_2 : decode cX10_melt 2 = .ok (.iconst 3, 1) := by decide +kernel
theorem dX10_melt_3 : decode cX10_melt 3 = .ok (.invokestatic 50, 3) := by decide +kernel
theorem dX10_melt_6 : decode cX10_melt 6 = .ok (.ifCond .eq 15, 3) := by decide +kernel
theorem dX10_melt_9 : decode cX10_melt 9 = .ok (.aload_n 0, 1) := by decide +kernel
theorem dX10_melt_10 : decode cX10_melt 10 = .ok (.getfield 10, 3) := by decide +kernel
theorem dX10_melt_13 : decode cX10_melt 13 = .ok (.getfield 76, 3) := by decide +kernel
theorem dX10_melt_16 : decode cX10_melt 16 = .ok (.iload_n 1, 1) := by decide +kernel
theorem dX10_melt_17 : decode cX10_melt 17 = .ok (.invokevirtual 109, 3) := by decide +kernel
theorem dX10_melt_20 : decode cX10_melt 20 = .ok (.ireturn, 1) := by decide +kernel
theorem dX10_melt_21 : decode cX10_melt 21 = .ok (.iload_n 1, 1) := by decide +kernel
theorem dX10_melt_22 : decode cX10_melt 22 = .ok (.lookupswitch 48 #[(4, 26), (5, 37)], 26) := by decide +kernel
theorem dX10_melt_48 : decode cX10_melt 48 = .ok (.aload_n 0, 1) := by decide +kernel
theorem dX10_melt_49 : decode cX10_melt 49 = .ok (.getfield 10, 3) := by decide +kernel
theorem dX10_melt_52 : decode cX10_melt 52 = .ok (.invokevirtual 112, 3) := by decide +kernel
theorem dX10_melt_55 : decode cX10_melt 55 = .ok (.invokevirtual 79, 3) := by decide +kernel
theorem dX10_melt_58 : decode cX10_melt 58 = .ok (.ireturn, 1) := by decide +kernel
theorem dX10_melt_59 : decode cX10_melt 59 = .ok (.aload_n 0, 1) := by decide +kernel
theorem dX10_melt_60 : decode cX10_melt 60 = .ok (.getfield 10, 3) := by decide +kernel
theorem dX10_melt_63 : decode cX10_melt 63 = .ok (.invokevirtual 112, 3) := by decide +kernel
theorem dX10_melt_66 : decode cX10_melt 66 = .ok (.invokevirtual 116, 3) := by decide +kernel
theorem dX10_melt_69 : decode cX10_melt 69 = .ok (.ireturn, 1) := by decide +kernel
theorem dX10_melt_70 : decode cX10_melt 70 = .ok (.iconst (-1), 1) := by decide +kernel
theorem dX10_melt_71 : decode cX10_melt 71 = .ok (.ireturn, 1) := by decide +kernel
theorem dX10_set_0 : decode cX10_set 0 = .ok (.iload_n 1, 1) := by decide +kernel
theorem dX10_set_1 : decode cX10_set 1 = .ok (.iconst 0, 1) := by decide +kernel
theorem dX10_set_2 : decode cX10_set 2 = .ok (.getstatic 119, 3) := by decide +kernel
theorem dX10_set_5 : decode cX10_set 5 = .ok (.arraylength, 1) := by decide +kernel
theorem dX10_set_6 : decode cX10_set 6 = .ok (.iconst 1, 1) := by decide +kernel
theorem dX10_set_7 : decode cX10_set 7 = .ok (.isub, 1) := by decide +kernel
theorem dX10_set_8 : decode cX10_set 8 = .ok (.invokestatic 50, 3) := by decide +kernel
theorem dX10_set_11 : decode cX10_set 11 = .ok (.ifCond .eq 20, 3) := by decide +kernel
theorem dX10_set_14 : decode cX10_set 14 = .ok (.iload_n 2, 1) := by decide +kernel
theorem dX10_set_15 : decode cX10_set 15 = .ok (.getstatic 123, 3) := by decide +kernel
theorem dX10_set_18 : decode cX10_set 18 = .ok (.iload_n 1, 1) := by decide +kernel
theorem dX10_set_19 : decode cX10_set 19 = .ok (.iaload, 1) := by decide +kernel
theorem dX10_set_20 : decode cX10_set 20 = .ok (.getstatic 126, 3) := by decide +kernel
theorem dX10_set_23 : decode cX10_set 23 = .ok (.iload_n 1, 1) := by decide +kernel
theorem dX10_set_24 : decode cX10_set 24 = .ok (.iaload, 1) := by decide +kernel
theorem dX10_set_25 : decode cX10_set 25 = .ok (.invokestatic 50, 3) := by decide +kernel
theorem dX10_set_28 : decode cX10_set 28 = .ok (.ifCond .ne 5, 3) := by decide +kernel
theorem dX10_set_31 : decode cX10_set 31 = .ok (.iconst (-1), 1) := by decide +kernel
theorem dX10_set_32 : decode cX10_set 32 = .ok (.ireturn, 1) := by decide +kernel
theorem dX10_set_33 : decode cX10_set 33 = .ok (.aload_n 0, 1) := by decide +kernel
theorem dX10_set_34 : decode cX10_set 34 = .ok (.getfield 19, 3) := by decide +kernel
theorem dX10_set_37 : decode cX10_set 37 = .ok (.aload_n 0, 1) := by decide +kernel
theorem dX10_set_38 : decode cX10_set 38 = .ok (.getfield 10, 3) := by decide +kernel
theorem dX10_set_41 : decode cX10_set 41 = .ok (.invokevirtual 65, 3) := by decide +kernel
theorem dX10_set_44 : decode cX10_set 44 = .ok (.aload_n 0, 1) := by decide +kernel
theorem dX10_set_45 : decode cX10_set 45 = .ok (.getfield 10, 3) := by decide +kernel
theorem dX10_set_48 : decode cX10_set 48 = .ok (.getfield 129, 3) := by decide +kernel
theorem dX10_set_51 : decode cX10_set 51 = .ok (.iload_n 1, 1) := by decide +kernel
theorem dX10_set_52 : decode cX10_set 52 = .ok (.iaload, 1) := by decide +kernel
theorem dX10_set_53 : decode cX10_set 53 = .ok (.istore_n 3, 1) := by decide +kernel
theorem dX10_set_54 : decode cX10_set 54 = .ok (.aload_n 0, 1) := by decide +kernel
theorem dX10_set_55 : decode cX10_set 55 = .ok (.getfield 10, 3) := by decide +kernel
theorem dX10_set_58 : decode cX10_set 58 = .ok (.getfield 129, 3) := by decide +kernel
theorem dX10_set_61 : decode cX10_set 61 = .ok (.iload_n 1, 1) := by decide +kernel
theorem dX10_set_62 : decode cX10_set 62 = .ok (.iload_n 2, 1) := by decide +kernel
theorem dX10_set_63 : decode cX10_set 63 = .ok (.iastore, 1) := by decide +kernel
theorem dX10_set_64 : decode cX10_set 64 = .ok (.iload_n 3, 1) := by decide +kernel
theorem dX10_set_65 : decode cX10_set 65 = .ok (.ireturn, 1) := by decide +kernel
theorem dX10_pour_0 : decode cX10_pour 0 = .ok (.iload_n 1, 1) := by decide +kernel
theorem dX10_pour_1 : decode cX10_pour 1 = .ok (.invokestatic 132, 3) := by decide +kernel
theorem dX10_pour_4 : decode cX10_pour 4 = .ok (.ifCond .eq 14, 3) := by decide +kernel
theorem dX10_pour_7 : decode cX10_pour 7 = .ok (.iload_n 2, 1) := by decide +kernel
theorem dX10_pour_8 : decode cX10_pour 8 = .ok (.iconst 1, 1) := by decide +kernel
theorem dX10_pour_9 : decode cX10_pour 9 = .ok (.sipush 10000, 3) := by decide +kernel
theorem dX10_pour_12 : decode cX10_pour 12 = .ok (.invokestatic 50, 3) := by decide +kernel
theorem dX10_pour_15 : decode cX10_pour 15 = .ok (.ifCond .ne 5, 3) := by decide +kernel
theorem dX10_pour_18 : decode cX10_pour 18 = .ok (.iconst (-1), 1) := by decide +kernel
theorem dX10_pour_19 : decode cX10_pour 19 = .ok (.ireturn, 1) := by decide +kernel
theorem dX10_pour_20 : decode cX10_pour 20 = .ok (.aload_n 0, 1) := by decide +kernel
theorem dX10_pour_21 : decode cX10_pour 21 = .ok (.getfield 10, 3) := by decide +kernel
theorem dX10_pour_24 : decode cX10_pour 24 = .ok (.invokevirtual 112, 3) := by decide +kernel
theorem dX10_pour_27 : decode cX10_pour 27 = .ok (.invokevirtual 79, 3) := by decide +kernel
theorem dX10_pour_30 : decode cX10_pour 30 = .ok (.aload_n 0, 1) := by decide +kernel
theorem dX10_pour_31 : decode cX10_pour 31 = .ok (.getfield 10, 3) := by decide +kernel
theorem dX10_pour_34 : decode cX10_pour 34 = .ok (.iload_n 2, 1) := by decide +kernel
theorem dX10_pour_35 : decode cX10_pour 35 = .ok (.invokevirtual 135, 3) := by decide +kernel
theorem dX10_pour_38 : decode cX10_pour 38 = .ok (.if_icmp .ge 6, 3) := by decide +kernel
theorem dX10_pour_41 : decode cX10_pour 41 = .ok (.bipush (-2), 2) := by decide +kernel
theorem dX10_pour_43 : decode cX10_pour 43 = .ok (.ireturn, 1) := by decide +kernel
theorem dX10_pour_44 : decode cX10_pour 44 = .ok (.aload_n 0, 1) := by decide +kernel
theorem dX10_pour_45 : decode cX10_pour 45 = .ok (.getfield 10, 3) := by decide +kernel
theorem dX10_pour_48 : decode cX10_pour 48 = .ok (.invokevirtual 138, 3) := by decide +kernel
theorem dX10_pour_51 : decode cX10_pour 51 = .ok (.bipush 12, 2) := by decide +kernel
theorem dX10_pour_53 : decode cX10_pour 53 = .ok (.if_icmp .ge 15, 3) := by decide +kernel
theorem dX10_pour_56 : decode cX10_pour 56 = .ok (.aload_n 0, 1) := by decide +kernel
theorem dX10_pour_57 : decode cX10_pour 57 = .ok (.getfield 10, 3) := by decide +kernel
theorem dX10_pour_60 : decode cX10_pour 60 = .ok (.getfield 141, 3) := by decide +kernel
theorem dX10_pour_63 : decode cX10_pour 63 = .ok (.bipush 100, 2) := by decide +kernel
theorem dX10_pour_65 : decode cX10_pour 65 = .ok (.if_icmp .lt 6, 3) := by decide +kernel
theorem dX10_pour_68 : decode cX10_pour 68 = .ok (.bipush (-3), 2) := by decide +kernel
theorem dX10_pour_70 : decode cX10_pour 70 = .ok (.ireturn, 1) := by decide +kernel
theorem dX10_pour_71 : decode cX10_pour 71 = .ok (.aload_n 0, 1) := by decide +kernel
theorem dX10_pour_72 : decode cX10_pour 72 = .ok (.getfield 19, 3) := by decide +kernel
theorem dX10_pour_75 : decode cX10_pour 75 = .ok (.aload_n 0, 1) := by decide +kernel
theorem dX10_pour_76 : decode cX10_pour 76 = .ok (.getfield 10, 3) := by decide +kernel
theorem dX10_pour_79 : decode cX10_pour 79 = .ok (.invokevirtual 65, 3) := by decide +kernel
theorem dX10_pour_82 : decode cX10_pour 82 = .ok (.aload_n 0, 1) := by decide +kernel
theorem dX10_pour_83 : decode cX10_pour 83 = .ok (.getfield 10, 3) := by decide +kernel
theorem dX10_pour_86 : decode cX10_pour 86 = .ok (.iload_n 1, 1) := by decide +kernel
theorem dX10_pour_87 : decode cX10_pour 87 = .ok (.iload_n 2, 1) := by decide +kernel
theorem dX10_pour_88 : decode cX10_pour 88 = .ok (.invokevirtual 144, 3) := by decide +kernel
theorem dX10_pour_91 : decode cX10_pour 91 = .ok (.ireturn, 1) := by decide +kernel
theorem dX10_tune_0 : decode cX10_tune 0 = .ok (.aload_n 0, 1) := by decide +kernel
theorem dX10_tune_1 : decode cX10_tune 1 = .ok (.getfield 10, 3) := by decide +kernel
theorem dX10_tune_4 : decode cX10_tune 4 = .ok (.iload_n 1, 1) := by decide +kernel
theorem dX10_tune_5 : decode cX10_tune 5 = .ok (.invokevirtual 148, 3) := by decide +kernel
theorem dX10_tune_8 : decode cX10_tune 8 = .ok (.astore_n 3, 1) := by decide +kernel
theorem dX10_tune_9 : decode cX10_tune 9 = .ok (.aload_n 3, 1) := by decide +kernel
theorem dX10_tune_10 : decode cX10_tune 10 = .ok (.ifnull 14, 3) := by decide +kernel
theorem dX10_tune_13 : decode cX10_tune 13 = .ok (.iload_n 2, 1) := by decide +kernel
theorem dX10_tune_14 : decode cX10_tune 14 = .ok (.iconst 1, 1) := by decide +kernel
theorem dX10_tune_15 : decode cX10_tune 15 = .ok (.sipush 1000, 3) := by decide +kernel
theorem dX10_tune_18 : decode cX10_tune 18 = .ok (.invokestatic 50, 3) := by decide +kernel
theorem dX10_tune_21 : decode cX10_tune 21 = .ok (.ifCond .ne 5, 3) := by decide +kernel
theorem dX10_tune_24 : decode cX10_tune 24 = .ok (.iconst (-1), 1) := by decide +kernel
theorem dX10_tune_25 : decode cX10_tune 25 = .ok (.ireturn, 1) := by decide +kernel
theorem dX10_tune_26 : decode cX10_tune 26 = .ok (.aload_n 3, 1) := by decide +kernel
theorem dX10_tune_27 : decode cX10_tune 27 = .ok (.getfield 152, 3) := by decide +kernel
theorem dX10_tune_30 : decode cX10_tune 30 = .ok (.ifCond .ne 14, 3) := by decide +kernel
theorem dX10_tune_33 : decode cX10_tune 33 = .ok (.aload_n 3, 1) := by decide +kernel
theorem dX10_tune_34 : decode cX10_tune 34 = .ok (.getfield 157, 3) := by decide +kernel
theorem dX10_tune_37 : decode cX10_tune 37 = .ok (.invokevirtual 79, 3) := by decide +kernel
theorem dX10_tune_40 : decode cX10_tune 40 = .ok (.iload_n 2, 1) := by decide +kernel
theorem dX10_tune_41 : decode cX10_tune 41 = .ok (.if_icmp .gt 6, 3) := by decide +kernel
theorem dX10_tune_44 : decode cX10_tune 44 = .ok (.bipush (-2), 2) := by decide +kernel
theorem dX10_tune_46 : decode cX10_tune 46 = .ok (.ireturn, 1) := by decide +kernel
theorem dX10_tune_47 : decode cX10_tune 47 = .ok (.aload_n 0, 1) := by decide +kernel
theorem dX10_tune_48 : decode cX10_tune 48 = .ok (.getfield 19, 3) := by decide +kernel
theorem dX10_tune_51 : decode cX10_tune 51 = .ok (.aload_n 0, 1) := by decide +kernel
theorem dX10_tune_52 : decode cX10_tune 52 = .ok (.getfield 10, 3) := by decide +kernel
theorem dX10_tune_55 : decode cX10_tune 55 = .ok (.invokevirtual 65, 3) := by decide +kernel
theorem dX10_tune_58 : decode cX10_tune 58 = .ok (.aload_n 0, 1) := by decide +kernel
theorem dX10_tune_59 : decode cX10_tune 59 = .ok (.getfield 10, 3) := by decide +kernel
theorem dX10_tune_62 : decode cX10_tune 62 = .ok (.aload_n 3, 1) := by decide +kernel
theorem dX10_tune_63 : decode cX10_tune 63 = .ok (.iload_n 2, 1) := by decide +kernel
theorem dX10_tune_64 : decode cX10_tune 64 = .ok (.invokevirtual 158, 3) := by decide +kernel
theorem dX10_tune_67 : decode cX10_tune 67 = .ok (.aload_n 3, 1) := by decide +kernel
theorem dX10_tune_68 : decode cX10_tune 68 = .ok (.getfield 162, 3) := by decide +kernel
theorem dX10_tune_71 : decode cX10_tune 71 = .ok (.ireturn, 1) := by decide +kernel
theorem dX10_smash_0 : decode cX10_smash 0 = .ok (.aload_n 0, 1) := by decide +kernel
theorem dX10_smash_1 : decode cX10_smash 1 = .ok (.getfield 10, 3) := by decide +kernel
theorem dX10_smash_4 : decode cX10_smash 4 = .ok (.iload_n 1, 1) := by decide +kernel
theorem dX10_smash_5 : decode cX10_smash 5 = .ok (.invokevirtual 148, 3) := by decide +kernel
theorem dX10_smash_8 : decode cX10_smash 8 = .ok (.astore_n 2, 1) := by decide +kernel
theorem dX10_smash_9 : decode cX10_smash 9 = .ok (.aload_n 2, 1) := by decide +kernel
theorem dX10_smash_10 : decode cX10_smash 10 = .ok (.ifnonnull 5, 3) := by decide +kernel
theorem dX10_smash_13 : decode cX10_smash 13 = .ok (.iconst (-1), 1) := by decide +kernel
theorem dX10_smash_14 : decode cX10_smash 14 = .ok (.ireturn, 1) := by decide +kernel
theorem dX10_smash_15 : decode cX10_smash 15 = .ok (.aload_n 2, 1) := by decide +kernel
theorem dX10_smash_16 : decode cX10_smash 16 = .ok (.invokevirtual 165, 3) := by decide +kernel
theorem dX10_smash_19 : decode cX10_smash 19 = .ok (.ifCond .ne 6, 3) := by decide +kernel
theorem dX10_smash_22 : decode cX10_smash 22 = .ok (.bipush (-2), 2) := by decide +kernel
theorem dX10_smash_24 : decode cX10_smash 24 = .ok (.ireturn, 1) := by decide +kernel
theorem dX10_smash_25 : decode cX10_smash 25 = .ok (.aload_n 0, 1) := by decide +kernel
theorem dX10_smash_26 : decode cX10_smash 26 = .ok (.getfield 19, 3) := by decide +kernel
theorem dX10_smash_29 : decode cX10_smash 29 = .ok (.aload_n 0, 1) := by decide +kernel
theorem dX10_smash_30 : decode cX10_smash 30 = .ok (.getfield 10, 3) := by decide +kernel
theorem dX10_smash_33 : decode cX10_smash 33 = .ok (.invokevirtual 65, 3) := by decide +kernel
theorem dX10_smash_36 : decode cX10_smash 36 = .ok (.aload_n 2, 1) := by decide +kernel
theorem dX10_smash_37 : decode cX10_smash 37 = .ok (.getfield 157, 3) := by decide +kernel
theorem dX10_smash_40 : decode cX10_smash 40 = .ok (.invokevirtual 79, 3) := by decide +kernel
theorem dX10_smash_43 : decode cX10_smash 43 = .ok (.istore_n 3, 1) := by decide +kernel
theorem dX10_smash_44 : decode cX10_smash 44 = .ok (.aload_n 0, 1) := by decide +kernel
theorem dX10_smash_45 : decode cX10_smash 45 = .ok (.getfield 10, 3) := by decide +kernel
theorem dX10_smash_48 : decode cX10_smash 48 = .ok (.aload_n 2, 1) := by decide +kernel
theorem dX10_smash_49 : decode cX10_smash 49 = .ok (.invokevirtual 169, 3) := by decide +kernel
theorem dX10_smash_52 : decode cX10_smash 52 = .ok (.iload_n 3, 1) := by decide +kernel
theorem dX10_smash_53 : decode cX10_smash 53 = .ok (.ireturn, 1) := by decide +kernel
theorem dX10_bell_0 : decode cX10_bell 0 = .ok (.aload_n 0, 1) := by decide +kernel
theorem dX10_bell_1 : decode cX10_bell 1 = .ok (.getfield 10, 3) := by decide +kernel
theorem dX10_bell_4 : decode cX10_bell 4 = .ok (.iload_n 1, 1) := by decide +kernel
theorem dX10_bell_5 : decode cX10_bell 5 = .ok (.invokevirtual 148, 3) := by decide +kernel
theorem dX10_bell_8 : decode cX10_bell 8 = .ok (.astore_n 3, 1) := by decide +kernel
theorem dX10_bell_9 : decode cX10_bell 9 = .ok (.aload_n 3, 1) := by decide +kernel
theorem dX10_bell_10 : decode cX10_bell 10 = .ok (.ifnull 13, 3) := by decide +kernel
theorem dX10_bell_13 : decode cX10_bell 13 = .ok (.iload_n 2, 1) := by decide +kernel
theorem dX10_bell_14 : decode cX10_bell 14 = .ok (.iconst 0, 1) := by decide +kernel
theorem dX10_bell_15 : decode cX10_bell 15 = .ok (.bipush 9, 2) := by decide +kernel
theorem dX10_bell_17 : decode cX10_bell 17 = .ok (.invokestatic 50, 3) := by decide +kernel
theorem dX10_bell_20 : decode cX10_bell 20 = .ok (.ifCond .ne 5, 3) := by decide +kernel
theorem dX10_bell_23 : decode cX10_bell 23 = .ok (.iconst (-1), 1) := by decide +kernel
theorem dX10_bell_24 : decode cX10_bell 24 = .ok (.ireturn, 1) := by decide +kernel
theorem dX10_bell_25 : decode cX10_bell 25 = .ok (.iload_n 2, 1) := by decide +kernel
theorem dX10_bell_26 : decode cX10_bell 26 = .ok (.tableswitch 81 4 9 #[38, 43, 48, 53, 58, 63], 38) := by decide +kernel
theorem dX10_bell_64 : decode cX10_bell 64 = .ok (.aload_n 3, 1) := by decide +kernel
theorem dX10_bell_65 : decode cX10_bell 65 = .ok (.getfield 173, 3) := by decide +kernel
theorem dX10_bell_68 : decode cX10_bell 68 = .ok (.ireturn, 1) := by decide +kernel
theorem dX10_bell_69 : decode cX10_bell 69 = .ok (.aload_n 3, 1) := by decide +kernel
theorem dX10_bell_70 : decode cX10_bell 70 = .ok (.getfield 162, 3) := by decide +kernel
theorem dX10_bell_73 : decode cX10_bell 73 = .ok (.ireturn, 1) := by decide +kernel
theorem dX10_bell_74 : decode cX10_bell 74 = .ok (.aload_n 3, 1) := by decide +kernel
theorem dX10_bell_75 : decode cX10_bell 75 = .ok (.getfield 176, 3) := by decide +kernel
theorem dX10_bell_78 : decode cX10_bell 78 = .ok (.ireturn, 1) := by decide +kernel
theorem dX10_bell_79 : decode cX10_bell 79 = .ok (.aload_n 3, 1) := by decide +kernel
theorem dX10_bell_80 : decode cX10_bell 80 = .ok (.getfield 179, 3) := by decide +kernel
theorem dX10_bell_83 : decode cX10_bell 83 = .ok (.ireturn, 1) := by decide +kernel
theorem dX10_bell_84 : decode cX10_bell 84 = .ok (.aload_n 3, 1) := by decide +kernel
theorem dX10_bell_85 : decode cX10_bell 85 = .ok (.getfield 152, 3) := by decide +kernel
theorem dX10_bell_88 : decode cX10_bell 88 = .ok (.ireturn, 1) := by decide +kernel
theorem dX10_bell_89 : decode cX10_bell 89 = .ok (.aload_n 3, 1) := by decide +kernel
theorem dX10_bell_90 : decode cX10_bell 90 = .ok (.getfield 152, 3) := by decide +kernel
theorem dX10_bell_93 : decode cX10_bell 93 = .ok (.iconst 2, 1) := by decide +kernel
theorem dX10_bell_94 : decode cX10_bell 94 = .ok (.if_icmp .ne 10, 3) := by decide +kernel
theorem dX10_bell_97 : decode cX10_bell 97 = .ok (.aload_n 3, 1) := by decide +kernel
theorem dX10_bell_98 : decode cX10_bell 98 = .ok (.getfield 182, 3) := by decide +kernel
theorem dX10_bell_101 : decode cX10_bell 101 = .ok (.goto 5, 3) := by decide +kernel
theorem dX10_bell_104 : decode cX10_bell 104 = .ok (.bipush (-4), 2) := by decide +kernel
theorem dX10_bell_106 : decode cX10_bell 106 = .ok (.ireturn, 1) := by decide +kernel
theorem dX10_bell_107 : decode cX10_bell 107 = .ok (.aload_n 3, 1) := by decide +kernel
theorem dX10_bell_108 : decode cX10_bell 108 = .ok (.getfield 152, 3) := by decide +kernel
theorem dX10_bell_111 : decode cX10_bell 111 = .ok (.iconst 3, 1) := by decide +kernel
theorem dX10_bell_112 : decode cX10_bell 112 = .ok (.if_icmp .ne 8, 3) := by decide +kernel
theorem dX10_bell_115 : decode cX10_bell 115 = .ok (.bipush (-4), 2) := by decide +kernel
theorem dX10_bell_117 : decode cX10_bell 117 = .ok (.goto 11, 3) := by decide +kernel
theorem dX10_bell_120 : decode cX10_bell 120 = .ok (.aload_n 3, 1) := by decide +kernel
theorem dX10_bell_121 : decode cX10_bell 121 = .ok (.getfield 157, 3) := by decide +kernel
theorem dX10_bell_124 : decode cX10_bell 124 = .ok (.iload_n 2, 1) := by decide +kernel
theorem dX10_bell_125 : decode cX10_bell 125 = .ok (.invokevirtual 109, 3) := by decide +kernel
theorem dX10_bell_128 : decode cX10_bell 128 = .ok (.ireturn, 1) := by decide +kernel
theorem dX10_order_0 : decode cX10_order 0 = .ok (.iload_n 1, 1) := by decide +kernel
theorem dX10_order_1 : decode cX10_order 1 = .ok (.invokestatic 132, 3) := by decide +kernel
theorem dX10_order_4 : decode cX10_order 4 = .ok (.ifCond .eq 25, 3) := by decide +kernel
theorem dX10_order_7 : decode cX10_order 7 = .ok (.iload_n 2, 1) := by decide +kernel
theorem dX10_order_8 : decode cX10_order 8 = .ok (.iconst 1, 1) := by decide +kernel
theorem dX10_order_9 : decode cX10_order 9 = .ok (.sipush 20000, 3) := by decide +kernel
theorem dX10_order_12 : decode cX10_order 12 = .ok (.invokestatic 50, 3) := by decide +kernel
theorem dX10_order_15 : decode cX10_order 15 = .ok (.ifCond .eq 14, 3) := by decide +kernel
theorem dX10_order_18 : decode cX10_order 18 = .ok (.iload_n 3, 1) := by decide +kernel
theorem dX10_order_19 : decode cX10_order 19 = .ok (.iconst 0, 1) := by decide +kernel
theorem dX10_order_20 : decode cX10_order 20 = .ok (.sipush 500, 3) := by decide +kernel
theorem dX10_order_23 : decode cX10_order 23 = .ok (.invokestatic 50, 3) := by decide +kernel
theorem dX10_order_26 : decode cX10_order 26 = .ok (.ifCond .ne 5, 3) := by decide +kernel
theorem dX10_order_29 : decode cX10_order 29 = .ok (.iconst (-1), 1) := by decide +kernel
theorem dX10_order_30 : decode cX10_order 30 = .ok (.ireturn, 1) := by decide +kernel
theorem dX10_order_31 : decode cX10_order 31 = .ok (.aload_n 0, 1) := by decide +kernel
theorem dX10_order_32 : decode cX10_order 32 = .ok (.getfield 10, 3) := by decide +kernel
theorem dX10_order_35 : decode cX10_order 35 = .ok (.iconst 0, 1) := by decide +kernel
theorem dX10_order_36 : decode cX10_order 36 = .ok (.invokevirtual 185, 3) := by decide +kernel
theorem dX10_order_39 : decode cX10_order 39 = .ok (.bipush 8, 2) := by decide +kernel
theorem dX10_order_41 : decode cX10_order 41 = .ok (.if_icmp .ge 15, 3) := by decide +kernel
theorem dX10_order_44 : decode cX10_order 44 = .ok (.aload_n 0, 1) := by decide +kernel
theorem dX10_order_45 : decode cX10_order 45 = .ok (.getfield 10, 3) := by decide +kernel
theorem dX10_order_48 : decode cX10_order 48 = .ok (.getfield 188, 3) := by decide +kernel
theorem dX10_order_51 : decode cX10_order 51 = .ok (.bipush 100, 2) := by decide +kernel
theorem dX10_order_53 : decode cX10_order 53 = .ok (.if_icmp .lt 6, 3) := by decide +kernel
theorem dX10_order_56 : decode cX10_order 56 = .ok (.bipush (-3), 2) := by decide +kernel
theorem dX10_order_58 : decode cX10_order 58 = .ok (.ireturn, 1) := by decide +kernel
theorem dX10_order_59 : decode cX10_order 59 = .ok (.aload_n 0, 1) := by decide +kernel
theorem dX10_order_60 : decode cX10_order 60 = .ok (.getfield 19, 3) := by decide +kernel
theorem dX10_order_63 : decode cX10_order 63 = .ok (.aload_n 0, 1) := by decide +kernel
theorem dX10_order_64 : decode cX10_order 64 = .ok (.getfield 10, 3) := by decide +kernel
theorem dX10_order_67 : decode cX10_order 67 = .ok (.invokevirtual 65, 3) := by decide +kernel
theorem dX10_order_70 : decode cX10_order 70 = .ok (.aload_n 0, 1) := by decide +kernel
theorem dX10_order_71 : decode cX10_order 71 = .ok (.getfield 10, 3) := by decide +kernel
theorem dX10_order_74 : decode cX10_order 74 = .ok (.iload_n 1, 1) := by decide +kernel
theorem dX10_order_75 : decode cX10_order 75 = .ok (.iload_n 2, 1) := by decide +kernel
theorem dX10_order_76 : decode cX10_order 76 = .ok (.iload_n 3, 1) := by decide +kernel
theorem dX10_order_77 : decode cX10_order 77 = .ok (.invokevirtual 191, 3) := by decide +kernel
theorem dX10_order_80 : decode cX10_order 80 = .ok (.ireturn, 1) := by decide +kernel
theorem dX10_cancel_0 : decode cX10_cancel 0 = .ok (.aload_n 0, 1) := by decide +kernel
theorem dX10_cancel_1 : decode cX10_cancel 1 = .ok (.getfield 10, 3) := by decide +kernel
theorem dX10_cancel_4 : decode cX10_cancel 4 = .ok (.iload_n 1, 1) := by decide +kernel
theorem dX10_cancel_5 : decode cX10_cancel 5 = .ok (.invokevirtual 195, 3) := by decide +kernel
theorem dX10_cancel_8 : decode cX10_cancel 8 = .ok (.astore_n 2, 1) := by decide +kernel
theorem dX10_cancel_9 : decode cX10_cancel 9 = .ok (.aload_n 2, 1) := by decide +kernel
theorem dX10_cancel_10 : decode cX10_cancel 10 = .ok (.ifnonnull 5, 3) := by decide +kernel
theorem dX10_cancel_13 : decode cX10_cancel 13 = .ok (.iconst (-1), 1) := by decide +kernel
theorem dX10_cancel_14 : decode cX10_cancel 14 = .ok (.ireturn, 1) := by decide +kernel
theorem dX10_cancel_15 : decode cX10_cancel 15 = .ok (.aload_n 2, 1) := by decide +kernel
theorem dX10_cancel_16 : decode cX10_cancel 16 = .ok (.getfield 199, 3) := by decide +kernel
theorem dX10_cancel_19 : decode cX10_cancel 19 = .ok (.ifCond .eq 6, 3) := by decide +kernel
theorem dX10_cancel_22 : decode cX10_cancel 22 = .ok (.bipush (-2), 2) := by decide +kernel
theorem dX10_cancel_24 : decode cX10_cancel 24 = .ok (.ireturn, 1) := by decide +kernel
theorem dX10_cancel_25 : decode cX10_cancel 25 = .ok (.aload_n 0, 1) := by decide +kernel
theorem dX10_cancel_26 : decode cX10_cancel 26 = .ok (.getfield 19, 3) := by decide +kernel
theorem dX10_cancel_29 : decode cX10_cancel 29 = .ok (.aload_n 0, 1) := by decide +kernel
theorem dX10_cancel_30 : decode cX10_cancel 30 = .ok (.getfield 10, 3) := by decide +kernel
theorem dX10_cancel_33 : decode cX10_cancel 33 = .ok (.invokevirtual 65, 3) := by decide +kernel
theorem dX10_cancel_36 : decode cX10_cancel 36 = .ok (.aload_n 2, 1) := by decide +kernel
theorem dX10_cancel_37 : decode cX10_cancel 37 = .ok (.iconst 2, 1) := by decide +kernel
theorem dX10_cancel_38 : decode cX10_cancel 38 = .ok (.putfield 199, 3) := by decide +kernel
theorem dX10_cancel_41 : decode cX10_cancel 41 = .ok (.aload_n 0, 1) := by decide +kernel
theorem dX10_cancel_42 : decode cX10_cancel 42 = .ok (.getfield 10, 3) := by decide +kernel
theorem dX10_cancel_45 : decode cX10_cancel 45 = .ok (.iconst 0, 1) := by decide +kernel
theorem dX10_cancel_46 : decode cX10_cancel 46 = .ok (.invokevirtual 185, 3) := by decide +kernel
theorem dX10_cancel_49 : decode cX10_cancel 49 = .ok (.ireturn, 1) := by decide +kernel
theorem dX10_send_0 : decode cX10_send 0 = .ok (.aload_n 0, 1) := by decide +kernel
theorem dX10_send_1 : decode cX10_send 1 = .ok (.getfield 10, 3) := by decide +kernel
theorem dX10_send_4 : decode cX10_send 4 = .ok (.iload_n 1, 1) := by decide +kernel
theorem dX10_send_5 : decode cX10_send 5 = .ok (.invokevirtual 148, 3) := by decide +kernel
theorem dX10_send_8 : decode cX10_send 8 = .ok (.astore_n 3, 1) := by decide +kernel
theorem dX10_send_9 : decode cX10_send 9 = .ok (.aload_n 0, 1) := by decide +kernel
theorem dX10_send_10 : decode cX10_send 10 = .ok (.getfield 10, 3) := by decide +kernel
theorem dX10_send_13 : decode cX10_send 13 = .ok (.iload_n 2, 1) := by decide +kernel
theorem dX10_send_14 : decode cX10_send 14 = .ok (.invokevirtual 195, 3) := by decide +kernel
theorem dX10_send_17 : decode cX10_send 17 = .ok (.astore 4, 2) := by decide +kernel
theorem dX10_send_19 : decode cX10_send 19 = .ok (.aload_n 3, 1) := by decide +kernel
theorem dX10_send_20 : decode cX10_send 20 = .ok (.ifnull 8, 3) := by decide +kernel
theorem dX10_send_23 : decode cX10_send 23 = .ok (.aload 4, 2) := by decide +kernel
theorem dX10_send_25 : decode cX10_send 25 = .ok (.ifnonnull 5, 3) := by decide +kernel
theorem dX10_send_28 : decode cX10_send 28 = .ok (.iconst (-1), 1) := by decide +kernel
theorem dX10_send_29 : decode cX10_send 29 = .ok (.ireturn, 1) := by decide +kernel
theorem dX10_send_30 : decode cX10_send 30 = .ok (.aload_n 3, 1) := by decide +kernel
theorem dX10_send_31 : decode cX10_send 31 = .ok (.getfield 157, 3) := by decide +kernel
theorem dX10_send_34 : decode cX10_send 34 = .ok (.invokevirtual 79, 3) := by decide +kernel
theorem dX10_send_37 : decode cX10_send 37 = .ok (.istore 5, 2) := by decide +kernel
theorem dX10_send_39 : decode cX10_send 39 = .ok (.aload 4, 2) := by decide +kernel
theorem dX10_send_41 : decode cX10_send 41 = .ok (.getfield 199, 3) := by decide +kernel
theorem dX10_send_44 : decode cX10_send 44 = .ok (.ifCond .ne 27, 3) := by decide +kernel
theorem dX10_send_47 : decode cX10_send 47 = .ok (.aload 4, 2) := by decide +kernel
theorem dX10_send_49 : decode cX10_send 49 = .ok (.aload_n 3, 1) := by decide +kernel
theorem dX10_send_50 : decode cX10_send 50 = .ok (.invokevirtual 202, 3) := by decide +kernel
theorem dX10_send_53 : decode cX10_send 53 = .ok (.ifCond .eq 18, 3) := by decide +kernel
theorem dX10_send_56 : decode cX10_send 56 = .ok (.iload 5, 2) := by decide +kernel
theorem dX10_send_58 : decode cX10_send 58 = .ok (.aload_n 0, 1) := by decide +kernel
theorem dX10_send_59 : decode cX10_send 59 = .ok (.getfield 10, 3) := by decide +kernel
theorem dX10_send_62 : decode cX10_send 62 = .ok (.getfield 129, 3) := by decide +kernel
theorem dX10_send_65 : decode cX10_send 65 = .ok (.bipush 6, 2) := by decide +kernel
theorem dX10_send_67 : decode cX10_send 67 = .ok (.iaload, 1) := by decide +kernel
theorem dX10_send_68 : decode cX10_send 68 = .ok (.if_icmp .le 6, 3) := by decide +kernel
theorem dX10_send_71 : decode cX10_send 71 = .ok (.bipush (-2), 2) := by decide +kernel
theorem dX10_send_73 : decode cX10_send 73 = .ok (.ireturn, 1) := by decide +kernel
theorem dX10_send_74 : decode cX10_send 74 = .ok (.aload_n 0, 1) := by decide +kernel
theorem dX10_send_75 : decode cX10_send 75 = .ok (.getfield 19, 3) := by decide +kernel
theorem dX10_send_78 : decode cX10_send 78 = .ok (.aload_n 0, 1) := by decide +kernel
theorem dX10_send_79 : decode cX10_send 79 = .ok (.getfield 10, 3) := by decide +kernel
theorem dX10_send_82 : decode cX10_send 82 = .ok (.invokevirtual 65, 3) := by decide +kernel
theorem dX10_send_85 : decode cX10_send 85 = .ok (.aload_n 3, 1) := by decide +kernel
theorem dX10_send_86 : decode cX10_send 86 = .ok (.iconst 2, 1) := by decide +kernel
theorem dX10_send_87 : decode cX10_send 87 = .ok (.putfield 152, 3) := by decide +kernel
theorem dX10_send_90 : decode cX10_send 90 = .ok (.aload_n 3, 1) := by decide +kernel
theorem dX10_send_91 : decode cX10_send 91 = .ok (.iload_n 2, 1) := by decide +kernel
theorem dX10_send_92 : decode cX10_send 92 = .ok (.putfield 182, 3) := by decide +kernel
theorem dX10_send_95 : decode cX10_send 95 = .ok (.aload 4, 2) := by decide +kernel
theorem dX10_send_97 : decode cX10_send 97 = .ok (.iconst 1, 1) := by decide +kernel
theorem dX10_send_98 : decode cX10_send 98 = .ok (.putfield 199, 3) := by decide +kernel
theorem dX10_send_101 : decode cX10_send 101 = .ok (.iload 5, 2) := by decide +kernel
theorem dX10_send_103 : decode cX10_send 103 = .ok (.ireturn, 1) := by decide +kernel
theorem dX10_orderOf_0 : decode cX10_orderOf 0 = .ok (.aload_n 0, 1) := by decide +kernel
theorem dX10_orderOf_1 : decode cX10_orderOf 1 = .ok (.getfield 10, 3) := by decide +kernel
theorem dX10_orderOf_4 : decode cX10_orderOf 4 = .ok (.iload_n 1, 1) := by decide +kernel
theorem dX10_orderOf_5 : decode cX10_orderOf 5 = .ok (.invokevirtual 195, 3) := by decide +kernel
theorem dX10_orderOf_8 : decode cX10_orderOf 8 = .ok (.astore_n 3, 1) := by decide +kernel
theorem dX10_orderOf_9 : decode cX10_orderOf 9 = .ok (.aload_n 3, 1) := by decide +kernel
theorem dX10_orderOf_10 : decode cX10_orderOf 10 = .ok (.ifnonnull 5, 3) := by decide +kernel
theorem dX10_orderOf_13 : decode cX10_orderOf 13 = .ok (.iconst (-1), 1) := by decide +kernel
theorem dX10_orderOf_14 : decode cX10_orderOf 14 = .ok (.ireturn, 1) := by decide +kernel
theorem dX10_orderOf_15 : decode cX10_orderOf 15 = .ok (.iload_n 2, 1) := by decide +kernel
theorem dX10_orderOf_16 : decode cX10_orderOf 16 = .ok (.tableswitch 78 0 5 #[40, 45, 50, 55, 60, 69], 40) := by decide +kernel
theorem dX10_orderOf_56 : decode cX10_orderOf 56 = .ok (.aload_n 3, 1) := by decide +kernel
theorem dX10_orderOf_57 : decode cX10_orderOf 57 = .ok (.getfield 206, 3) := by decide +kernel
theorem dX10_orderOf_60 : decode cX10_orderOf 60 = .ok (.ireturn, 1) := by decide +kernel
theorem dX10_orderOf_61 : decode cX10_orderOf 61 = .ok (.aload_n 3, 1) := by decide +kernel
theorem dX10_orderOf_62 : decode cX10_orderOf 62 = .ok (.getfield 207, 3) := by decide +kernel
theorem dX10_orderOf_65 : decode cX10_orderOf 65 = .ok (.ireturn, 1) := by decide +kernel
theorem dX10_orderOf_66 : decode cX10_orderOf 66 = .ok (.aload_n 3, 1) := by decide +kernel
theorem dX10_orderOf_67 : decode cX10_orderOf 67 = .ok (.getfield 208, 3) := by decide +kernel
theorem dX10_orderOf_70 : decode cX10_orderOf 70 = .ok (.ireturn, 1) := by decide +kernel
theorem dX10_orderOf_71 : decode cX10_orderOf 71 = .ok (.aload_n 3, 1) := by decide +kernel
theorem dX10_orderOf_72 : decode cX10_orderOf 72 = .ok (.getfield 199, 3) := by decide +kernel
theorem dX10_orderOf_75 : decode cX10_orderOf 75 = .ok (.ireturn, 1) := by decide +kernel
theorem dX10_orderOf_76 : decode cX10_orderOf 76 = .ok (.aload_n 0, 1) := by decide +kernel
theorem dX10_orderOf_77 : decode cX10_orderOf 77 = .ok (.getfield 10, 3) := by decide +kernel
theorem dX10_orderOf_80 : decode cX10_orderOf 80 = .ok (.aload_n 3, 1) := by decide +kernel
theorem dX10_orderOf_81 : decode cX10_orderOf 81 = .ok (.invokevirtual 211, 3) := by decide +kernel
theorem dX10_orderOf_84 : decode cX10_orderOf 84 = .ok (.ireturn, 1) := by decide +kernel
theorem dX10_orderOf_85 : decode cX10_orderOf 85 = .ok (.aload_n 0, 1) := by decide +kernel
theorem dX10_orderOf_86 : decode cX10_orderOf 86 = .ok (.getfield 10, 3) := by decide +kernel
theorem dX10_orderOf_89 : decode cX10_orderOf 89 = .ok (.aload_n 3, 1) := by decide +kernel
theorem dX10_orderOf_90 : decode cX10_orderOf 90 = .ok (.invokevirtual 215, 3) := by decide +kernel
theorem dX10_orderOf_93 : decode cX10_orderOf 93 = .ok (.ireturn, 1) := by decide +kernel
theorem dX10_orderOf_94 : decode cX10_orderOf 94 = .ok (.iconst (-1), 1) := by decide +kernel
theorem dX10_orderOf_95 : decode cX10_orderOf 95 = .ok (.ireturn, 1) := by decide +kernel
theorem dX10_tuneFor_0 : decode cX10_tuneFor 0 = .ok (.aload_n 0, 1) := by decide +kernel
theorem dX10_tuneFor_1 : decode cX10_tuneFor 1 = .ok (.getfield 10, 3) := by decide +kernel
theorem dX10_tuneFor_4 : decode cX10_tuneFor 4 = .ok (.iload_n 1, 1) := by decide +kernel
theorem dX10_tuneFor_5 : decode cX10_tuneFor 5 = .ok (.invokevirtual 148, 3) := by decide +kernel
theorem dX10_tuneFor_8 : decode cX10_tuneFor 8 = .ok (.astore_n 3, 1) := by decide +kernel
theorem dX10_tuneFor_9 : decode cX10_tuneFor 9 = .ok (.aload_n 0, 1) := by decide +kernel
theorem dX10_tuneFor_10 : decode cX10_tuneFor 10 = .ok (.getfield 10, 3) := by decide +kernel
theorem dX10_tuneFor_13 : decode cX10_tuneFor 13 = .ok (.iload_n 2, 1) := by decide +kernel
theorem dX10_tuneFor_14 : decode cX10_tuneFor 14 = .ok (.invokevirtual 195, 3) := by decide +kernel
theorem dX10_tuneFor_17 : decode cX10_tuneFor 17 = .ok (.astore 4, 2) := by decide +kernel
theorem dX10_tuneFor_19 : decode cX10_tuneFor 19 = .ok (.aload_n 3, 1) := by decide +kernel
theorem dX10_tuneFor_20 : decode cX10_tuneFor 20 = .ok (.ifnull 8, 3) := by decide +kernel
theorem dX10_tuneFor_23 : decode cX10_tuneFor 23 = .ok (.aload 4, 2) := by decide +kernel
theorem dX10_tuneFor_25 : decode cX10_tuneFor 25 = .ok (.ifnonnull 5, 3) := by decide +kernel
theorem dX10_tuneFor_28 : decode cX10_tuneFor 28 = .ok (.iconst (-1), 1) := by decide +kernel
theorem dX10_tuneFor_29 : decode cX10_tuneFor 29 = .ok (.ireturn, 1) := by decide +kernel
theorem dX10_tuneFor_30 : decode cX10_tuneFor 30 = .ok (.aload_n 3, 1) := by decide +kernel
theorem dX10_tuneFor_31 : decode cX10_tuneFor 31 = .ok (.getfield 152, 3) := by decide +kernel
theorem dX10_tuneFor_34 : decode cX10_tuneFor 34 = .ok (.ifCond .eq 6, 3) := by decide +kernel
theorem dX10_tuneFor_37 : decode cX10_tuneFor 37 = .ok (.bipush (-2), 2) := by decide +kernel
theorem dX10_tuneFor_39 : decode cX10_tuneFor 39 = .ok (.ireturn, 1) := by decide +kernel
theorem dX10_tuneFor_40 : decode cX10_tuneFor 40 = .ok (.aload 4, 2) := by decide +kernel
theorem dX10_tuneFor_42 : decode cX10_tuneFor 42 = .ok (.aload_n 3, 1) := by decide +kernel
theorem dX10_tuneFor_43 : decode cX10_tuneFor 43 = .ok (.invokevirtual 202, 3) := by decide +kernel
theorem dX10_tuneFor_46 : decode cX10_tuneFor 46 = .ok (.ifCond .eq 5, 3) := by decide +kernel
theorem dX10_tuneFor_49 : decode cX10_tuneFor 49 = .ok (.iconst 0, 1) := by decide +kernel
theorem dX10_tuneFor_50 : decode cX10_tuneFor 50 = .ok (.ireturn, 1) := by decide +kernel
theorem dX10_tuneFor_51 : decode cX10_tuneFor 51 = .ok (.aload_n 0, 1) := by decide +kernel
theorem dX10_tuneFor_52 : decode cX10_tuneFor 52 = .ok (.getfield 10, 3) := by decide +kernel
theorem dX10_tuneFor_55 : decode cX10_tuneFor 55 = .ok (.aload_n 3, 1) := by decide +kernel
theorem dX10_tuneFor_56 : decode cX10_tuneFor 56 = .ok (.aload 4, 2) := by decide +kernel
theorem dX10_tuneFor_58 : decode cX10_tuneFor 58 = .ok (.invokevirtual 218, 3) := by decide +kernel
theorem dX10_tuneFor_61 : decode cX10_tuneFor 61 = .ok (.ireturn, 1) := by decide +kernel
theorem dX10_pourFor_0 : decode cX10_pourFor 0 = .ok (.aload_n 0, 1) := by decide +kernel
theorem dX10_pourFor_1 : decode cX10_pourFor 1 = .ok (.getfield 10, 3) := by decide +kernel
theorem dX10_pourFor_4 : decode cX10_pourFor 4 = .ok (.iload_n 1, 1) := by decide +kernel
theorem dX10_pourFor_5 : decode cX10_pourFor 5 = .ok (.invokevirtual 195, 3) := by decide +kernel
theorem dX10_pourFor_8 : decode cX10_pourFor 8 = .ok (.astore_n 2, 1) := by decide +kernel
theorem dX10_pourFor_9 : decode cX10_pourFor 9 = .ok (.aload_n 2, 1) := by decide +kernel
theorem dX10_pourFor_10 : decode cX10_pourFor 10 = .ok (.ifnonnull 5, 3) := by decide +kernel
theorem dX10_pourFor_13 : decode cX10_pourFor 13 = .ok (.iconst (-1), 1) := by decide +kernel
theorem dX10_pourFor_14 : decode cX10_pourFor 14 = .ok (.ireturn, 1) := by decide +kernel
theorem dX10_pourFor_15 : decode cX10_pourFor 15 = .ok (.aload_n 0, 1) := by decide +kernel
theorem dX10_pourFor_16 : decode cX10_pourFor 16 = .ok (.getfield 10, 3) := by decide +kernel
theorem dX10_pourFor_19 : decode cX10_pourFor 19 = .ok (.aload_n 2, 1) := by decide +kernel
theorem dX10_pourFor_20 : decode cX10_pourFor 20 = .ok (.invokevirtual 222, 3) := by decide +kernel
theorem dX10_pourFor_23 : decode cX10_pourFor 23 = .ok (.ireturn, 1) := by decide +kernel
theorem dX10_wagons_0 : decode cX10_wagons 0 = .ok (.iload_n 1, 1) := by decide +kernel
theorem dX10_wagons_1 : decode cX10_wagons 1 = .ok (.ifCond .lt 16, 3) := by decide +kernel
theorem dX10_wagons_4 : decode cX10_wagons 4 = .ok (.iload_n 1, 1) := by decide +kernel
theorem dX10_wagons_5 : decode cX10_wagons 5 = .ok (.iconst 1, 1) := by decide +kernel
theorem dX10_wagons_6 : decode cX10_wagons 6 = .ok (.aload_n 0, 1) := by decide +kernel
theorem dX10_wagons_7 : decode cX10_wagons 7 = .ok (.getfield 10, 3) := by decide +kernel
theorem dX10_wagons_10 : decode cX10_wagons 10 = .ok (.invokevirtual 138, 3) := by decide +kernel
theorem dX10_wagons_13 : decode cX10_wagons 13 = .ok (.ishl, 1) := by decide +kernel
theorem dX10_wagons_14 : decode cX10_wagons 14 = .ok (.if_icmp .lt 5, 3) := by decide +kernel
theorem dX10_wagons_17 : decode cX10_wagons 17 = .ok (.iconst (-1), 1) := by decide +kernel
theorem dX10_wagons_18 : decode cX10_wagons 18 = .ok (.ireturn, 1) := by decide +kernel
theorem dX10_wagons_19 : decode cX10_wagons 19 = .ok (.aload_n 0, 1) := by decide +kernel
theorem dX10_wagons_20 : decode cX10_wagons 20 = .ok (.getfield 26, 3) := by decide +kernel
theorem dX10_wagons_23 : decode cX10_wagons 23 = .ok (.invokevirtual 225, 3) := by decide +kernel
theorem dX10_wagons_26 : decode cX10_wagons 26 = .ok (.iconst 1, 1) := by decide +kernel
theorem dX10_wagons_27 : decode cX10_wagons 27 = .ok (.istore_n 2, 1) := by decide +kernel
theorem dX10_wagons_28 : decode cX10_wagons 28 = .ok (.iconst 0, 1) := by decide +kernel
theorem dX10_wagons_29 : decode cX10_wagons 29 = .ok (.istore_n 3, 1) := by decide +kernel
theorem dX10_wagons_30 : decode cX10_wagons 30 = .ok (.iload_n 3, 1) := by decide +kernel
theorem dX10_wagons_31 : decode cX10_wagons 31 = .ok (.aload_n 0, 1) := by decide +kernel
theorem dX10_wagons_32 : decode cX10_wagons 32 = .ok (.getfield 10, 3) := by decide +kernel
theorem dX10_wagons_35 : decode cX10_wagons 35 = .ok (.getfield 141, 3) := by decide +kernel
theorem dX10_wagons_38 : decode cX10_wagons 38 = .ok (.if_icmp .ge 53, 3) := by decide +kernel
theorem dX10_wagons_41 : decode cX10_wagons 41 = .ok (.aload_n 0, 1) := by decide +kernel
theorem dX10_wagons_42 : decode cX10_wagons 42 = .ok (.getfield 10, 3) := by decide +kernel
theorem dX10_wagons_45 : decode cX10_wagons 45 = .ok (.getfield 228, 3) := by decide +kernel
theorem dX10_wagons_48 : decode cX10_wagons 48 = .ok (.iload_n 3, 1) := by decide +kernel
theorem dX10_wagons_49 : decode cX10_wagons 49 = .ok (.aaload, 1) := by decide +kernel
theorem dX10_wagons_50 : decode cX10_wagons 50 = .ok (.astore 4, 2) := by decide +kernel
theorem dX10_wagons_52 : decode cX10_wagons 52 = .ok (.aload 4, 2) := by decide +kernel
theorem dX10_wagons_54 : decode cX10_wagons 54 = .ok (.invokevirtual 165, 3) := by decide +kernel
theorem dX10_wagons_57 : decode cX10_wagons 57 = .ok (.ifCond .eq 28, 3) := by decide +kernel
theorem dX10_wagons_60 : decode cX10_wagons 60 = .ok (.iload_n 1, 1) := by decide +kernel
theorem dX10_wagons_61 : decode cX10_wagons 61 = .ok (.iload_n 2, 1) := by decide +kernel
theorem dX10_wagons_62 : decode cX10_wagons 62 = .ok (.iand, 1) := by decide +kernel
theorem dX10_wagons_63 : decode cX10_wagons 63 = .ok (.ifCond .eq 18, 3) := by decide +kernel
theorem dX10_wagons_66 : decode cX10_wagons 66 = .ok (.aload_n 0, 1) := by decide +kernel
theorem dX10_wagons_67 : decode cX10_wagons 67 = .ok (.getfield 26, 3) := by decide +kernel
theorem dX10_wagons_70 : decode cX10_wagons 70 = .ok (.aload 4, 2) := by decide +kernel
theorem dX10_wagons_72 : decode cX10_wagons 72 = .ok (.getfield 157, 3) := by decide +kernel
theorem dX10_wagons_75 : decode cX10_wagons 75 = .ok (.invokevirtual 79, 3) := by decide +kernel
theorem dX10_wagons_78 : decode cX10_wagons 78 = .ok (.invokevirtual 232, 3) := by decide +kernel
theorem dX10_wagons_81 : decode cX10_wagons 81 = .ok (.iload_n 2, 1) := by decide +kernel
theorem dX10_wagons_82 : decode cX10_wagons 82 = .ok (.iconst 1, 1) := by decide +kernel
theorem dX10_wagons_83 : decode cX10_wagons 83 = .ok (.ishl, 1) := by decide +kernel
theorem dX10_wagons_84 : decode cX10_wagons 84 = .ok (.istore_n 2, 1) := by decide +kernel
theorem dX10_wagons_85 : decode cX10_wagons 85 = .ok (.iinc 3 1, 3) := by decide +kernel
theorem dX10_wagons_88 : decode cX10_wagons 88 = .ok (.goto (-58), 3) := by decide +kernel
theorem dX10_wagons_91 : decode cX10_wagons 91 = .ok (.aload_n 0, 1) := by decide +kernel
theorem dX10_wagons_92 : decode cX10_wagons 92 = .ok (.getfield 10, 3) := by decide +kernel
theorem dX10_wagons_95 : decode cX10_wagons 95 = .ok (.getfield 129, 3) := by decide +kernel
theorem dX10_wagons_98 : decode cX10_wagons 98 = .ok (.bipush 6, 2) := by decide +kernel
theorem dX10_wagons_100 : decode cX10_wagons 100 = .ok (.iaload, 1) := by decide +kernel
theorem dX10_wagons_101 : decode cX10_wagons 101 = .ok (.istore_n 3, 1) := by decide +kernel
theorem dX10_wagons_102 : decode cX10_wagons 102 = .ok (.aload_n 0, 1) := by decide +kernel
theorem dX10_wagons_103 : decode cX10_wagons 103 = .ok (.getfield 26, 3) := by decide +kernel
theorem dX10_wagons_106 : decode cX10_wagons 106 = .ok (.invokevirtual 235, 3) := by decide +kernel
theorem dX10_wagons_109 : decode cX10_wagons 109 = .ok (.iload_n 3, 1) := by decide +kernel
theorem dX10_wagons_110 : decode cX10_wagons 110 = .ok (.if_icmp .le 8, 3) := by decide +kernel
theorem dX10_wagons_113 : decode cX10_wagons 113 = .ok (.bipush (-2), 2) := by decide +kernel
theorem dX10_wagons_115 : decode cX10_wagons 115 = .ok (.goto 11, 3) := by decide +kernel
theorem dX10_wagons_118 : decode cX10_wagons 118 = .ok (.aload_n 0, 1) := by decide +kernel
theorem dX10_wagons_119 : decode cX10_wagons 119 = .ok (.getfield 26, 3) := by decide +kernel
theorem dX10_wagons_122 : decode cX10_wagons 122 = .ok (.iload_n 3, 1) := by decide +kernel
theorem dX10_wagons_123 : decode cX10_wagons 123 = .ok (.invokevirtual 238, 3) := by decide +kernel
theorem dX10_wagons_126 : decode cX10_wagons 126 = .ok (.ireturn, 1) := by decide +kernel
theorem dX10_account_0 : decode cX10_account 0 = .ok (.iload_n 1, 1) := by decide +kernel
theorem dX10_account_1 : decode cX10_account 1 = .ok (.invokestatic 45, 3) := by decide +kernel
theorem dX10_account_4 : decode cX10_account 4 = .ok (.ifCond .ne 5, 3) := by decide +kernel
theorem dX10_account_7 : decode cX10_account 7 = .ok (.iconst (-1), 1) := by decide +kernel
theorem dX10_account_8 : decode cX10_account 8 = .ok (.ireturn, 1) := by decide +kernel
theorem dX10_account_9 : decode cX10_account 9 = .ok (.iload_n 2, 1) := by decide +kernel
theorem dX10_account_10 : decode cX10_account 10 = .ok (.tableswitch 132 0 6 #[42, 54, 66, 78, 90, 110, 120], 42) := by decide +kernel
theorem dX10_account_52 : decode cX10_account 52 = .ok (.aload_n 0, 1) := by decide +kernel
theorem dX10_account_53 : decode cX10_account 53 = .ok (.getfield 10, 3) := by decide +kernel
theorem dX10_account_56 : decode cX10_account 56 = .ok (.getfield 69, 3) := by decide +kernel
theorem dX10_account_59 : decode cX10_account 59 = .ok (.iload_n 1, 1) := by decide +kernel
theorem dX10_account_60 : decode cX10_account 60 = .ok (.invokevirtual 58, 3) := by decide +kernel
theorem dX10_account_63 : decode cX10_account 63 = .ok (.ireturn, 1) := by decide +kernel
theorem dX10_account_64 : decode cX10_account 64 = .ok (.aload_n 0, 1) := by decide +kernel
theorem dX10_account_65 : decode cX10_account 65 = .ok (.getfield 10, 3) := by decide +kernel
theorem dX10_account_68 : decode cX10_account 68 = .ok (.getfield 54, 3) := by decide +kernel
theorem dX10_account_71 : decode cX10_account 71 = .ok (.iload_n 1, 1) := by decide +kernel
theorem dX10_account_72 : decode cX10_account 72 = .ok (.invokevirtual 58, 3) := by decide +kernel
theorem dX10_account_75 : decode cX10_account 75 = .ok (.ireturn, 1) := by decide +kernel
theorem dX10_account_76 : decode cX10_account 76 = .ok (.aload_n 0, 1) := by decide +kernel
theorem dX10_account_77 : decode cX10_account 77 = .ok (.getfield 10, 3) := by decide +kernel
theorem dX10_account_80 : decode cX10_account 80 = .ok (.getfield 76, 3) := by decide +kernel
theorem dX10_account_83 : decode cX10_account 83 = .ok (.iload_n 1, 1) := by decide +kernel
theorem dX10_account_84 : decode cX10_account 84 = .ok (.invokevirtual 58, 3) := by decide +kernel
theorem dX10_account_87 : decode cX10_account 87 = .ok (.ireturn, 1) := by decide +kernel
theorem dX10_account_88 : decode cX10_account 88 = .ok (.aload_n 0, 1) := by decide +kernel
theorem dX10_account_89 : decode cX10_account 89 = .ok (.getfield 10, 3) := by decide +kernel
theorem dX10_account_92 : decode cX10_account 92 = .ok (.getfield 83, 3) := by decide +kernel
theorem dX10_account_95 : decode cX10_account 95 = .ok (.iload_n 1, 1) := by decide +kernel
theorem dX10_account_96 : decode cX10_account 96 = .ok (.invokevirtual 241, 3) := by decide +kernel
theorem dX10_account_99 : decode cX10_account 99 = .ok (.ireturn, 1) := by decide +kernel
theorem dX10_account_100 : decode cX10_account 100 = .ok (.aload_n 0, 1) := by decide +kernel
theorem dX10_account_101 : decode cX10_account 101 = .ok (.getfield 10, 3) := by decide +kernel
theorem dX10_account_104 : decode cX10_account 104 = .ok (.iload_n 1, 1) := by decide +kernel
theorem dX10_account_105 : decode cX10_account 105 = .ok (.iconst 0, 1) := by decide +kernel
theorem dX10_account_106 : decode cX10_account 106 = .ok (.invokevirtual 242, 3) := by decide +kernel
theorem dX10_account_109 : decode cX10_account 109 = .ok (.aload_n 0, 1) := by decide +kernel
theorem dX10_account_110 : decode cX10_account 110 = .ok (.getfield 10, 3) := by decide +kernel
theorem dX10_account_113 : decode cX10_account 113 = .ok (.iload_n 1, 1) := by decide +kernel
theorem dX10_account_114 : decode cX10_account 114 = .ok (.iconst 1, 1) := by decide +kernel
theorem dX10_account_115 : decode cX10_account 115 = .ok (.invokevirtual 242, 3) := by decide +kernel
theorem dX10_account_118 : decode cX10_account 118 = .ok (.iadd, 1) := by decide +kernel
theorem dX10_account_119 : decode cX10_account 119 = .ok (.ireturn, 1) := by decide +kernel
theorem dX10_account_120 : decode cX10_account 120 = .ok (.aload_n 0, 1) := by decide +kernel
theorem dX10_account_121 : decode cX10_account 121 = .ok (.getfield 10, 3) := by decide +kernel
theorem dX10_account_124 : decode cX10_account 124 = .ok (.iload_n 1, 1) := by decide +kernel
theorem dX10_account_125 : decode cX10_account 125 = .ok (.iconst 2, 1) := by decide +kernel
theorem dX10_account_126 : decode cX10_account 126 = .ok (.invokevirtual 242, 3) := by decide +kernel
theorem dX10_account_129 : decode cX10_account 129 = .ok (.ireturn, 1) := by decide +kernel
theorem dX10_account_130 : decode cX10_account 130 = .ok (.aload_n 0, 1) := by decide +kernel
theorem dX10_account_131 : decode cX10_account 131 = .ok (.getfield 10, 3) := by decide +kernel
theorem dX10_account_134 : decode cX10_account 134 = .ok (.getfield 245, 3) := by decide +kernel
theorem dX10_account_137 : decode cX10_account 137 = .ok (.iload_n 1, 1) := by decide +kernel
theorem dX10_account_138 : decode cX10_account 138 = .ok (.invokevirtual 58, 3) := by decide +kernel
theorem dX10_account_141 : decode cX10_account 141 = .ok (.ireturn, 1) := by decide +kernel
theorem dX10_account_142 : decode cX10_account 142 = .ok (.iconst (-1), 1) := by decide +kernel
theorem dX10_account_143 : decode cX10_account 143 = .ok (.ireturn, 1) := by decide +kernel
theorem dX10_count_0 : decode cX10_count 0 = .ok (.iload_n 1, 1) := by decide +kernel
theorem dX10_count_1 : decode cX10_count 1 = .ok (.tableswitch 139 0 9 #[55, 66, 74, 82, 91, 100, 108, 117, 126, 134], 55) := by decide +kernel
theorem dX10_count_56 : decode cX10_count 56 = .ok (.aload_n 0, 1) := by decide +kernel
theorem dX10_count_57 : decode cX10_count 57 = .ok (.getfield 10, 3) := by decide +kernel
