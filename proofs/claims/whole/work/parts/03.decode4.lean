theorem dX11_pourFor_67 : decode cX11_pourFor 67 = .ok (.iload_n 2, 1) := by decide +kernel
theorem dX11_pourFor_68 : decode cX11_pourFor 68 = .ok (.iload_n 3, 1) := by decide +kernel
theorem dX11_pourFor_69 : decode cX11_pourFor 69 = .ok (.invokestatic 53, 3) := by decide +kernel
theorem dX11_pourFor_72 : decode cX11_pourFor 72 = .ok (.istore 5, 2) := by decide +kernel
theorem dX11_pourFor_74 : decode cX11_pourFor 74 = .ok (.aload_n 0, 1) := by decide +kernel
theorem dX11_pourFor_75 : decode cX11_pourFor 75 = .ok (.iload_n 1, 1) := by decide +kernel
theorem dX11_pourFor_76 : decode cX11_pourFor 76 = .ok (.iconst 0, 1) := by decide +kernel
theorem dX11_pourFor_77 : decode cX11_pourFor 77 = .ok (.invokevirtual 148, 3) := by decide +kernel
theorem dX11_pourFor_80 : decode cX11_pourFor 80 = .ok (.iload 4, 2) := by decide +kernel
theorem dX11_pourFor_82 : decode cX11_pourFor 82 = .ok (.iload 5, 2) := by decide +kernel
theorem dX11_pourFor_84 : decode cX11_pourFor 84 = .ok (.iload 4, 2) := by decide +kernel
theorem dX11_pourFor_86 : decode cX11_pourFor 86 = .ok (.iload 5, 2) := by decide +kernel
theorem dX11_pourFor_88 : decode cX11_pourFor 88 = .ok (.isub, 1) := by decide +kernel
theorem dX11_pourFor_89 : decode cX11_pourFor 89 = .ok (.invokestatic 49, 3) := by decide +kernel
theorem dX11_pourFor_92 : decode cX11_pourFor 92 = .ok (.invokestatic 135, 3) := by decide +kernel
theorem dX11_pourFor_95 : decode cX11_pourFor 95 = .ok (.aload_n 0, 1) := by decide +kernel
theorem dX11_pourFor_96 : decode cX11_pourFor 96 = .ok (.iload_n 1, 1) := by decide +kernel
theorem dX11_pourFor_97 : decode cX11_pourFor 97 = .ok (.iconst 1, 1) := by decide +kernel
theorem dX11_pourFor_98 : decode cX11_pourFor 98 = .ok (.invokevirtual 148, 3) := by decide +kernel
theorem dX11_pourFor_101 : decode cX11_pourFor 101 = .ok (.if_icmp .lt 6, 3) := by decide +kernel
theorem dX11_pourFor_104 : decode cX11_pourFor 104 = .ok (.iload 4, 2) := by decide +kernel
theorem dX11_pourFor_106 : decode cX11_pourFor 106 = .ok (.ireturn, 1) := by decide +kernel
theorem dX11_pourFor_107 : decode cX11_pourFor 107 = .ok (.iinc 4 (-1), 3) := by decide +kernel
theorem dX11_pourFor_110 : decode cX11_pourFor 110 = .ok (.goto (-65), 3) := by decide +kernel
theorem dX11_pourFor_113 : decode cX11_pourFor 113 = .ok (.bipush (-4), 2) := by decide +kernel
theorem dX11_pourFor_115 : decode cX11_pourFor 115 = .ok (.ireturn, 1) := by decide +kernel
theorem dX11_takesBells_0 : decode cX11_takesBells 0 = .ok (.iconst 0, 1) := by decide +kernel
theorem dX11_takesBells_1 : decode cX11_takesBells 1 = .ok (.istore_n 2, 1) := by decide +kernel
theorem dX11_takesBells_2 : decode cX11_takesBells 2 = .ok (.iconst 0, 1) := by decide +kernel
theorem dX11_takesBells_3 : decode cX11_takesBells 3 = .ok (.istore_n 3, 1) := by decide +kernel
theorem dX11_takesBells_4 : decode cX11_takesBells 4 = .ok (.iconst 1, 1) := by decide +kernel
theorem dX11_takesBells_5 : decode cX11_takesBells 5 = .ok (.istore 4, 2) := by decide +kernel
theorem dX11_takesBells_7 : decode cX11_takesBells 7 = .ok (.iconst 0, 1) := by decide +kernel
theorem dX11_takesBells_8 : decode cX11_takesBells 8 = .ok (.istore 5, 2) := by decide +kernel
theorem dX11_takesBells_10 : decode cX11_takesBells 10 = .ok (.iload 5, 2) := by decide +kernel
theorem dX11_takesBells_12 : decode cX11_takesBells 12 = .ok (.aload_n 0, 1) := by decide +kernel
theorem dX11_takesBells_13 : decode cX11_takesBells 13 = .ok (.getfield 7, 3) := by decide +kernel
theorem dX11_takesBells_16 : decode cX11_takesBells 16 = .ok (.bipush 52, 2) := by decide +kernel
theorem dX11_takesBells_18 : decode cX11_takesBells 18 = .ok (.iaload, 1) := by decide +kernel
theorem dX11_takesBells_19 : decode cX11_takesBells 19 = .ok (.if_icmp .ge 75, 3) := by decide +kernel
theorem dX11_takesBells_22 : decode cX11_takesBells 22 = .ok (.aload_n 0, 1) := by decide +kernel
theorem dX11_takesBells_23 : decode cX11_takesBells 23 = .ok (.iload 5, 2) := by decide +kernel
theorem dX11_takesBells_25 : decode cX11_takesBells 25 = .ok (.invokevirtual 107, 3) := by decide +kernel
theorem dX11_takesBells_28 : decode cX11_takesBells 28 = .ok (.ifCond .eq 60, 3) := by decide +kernel
theorem dX11_takesBells_31 : decode cX11_takesBells 31 = .ok (.iload_n 1, 1) := by decide +kernel
theorem dX11_takesBells_32 : decode cX11_takesBells 32 = .ok (.iload_n 3, 1) := by decide +kernel
theorem dX11_takesBells_33 : decode cX11_takesBells 33 = .ok (.ishr, 1) := by decide +kernel
theorem dX11_takesBells_34 : decode cX11_takesBells 34 = .ok (.iconst 1, 1) := by decide +kernel
theorem dX11_takesBells_35 : decode cX11_takesBells 35 = .ok (.iand, 1) := by decide +kernel
theorem dX11_takesBells_36 : decode cX11_takesBells 36 = .ok (.iconst 1, 1) := by decide +kernel
theorem dX11_takesBells_37 : decode cX11_takesBells 37 = .ok (.if_icmp .ne 48, 3) := by decide +kernel
theorem dX11_takesBells_40 : decode cX11_takesBells 40 = .ok (.aload_n 0, 1) := by decide +kernel
theorem dX11_takesBells_41 : decode cX11_takesBells 41 = .ok (.getfield 19, 3) := by decide +kernel
theorem dX11_takesBells_44 : decode cX11_takesBells 44 = .ok (.iload_n 2, 1) := by decide +kernel
theorem dX11_takesBells_45 : decode cX11_takesBells 45 = .ok (.aload_n 0, 1) := by decide +kernel
theorem dX11_takesBells_46 : decode cX11_takesBells 46 = .ok (.iload 5, 2) := by decide +kernel
theorem dX11_takesBells_48 : decode cX11_takesBells 48 = .ok (.invokestatic 129, 3) := by decide +kernel
theorem dX11_takesBells_51 : decode cX11_takesBells 51 = .ok (.invokevirtual 88, 3) := by decide +kernel
theorem dX11_takesBells_54 : decode cX11_takesBells 54 = .ok (.iastore, 1) := by decide +kernel
theorem dX11_takesBells_55 : decode cX11_takesBells 55 = .ok (.iload 4, 2) := by decide +kernel
theorem dX11_takesBells_57 : decode cX11_takesBells 57 = .ok (.ifCond .eq 22, 3) := by decide +kernel
theorem dX11_takesBells_60 : decode cX11_takesBells 60 = .ok (.aload_n 0, 1) := by decide +kernel
theorem dX11_takesBells_61 : decode cX11_takesBells 61 = .ok (.getfield 19, 3) := by decide +kernel
theorem dX11_takesBells_64 : decode cX11_takesBells 64 = .ok (.iload_n 2, 1) := by decide +kernel
theorem dX11_takesBells_65 : decode cX11_takesBells 65 = .ok (.iaload, 1) := by decide +kernel
theorem dX11_takesBells_66 : decode cX11_takesBells 66 = .ok (.aload_n 0, 1) := by decide +kernel
theorem dX11_takesBells_67 : decode cX11_takesBells 67 = .ok (.bipush 6, 2) := by decide +kernel
theorem dX11_takesBells_69 : decode cX11_takesBells 69 = .ok (.invokevirtual 61, 3) := by decide +kernel
theorem dX11_takesBells_72 : decode cX11_takesBells 72 = .ok (.if_icmp .gt 7, 3) := by decide +kernel
theorem dX11_takesBells_75 : decode cX11_takesBells 75 = .ok (.iconst 1, 1) := by decide +kernel
theorem dX11_takesBells_76 : decode cX11_takesBells 76 = .ok (.goto 4, 3) := by decide +kernel
theorem dX11_takesBells_79 : decode cX11_takesBells 79 = .ok (.iconst 0, 1) := by decide +kernel
theorem dX11_takesBells_80 : decode cX11_takesBells 80 = .ok (.istore 4, 2) := by decide +kernel
theorem dX11_takesBells_82 : decode cX11_takesBells 82 = .ok (.iinc 2 1, 3) := by decide +kernel
theorem dX11_takesBells_85 : decode cX11_takesBells 85 = .ok (.iinc 3 1, 3) := by decide +kernel
theorem dX11_takesBells_88 : decode cX11_takesBells 88 = .ok (.iinc 5 1, 3) := by decide +kernel
theorem dX11_takesBells_91 : decode cX11_takesBells 91 = .ok (.goto (-81), 3) := by decide +kernel
theorem dX11_takesBells_94 : decode cX11_takesBells 94 = .ok (.iload_n 1, 1) := by decide +kernel
theorem dX11_takesBells_95 : decode cX11_takesBells 95 = .ok (.ifCond .lt 9, 3) := by decide +kernel
theorem dX11_takesBells_98 : decode cX11_takesBells 98 = .ok (.iload_n 1, 1) := by decide +kernel
theorem dX11_takesBells_99 : decode cX11_takesBells 99 = .ok (.iload_n 3, 1) := by decide +kernel
theorem dX11_takesBells_100 : decode cX11_takesBells 100 = .ok (.ishr, 1) := by decide +kernel
theorem dX11_takesBells_101 : decode cX11_takesBells 101 = .ok (.ifCond .eq 7, 3) := by decide +kernel
theorem dX11_takesBells_104 : decode cX11_takesBells 104 = .ok (.iconst (-1), 1) := by decide +kernel
theorem dX11_takesBells_105 : decode cX11_takesBells 105 = .ok (.goto 14, 3) := by decide +kernel
theorem dX11_takesBells_108 : decode cX11_takesBells 108 = .ok (.iload 4, 2) := by decide +kernel
theorem dX11_takesBells_110 : decode cX11_takesBells 110 = .ok (.ifCond .eq 7, 3) := by decide +kernel
theorem dX11_takesBells_113 : decode cX11_takesBells 113 = .ok (.iload_n 2, 1) := by decide +kernel
theorem dX11_takesBells_114 : decode cX11_takesBells 114 = .ok (.goto 5, 3) := by decide +kernel
theorem dX11_takesBells_117 : decode cX11_takesBells 117 = .ok (.bipush (-2), 2) := by decide +kernel
theorem dX11_takesBells_119 : decode cX11_takesBells 119 = .ok (.ireturn, 1) := by decide +kernel
theorem dX11_wagons_0 : decode cX11_wagons 0 = .ok (.aload_n 0, 1) := by decide +kernel
theorem dX11_wagons_1 : decode cX11_wagons 1 = .ok (.iload_n 1, 1) := by decide +kernel
theorem dX11_wagons_2 : decode cX11_wagons 2 = .ok (.invokevirtual 169, 3) := by decide +kernel
theorem dX11_wagons_5 : decode cX11_wagons 5 = .ok (.istore_n 2, 1) := by decide +kernel
theorem dX11_wagons_6 : decode cX11_wagons 6 = .ok (.iload_n 2, 1) := by decide +kernel
theorem dX11_wagons_7 : decode cX11_wagons 7 = .ok (.ifCond .gt 5, 3) := by decide +kernel
theorem dX11_wagons_10 : decode cX11_wagons 10 = .ok (.iload_n 2, 1) := by decide +kernel
theorem dX11_wagons_11 : decode cX11_wagons 11 = .ok (.ireturn, 1) := by decide +kernel
theorem dX11_wagons_12 : decode cX11_wagons 12 = .ok (.aload_n 0, 1) := by decide +kernel
theorem dX11_wagons_13 : decode cX11_wagons 13 = .ok (.getfield 22, 3) := by decide +kernel
theorem dX11_wagons_16 : decode cX11_wagons 16 = .ok (.iconst 0, 1) := by decide +kernel
theorem dX11_wagons_17 : decode cX11_wagons 17 = .ok (.iconst 0, 1) := by decide +kernel
theorem dX11_wagons_18 : decode cX11_wagons 18 = .ok (.iastore, 1) := by decide +kernel
theorem dX11_wagons_19 : decode cX11_wagons 19 = .ok (.aload_n 0, 1) := by decide +kernel
theorem dX11_wagons_20 : decode cX11_wagons 20 = .ok (.getfield 25, 3) := by decide +kernel
theorem dX11_wagons_23 : decode cX11_wagons 23 = .ok (.iconst 0, 1) := by decide +kernel
theorem dX11_wagons_24 : decode cX11_wagons 24 = .ok (.aload_n 0, 1) := by decide +kernel
theorem dX11_wagons_25 : decode cX11_wagons 25 = .ok (.bipush 6, 2) := by decide +kernel
theorem dX11_wagons_27 : decode cX11_wagons 27 = .ok (.invokevirtual 61, 3) := by decide +kernel
theorem dX11_wagons_30 : decode cX11_wagons 30 = .ok (.iastore, 1) := by decide +kernel
theorem dX11_wagons_31 : decode cX11_wagons 31 = .ok (.iconst 1, 1) := by decide +kernel
theorem dX11_wagons_32 : decode cX11_wagons 32 = .ok (.istore_n 3, 1) := by decide +kernel
theorem dX11_wagons_33 : decode cX11_wagons 33 = .ok (.iload_n 3, 1) := by decide +kernel
theorem dX11_wagons_34 : decode cX11_wagons 34 = .ok (.iconst 1, 1) := by decide +kernel
theorem dX11_wagons_35 : decode cX11_wagons 35 = .ok (.iload_n 2, 1) := by decide +kernel
theorem dX11_wagons_36 : decode cX11_wagons 36 = .ok (.ishl, 1) := by decide +kernel
theorem dX11_wagons_37 : decode cX11_wagons 37 = .ok (.if_icmp .ge 219, 3) := by decide +kernel
theorem dX11_wagons_40 : decode cX11_wagons 40 = .ok (.aload_n 0, 1) := by decide +kernel
theorem dX11_wagons_41 : decode cX11_wagons 41 = .ok (.getfield 22, 3) := by decide +kernel
theorem dX11_wagons_44 : decode cX11_wagons 44 = .ok (.iload_n 3, 1) := by decide +kernel
theorem dX11_wagons_45 : decode cX11_wagons 45 = .ok (.bipush 13, 2) := by decide +kernel
theorem dX11_wagons_47 : decode cX11_wagons 47 = .ok (.iastore, 1) := by decide +kernel
theorem dX11_wagons_48 : decode cX11_wagons 48 = .ok (.iconst 0, 1) := by decide +kernel
theorem dX11_wagons_49 : decode cX11_wagons 49 = .ok (.istore 4, 2) := by decide +kernel
theorem dX11_wagons_51 : decode cX11_wagons 51 = .ok (.iload 4, 2) := by decide +kernel
theorem dX11_wagons_53 : decode cX11_wagons 53 = .ok (.iload_n 2, 1) := by decide +kernel
theorem dX11_wagons_54 : decode cX11_wagons 54 = .ok (.if_icmp .ge 196, 3) := by decide +kernel
theorem dX11_wagons_57 : decode cX11_wagons 57 = .ok (.iload_n 3, 1) := by decide +kernel
theorem dX11_wagons_58 : decode cX11_wagons 58 = .ok (.iload 4, 2) := by decide +kernel
theorem dX11_wagons_60 : decode cX11_wagons 60 = .ok (.ishr, 1) := by decide +kernel
theorem dX11_wagons_61 : decode cX11_wagons 61 = .ok (.iconst 1, 1) := by decide +kernel
theorem dX11_wagons_62 : decode cX11_wagons 62 = .ok (.iand, 1) := by decide +kernel
theorem dX11_wagons_63 : decode cX11_wagons 63 = .ok (.iconst 1, 1) := by decide +kernel
theorem dX11_wagons_64 : decode cX11_wagons 64 = .ok (.if_icmp .ne 180, 3) := by decide +kernel
theorem dX11_wagons_67 : decode cX11_wagons 67 = .ok (.iload_n 3, 1) := by decide +kernel
theorem dX11_wagons_68 : decode cX11_wagons 68 = .ok (.iconst 1, 1) := by decide +kernel
theorem dX11_wagons_69 : decode cX11_wagons 69 = .ok (.iload 4, 2) := by decide +kernel
theorem dX11_wagons_71 : decode cX11_wagons 71 = .ok (.ishl, 1) := by decide +kernel
theorem dX11_wagons_72 : decode cX11_wagons 72 = .ok (.iconst (-1), 1) := by decide +kernel
theorem dX11_wagons_73 : decode cX11_wagons 73 = .ok (.ixor, 1) := by decide +kernel
theorem dX11_wagons_74 : decode cX11_wagons 74 = .ok (.iand, 1) := by decide +kernel
theorem dX11_wagons_75 : decode cX11_wagons 75 = .ok (.istore 5, 2) := by decide +kernel
theorem dX11_wagons_77 : decode cX11_wagons 77 = .ok (.aload_n 0, 1) := by decide +kernel
theorem dX11_wagons_78 : decode cX11_wagons 78 = .ok (.getfield 25, 3) := by decide +kernel
theorem dX11_wagons_81 : decode cX11_wagons 81 = .ok (.iload 5, 2) := by decide +kernel
theorem dX11_wagons_83 : decode cX11_wagons 83 = .ok (.iaload, 1) := by decide +kernel
theorem dX11_wagons_84 : decode cX11_wagons 84 = .ok (.aload_n 0, 1) := by decide +kernel
theorem dX11_wagons_85 : decode cX11_wagons 85 = .ok (.getfield 19, 3) := by decide +kernel
theorem dX11_wagons_88 : decode cX11_wagons 88 = .ok (.iload 4, 2) := by decide +kernel
theorem dX11_wagons_90 : decode cX11_wagons 90 = .ok (.iaload, 1) := by decide +kernel
theorem dX11_wagons_91 : decode cX11_wagons 91 = .ok (.iadd, 1) := by decide +kernel
theorem dX11_wagons_92 : decode cX11_wagons 92 = .ok (.aload_n 0, 1) := by decide +kernel
theorem dX11_wagons_93 : decode cX11_wagons 93 = .ok (.bipush 6, 2) := by decide +kernel
theorem dX11_wagons_95 : decode cX11_wagons 95 = .ok (.invokevirtual 61, 3) := by decide +kernel
theorem dX11_wagons_98 : decode cX11_wagons 98 = .ok (.if_icmp .le 7, 3) := by decide +kernel
theorem dX11_wagons_101 : decode cX11_wagons 101 = .ok (.iconst 1, 1) := by decide +kernel
theorem dX11_wagons_102 : decode cX11_wagons 102 = .ok (.goto 4, 3) := by decide +kernel
theorem dX11_wagons_105 : decode cX11_wagons 105 = .ok (.iconst 0, 1) := by decide +kernel
theorem dX11_wagons_106 : decode cX11_wagons 106 = .ok (.istore 6, 2) := by decide +kernel
theorem dX11_wagons_108 : decode cX11_wagons 108 = .ok (.aload_n 0, 1) := by decide +kernel
theorem dX11_wagons_109 : decode cX11_wagons 109 = .ok (.getfield 22, 3) := by decide +kernel
theorem dX11_wagons_112 : decode cX11_wagons 112 = .ok (.iload 5, 2) := by decide +kernel
theorem dX11_wagons_114 : decode cX11_wagons 114 = .ok (.iaload, 1) := by decide +kernel
theorem dX11_wagons_115 : decode cX11_wagons 115 = .ok (.iload 6, 2) := by decide +kernel
theorem dX11_wagons_117 : decode cX11_wagons 117 = .ok (.ifCond .eq 7, 3) := by decide +kernel
theorem dX11_wagons_120 : decode cX11_wagons 120 = .ok (.iconst 1, 1) := by decide +kernel
theorem dX11_wagons_121 : decode cX11_wagons 121 = .ok (.goto 4, 3) := by decide +kernel
theorem dX11_wagons_124 : decode cX11_wagons 124 = .ok (.iconst 0, 1) := by decide +kernel
theorem dX11_wagons_125 : decode cX11_wagons 125 = .ok (.iadd, 1) := by decide +kernel
theorem dX11_wagons_126 : decode cX11_wagons 126 = .ok (.istore 7, 2) := by decide +kernel
theorem dX11_wagons_128 : decode cX11_wagons 128 = .ok (.iload 6, 2) := by decide +kernel
theorem dX11_wagons_130 : decode cX11_wagons 130 = .ok (.ifCond .eq 13, 3) := by decide +kernel
theorem dX11_wagons_133 : decode cX11_wagons 133 = .ok (.aload_n 0, 1) := by decide +kernel
theorem dX11_wagons_134 : decode cX11_wagons 134 = .ok (.getfield 19, 3) := by decide +kernel
theorem dX11_wagons_137 : decode cX11_wagons 137 = .ok (.iload 4, 2) := by decide +kernel
theorem dX11_wagons_139 : decode cX11_wagons 139 = .ok (.iaload, 1) := by decide +kernel
theorem dX11_wagons_140 : decode cX11_wagons 140 = .ok (.goto 18, 3) := by decide +kernel
theorem dX11_wagons_143 : decode cX11_wagons 143 = .ok (.aload_n 0, 1) := by decide +kernel
theorem dX11_wagons_144 : decode cX11_wagons 144 = .ok (.getfield 25, 3) := by decide +kernel
theorem dX11_wagons_147 : decode cX11_wagons 147 = .ok (.iload 5, 2) := by decide +kernel
theorem dX11_wagons_149 : decode cX11_wagons 149 = .ok (.iaload, 1) := by decide +kernel
theorem dX11_wagons_150 : decode cX11_wagons 150 = .ok (.aload_n 0, 1) := by decide +kernel
theorem dX11_wagons_151 : decode cX11_wagons 151 = .ok (.getfield 19, 3) := by decide +kernel
theorem dX11_wagons_154 : decode cX11_wagons 154 = .ok (.iload 4, 2) := by decide +kernel
theorem dX11_wagons_156 : decode cX11_wagons 156 = .ok (.iaload, 1) := by decide +kernel
theorem dX11_wagons_157 : decode cX11_wagons 157 = .ok (.iadd, 1) := by decide +kernel
theorem dX11_wagons_158 : decode cX11_wagons 158 = .ok (.istore 8, 2) := by decide +kernel
theorem dX11_wagons_160 : decode cX11_wagons 160 = .ok (.iload 7, 2) := by decide +kernel
theorem dX11_wagons_162 : decode cX11_wagons 162 = .ok (.aload_n 0, 1) := by decide +kernel
theorem dX11_wagons_163 : decode cX11_wagons 163 = .ok (.getfield 22, 3) := by decide +kernel
theorem dX11_wagons_166 : decode cX11_wagons 166 = .ok (.iload_n 3, 1) := by decide +kernel
theorem dX11_wagons_167 : decode cX11_wagons 167 = .ok (.iaload, 1) := by decide +kernel
theorem dX11_wagons_168 : decode cX11_wagons 168 = .ok (.if_icmp .lt 25, 3) := by decide +kernel
theorem dX11_wagons_171 : decode cX11_wagons 171 = .ok (.iload 7, 2) := by decide +kernel
theorem dX11_wagons_173 : decode cX11_wagons 173 = .ok (.aload_n 0, 1) := by decide +kernel
theorem dX11_wagons_174 : decode cX11_wagons 174 = .ok (.getfield 22, 3) := by decide +kernel
theorem dX11_wagons_177 : decode cX11_wagons 177 = .ok (.iload_n 3, 1) := by decide +kernel
theorem dX11_wagons_178 : decode cX11_wagons 178 = .ok (.iaload, 1) := by decide +kernel
theorem dX11_wagons_179 : decode cX11_wagons 179 = .ok (.if_icmp .ne 18, 3) := by decide +kernel
theorem dX11_wagons_182 : decode cX11_wagons 182 = .ok (.iload 8, 2) := by decide +kernel
theorem dX11_wagons_184 : decode cX11_wagons 184 = .ok (.aload_n 0, 1) := by decide +kernel
theorem dX11_wagons_185 : decode cX11_wagons 185 = .ok (.getfield 25, 3) := by decide +kernel
theorem dX11_wagons_188 : decode cX11_wagons 188 = .ok (.iload_n 3, 1) := by decide +kernel
theorem dX11_wagons_189 : decode cX11_wagons 189 = .ok (.iaload, 1) := by decide +kernel
theorem dX11_wagons_190 : decode cX11_wagons 190 = .ok (.if_icmp .ge 7, 3) := by decide +kernel
theorem dX11_wagons_193 : decode cX11_wagons 193 = .ok (.iconst 1, 1) := by decide +kernel
theorem dX11_wagons_194 : decode cX11_wagons 194 = .ok (.goto 4, 3) := by decide +kernel
theorem dX11_wagons_197 : decode cX11_wagons 197 = .ok (.iconst 0, 1) := by decide +kernel
theorem dX11_wagons_198 : decode cX11_wagons 198 = .ok (.istore 9, 2) := by decide +kernel
theorem dX11_wagons_200 : decode cX11_wagons 200 = .ok (.aload_n 0, 1) := by decide +kernel
theorem dX11_wagons_201 : decode cX11_wagons 201 = .ok (.getfield 22, 3) := by decide +kernel
theorem dX11_wagons_204 : decode cX11_wagons 204 = .ok (.iload_n 3, 1) := by decide +kernel
theorem dX11_wagons_205 : decode cX11_wagons 205 = .ok (.iload 9, 2) := by decide +kernel
theorem dX11_wagons_207 : decode cX11_wagons 207 = .ok (.ifCond .eq 8, 3) := by decide +kernel
theorem dX11_wagons_210 : decode cX11_wagons 210 = .ok (.iload 7, 2) := by decide +kernel
theorem dX11_wagons_212 : decode cX11_wagons 212 = .ok (.goto 9, 3) := by decide +kernel
theorem dX11_wagons_215 : decode cX11_wagons 215 = .ok (.aload_n 0, 1) := by decide +kernel
theorem dX11_wagons_216 : decode cX11_wagons 216 = .ok (.getfield 22, 3) := by decide +kernel
theorem dX11_wagons_219 : decode cX11_wagons 219 = .ok (.iload_n 3, 1) := by decide +kernel
theorem dX11_wagons_220 : decode cX11_wagons 220 = .ok (.iaload, 1) := by decide +kernel
theorem dX11_wagons_221 : decode cX11_wagons 221 = .ok (.iastore, 1) := by decide +kernel
theorem dX11_wagons_222 : decode cX11_wagons 222 = .ok (.aload_n 0, 1) := by decide +kernel
theorem dX11_wagons_223 : decode cX11_wagons 223 = .ok (.getfield 25, 3) := by decide +kernel
theorem dX11_wagons_226 : decode cX11_wagons 226 = .ok (.iload_n 3, 1) := by decide +kernel
theorem dX11_wagons_227 : decode cX11_wagons 227 = .ok (.iload 9, 2) := by decide +kernel
theorem dX11_wagons_229 : decode cX11_wagons 229 = .ok (.ifCond .eq 8, 3) := by decide +kernel
theorem dX11_wagons_232 : decode cX11_wagons 232 = .ok (.iload 8, 2) := by decide +kernel
theorem dX11_wagons_234 : decode cX11_wagons 234 = .ok (.goto 9, 3) := by decide +kernel
theorem dX11_wagons_237 : decode cX11_wagons 237 = .ok (.aload_n 0, 1) := by decide +kernel
theorem dX11_wagons_238 : decode cX11_wagons 238 = .ok (.getfield 25, 3) := by decide +kernel
theorem dX11_wagons_241 : decode cX11_wagons 241 = .ok (.iload_n 3, 1) := by decide +kernel
theorem dX11_wagons_242 : decode cX11_wagons 242 = .ok (.iaload, 1) := by decide +kernel
theorem dX11_wagons_243 : decode cX11_wagons 243 = .ok (.iastore, 1) := by decide +kernel
theorem dX11_wagons_244 : decode cX11_wagons 244 = .ok (.iinc 4 1, 3) := by decide +kernel
theorem dX11_wagons_247 : decode cX11_wagons 247 = .ok (.goto (-196), 3) := by decide +kernel
theorem dX11_wagons_250 : decode cX11_wagons 250 = .ok (.iinc 3 1, 3) := by decide +kernel
theorem dX11_wagons_253 : decode cX11_wagons 253 = .ok (.goto (-220), 3) := by decide +kernel
theorem dX11_wagons_256 : decode cX11_wagons 256 = .ok (.aload_n 0, 1) := by decide +kernel
theorem dX11_wagons_257 : decode cX11_wagons 257 = .ok (.getfield 22, 3) := by decide +kernel
theorem dX11_wagons_260 : decode cX11_wagons 260 = .ok (.iconst 1, 1) := by decide +kernel
theorem dX11_wagons_261 : decode cX11_wagons 261 = .ok (.iload_n 2, 1) := by decide +kernel
theorem dX11_wagons_262 : decode cX11_wagons 262 = .ok (.ishl, 1) := by decide +kernel
theorem dX11_wagons_263 : decode cX11_wagons 263 = .ok (.iconst 1, 1) := by decide +kernel
theorem dX11_wagons_264 : decode cX11_wagons 264 = .ok (.isub, 1) := by decide +kernel
theorem dX11_wagons_265 : decode cX11_wagons 265 = .ok (.iaload, 1) := by decide +kernel
theorem dX11_wagons_266 : decode cX11_wagons 266 = .ok (.ireturn, 1) := by decide +kernel
theorem dX11_inScrap_0 : decode cX11_inScrap 0 = .ok (.iconst 0, 1) := by decide +kernel
theorem dX11_inScrap_1 : decode cX11_inScrap 1 = .ok (.istore_n 2, 1) := by decide +kernel
theorem dX11_inScrap_2 : decode cX11_inScrap 2 = .ok (.iconst 0, 1) := by decide +kernel
theorem dX11_inScrap_3 : decode cX11_inScrap 3 = .ok (.istore_n 3, 1) := by decide +kernel
theorem dX11_inScrap_4 : decode cX11_inScrap 4 = .ok (.iload_n 3, 1) := by decide +kernel
theorem dX11_inScrap_5 : decode cX11_inScrap 5 = .ok (.aload_n 0, 1) := by decide +kernel
theorem dX11_inScrap_6 : decode cX11_inScrap 6 = .ok (.getfield 7, 3) := by decide +kernel
theorem dX11_inScrap_9 : decode cX11_inScrap 9 = .ok (.bipush 8, 2) := by decide +kernel
theorem dX11_inScrap_11 : decode cX11_inScrap 11 = .ok (.iaload, 1) := by decide +kernel
theorem dX11_inScrap_12 : decode cX11_inScrap 12 = .ok (.if_icmp .ge 25, 3) := by decide +kernel
theorem dX11_inScrap_15 : decode cX11_inScrap 15 = .ok (.iload_n 2, 1) := by decide +kernel
theorem dX11_inScrap_16 : decode cX11_inScrap 16 = .ok (.aload_n 0, 1) := by decide +kernel
theorem dX11_inScrap_17 : decode cX11_inScrap 17 = .ok (.getfield 7, 3) := by decide +kernel
theorem dX11_inScrap_20 : decode cX11_inScrap 20 = .ok (.bipush 9, 2) := by decide +kernel
theorem dX11_inScrap_22 : decode cX11_inScrap 22 = .ok (.iconst 3, 1) := by decide +kernel
theorem dX11_inScrap_23 : decode cX11_inScrap 23 = .ok (.iload_n 3, 1) := by decide +kernel
theorem dX11_inScrap_24 : decode cX11_inScrap 24 = .ok (.imul, 1) := by decide +kernel
theorem dX11_inScrap_25 : decode cX11_inScrap 25 = .ok (.iadd, 1) := by decide +kernel
theorem dX11_inScrap_26 : decode cX11_inScrap 26 = .ok (.iload_n 1, 1) := by decide +kernel
theorem dX11_inScrap_27 : decode cX11_inScrap 27 = .ok (.iadd, 1) := by decide +kernel
theorem dX11_inScrap_28 : decode cX11_inScrap 28 = .ok (.iaload, 1) := by decide +kernel
theorem dX11_inScrap_29 : decode cX11_inScrap 29 = .ok (.iadd, 1) := by decide +kernel
theorem dX11_inScrap_30 : decode cX11_inScrap 30 = .ok (.istore_n 2, 1) := by decide +kernel
theorem dX11_inScrap_31 : decode cX11_inScrap 31 = .ok (.iinc 3 1, 3) := by decide +kernel
theorem dX11_inScrap_34 : decode cX11_inScrap 34 = .ok (.goto (-30), 3) := by decide +kernel
theorem dX11_inScrap_37 : decode cX11_inScrap 37 = .ok (.iload_n 2, 1) := by decide +kernel
theorem dX11_inScrap_38 : decode cX11_inScrap 38 = .ok (.ireturn, 1) := by decide +kernel
theorem dX11_inBells_0 : decode cX11_inBells 0 = .ok (.iconst 0, 1) := by decide +kernel
theorem dX11_inBells_1 : decode cX11_inBells 1 = .ok (.istore_n 3, 1) := by decide +kernel
theorem dX11_inBells_2 : decode cX11_inBells 2 = .ok (.iconst 0, 1) := by decide +kernel
theorem dX11_inBells_3 : decode cX11_inBells 3 = .ok (.istore 4, 2) := by decide +kernel
theorem dX11_inBells_5 : decode cX11_inBells 5 = .ok (.iload 4, 2) := by decide +kernel
theorem dX11_inBells_7 : decode cX11_inBells 7 = .ok (.aload_n 0, 1) := by decide +kernel
theorem dX11_inBells_8 : decode cX11_inBells 8 = .ok (.getfield 7, 3) := by decide +kernel
theorem dX11_inBells_11 : decode cX11_inBells 11 = .ok (.bipush 52, 2) := by decide +kernel
theorem dX11_inBells_13 : decode cX11_inBells 13 = .ok (.iaload, 1) := by decide +kernel
theorem dX11_inBells_14 : decode cX11_inBells 14 = .ok (.if_icmp .ge 51, 3) := by decide +kernel
theorem dX11_inBells_17 : decode cX11_inBells 17 = .ok (.iload_n 3, 1) := by decide +kernel
theorem dX11_inBells_18 : decode cX11_inBells 18 = .ok (.iload_n 2, 1) := by decide +kernel
theorem dX11_inBells_19 : decode cX11_inBells 19 = .ok (.ifCond .eq 18, 3) := by decide +kernel
theorem dX11_inBells_22 : decode cX11_inBells 22 = .ok (.aload_n 0, 1) := by decide +kernel
theorem dX11_inBells_23 : decode cX11_inBells 23 = .ok (.iload 4, 2) := by decide +kernel
theorem dX11_inBells_25 : decode cX11_inBells 25 = .ok (.bipush 6, 2) := by decide +kernel
theorem dX11_inBells_27 : decode cX11_inBells 27 = .ok (.invokevirtual 104, 3) := by decide +kernel
theorem dX11_inBells_30 : decode cX11_inBells 30 = .ok (.iconst 2, 1) := by decide +kernel
theorem dX11_inBells_31 : decode cX11_inBells 31 = .ok (.if_icmp .ne 25, 3) := by decide +kernel
theorem dX11_inBells_34 : decode cX11_inBells 34 = .ok (.goto 12, 3) := by decide +kernel
theorem dX11_inBells_37 : decode cX11_inBells 37 = .ok (.aload_n 0, 1) := by decide +kernel
theorem dX11_inBells_38 : decode cX11_inBells 38 = .ok (.iload 4, 2) := by decide +kernel
theorem dX11_inBells_40 : decode cX11_inBells 40 = .ok (.invokevirtual 107, 3) := by decide +kernel
theorem dX11_inBells_43 : decode cX11_inBells 43 = .ok (.ifCond .eq 13, 3) := by decide +kernel
theorem dX11_inBells_46 : decode cX11_inBells 46 = .ok (.aload_n 0, 1) := by decide +kernel
theorem dX11_inBells_47 : decode cX11_inBells 47 = .ok (.iload 4, 2) := by decide +kernel
theorem dX11_inBells_49 : decode cX11_inBells 49 = .ok (.iload_n 1, 1) := by decide +kernel
theorem dX11_inBells_50 : decode cX11_inBells 50 = .ok (.invokevirtual 104, 3) := by decide +kernel
theorem dX11_inBells_53 : decode cX11_inBells 53 = .ok (.goto 4, 3) := by decide +kernel
theorem dX11_inBells_56 : decode cX11_inBells 56 = .ok (.iconst 0, 1) := by decide +kernel
theorem dX11_inBells_57 : decode cX11_inBells 57 = .ok (.iadd, 1) := by decide +kernel
theorem dX11_inBells_58 : decode cX11_inBells 58 = .ok (.istore_n 3, 1) := by decide +kernel
theorem dX11_inBells_59 : decode cX11_inBells 59 = .ok (.iinc 4 1, 3) := by decide +kernel
theorem dX11_inBells_62 : decode cX11_inBells 62 = .ok (.goto (-57), 3) := by decide +kernel
theorem dX11_inBells_65 : decode cX11_inBells 65 = .ok (.iload_n 3, 1) := by decide +kernel
theorem dX11_inBells_66 : decode cX11_inBells 66 = .ok (.ireturn, 1) := by decide +kernel
theorem dX11_account_0 : decode cX11_account 0 = .ok (.iload_n 1, 1) := by decide +kernel
theorem dX11_account_1 : decode cX11_account 1 = .ok (.invokestatic 79, 3) := by decide +kernel
theorem dX11_account_4 : decode cX11_account 4 = .ok (.ifCond .ne 5, 3) := by decide +kernel
theorem dX11_account_7 : decode cX11_account 7 = .ok (.iconst (-1), 1) := by decide +kernel
theorem dX11_account_8 : decode cX11_account 8 = .ok (.ireturn, 1) := by decide +kernel
theorem dX11_account_9 : decode cX11_account 9 = .ok (.iload_n 2, 1) := by decide +kernel
theorem dX11_account_10 : decode cX11_account 10 = .ok (.tableswitch 101 0 6 #[42, 51, 60, 70, 76, 76, 92], 42) := by decide +kernel
theorem dX11_account_52 : decode cX11_account 52 = .ok (.aload_n 0, 1) := by decide +kernel
theorem dX11_account_53 : decode cX11_account 53 = .ok (.getfield 7, 3) := by decide +kernel
theorem dX11_account_56 : decode cX11_account 56 = .ok (.iconst 2, 1) := by decide +kernel
theorem dX11_account_57 : decode cX11_account 57 = .ok (.iload_n 1, 1) := by decide +kernel
theorem dX11_account_58 : decode cX11_account 58 = .ok (.iadd, 1) := by decide +kernel
theorem dX11_account_59 : decode cX11_account 59 = .ok (.iaload, 1) := by decide +kernel
theorem dX11_account_60 : decode cX11_account 60 = .ok (.ireturn, 1) := by decide +kernel
theorem dX11_account_61 : decode cX11_account 61 = .ok (.aload_n 0, 1) := by decide +kernel
theorem dX11_account_62 : decode cX11_account 62 = .ok (.getfield 7, 3) := by decide +kernel
theorem dX11_account_65 : decode cX11_account 65 = .ok (.iconst 0, 1) := by decide +kernel
theorem dX11_account_66 : decode cX11_account 66 = .ok (.iload_n 1, 1) := by decide +kernel
theorem dX11_account_67 : decode cX11_account 67 = .ok (.iadd, 1) := by decide +kernel
theorem dX11_account_68 : decode cX11_account 68 = .ok (.iaload, 1) := by decide +kernel
theorem dX11_account_69 : decode cX11_account 69 = .ok (.ireturn, 1) := by decide +kernel
theorem dX11_account_70 : decode cX11_account 70 = .ok (.aload_n 0, 1) := by decide +kernel
theorem dX11_account_71 : decode cX11_account 71 = .ok (.getfield 7, 3) := by decide +kernel
theorem dX11_account_74 : decode cX11_account 74 = .ok (.bipush 6, 2) := by decide +kernel
theorem dX11_account_76 : decode cX11_account 76 = .ok (.iload_n 1, 1) := by decide +kernel
theorem dX11_account_77 : decode cX11_account 77 = .ok (.iadd, 1) := by decide +kernel
theorem dX11_account_78 : decode cX11_account 78 = .ok (.iaload, 1) := by decide +kernel
theorem dX11_account_79 : decode cX11_account 79 = .ok (.ireturn, 1) := by decide +kernel
theorem dX11_account_80 : decode cX11_account 80 = .ok (.aload_n 0, 1) := by decide +kernel
theorem dX11_account_81 : decode cX11_account 81 = .ok (.iload_n 1, 1) := by decide +kernel
theorem dX11_account_82 : decode cX11_account 82 = .ok (.invokevirtual 172, 3) := by decide +kernel
theorem dX11_account_85 : decode cX11_account 85 = .ok (.ireturn, 1) := by decide +kernel
theorem dX11_account_86 : decode cX11_account 86 = .ok (.aload_n 0, 1) := by decide +kernel
theorem dX11_account_87 : decode cX11_account 87 = .ok (.iload_n 1, 1) := by decide +kernel
theorem dX11_account_88 : decode cX11_account 88 = .ok (.iload_n 2, 1) := by decide +kernel
theorem dX11_account_89 : decode cX11_account 89 = .ok (.iconst 5, 1) := by decide +kernel
theorem dX11_account_90 : decode cX11_account 90 = .ok (.if_icmp .ne 7, 3) := by decide +kernel
theorem dX11_account_93 : decode cX11_account 93 = .ok (.iconst 1, 1) := by decide +kernel
theorem dX11_account_94 : decode cX11_account 94 = .ok (.goto 4, 3) := by decide +kernel
theorem dX11_account_97 : decode cX11_account 97 = .ok (.iconst 0, 1) := by decide +kernel
theorem dX11_account_98 : decode cX11_account 98 = .ok (.invokevirtual 175, 3) := by decide +kernel
theorem dX11_account_101 : decode cX11_account 101 = .ok (.ireturn, 1) := by decide +kernel
theorem dX11_account_102 : decode cX11_account 102 = .ok (.aload_n 0, 1) := by decide +kernel
theorem dX11_account_103 : decode cX11_account 103 = .ok (.getfield 7, 3) := by decide +kernel
theorem dX11_account_106 : decode cX11_account 106 = .ok (.iconst 4, 1) := by decide +kernel
theorem dX11_account_107 : decode cX11_account 107 = .ok (.iload_n 1, 1) := by decide +kernel
theorem dX11_account_108 : decode cX11_account 108 = .ok (.iadd, 1) := by decide +kernel
theorem dX11_account_109 : decode cX11_account 109 = .ok (.iaload, 1) := by decide +kernel
theorem dX11_account_110 : decode cX11_account 110 = .ok (.ireturn, 1) := by decide +kernel
theorem dX11_account_111 : decode cX11_account 111 = .ok (.iconst (-1), 1) := by decide +kernel
theorem dX11_account_112 : decode cX11_account 112 = .ok (.ireturn, 1) := by decide +kernel
theorem dX11_count_0 : decode cX11_count 0 = .ok (.iload_n 1, 1) := by decide +kernel
theorem dX11_count_1 : decode cX11_count 1 = .ok (.tableswitch 115 0 9 #[55, 63, 71, 76, 82, 88, 96, 96, 105, 110], 55) := by decide +kernel
theorem dX11_count_56 : decode cX11_count 56 = .ok (.aload_n 0, 1) := by decide +kernel
theorem dX11_count_57 : decode cX11_count 57 = .ok (.getfield 7, 3) := by decide +kernel
theorem dX11_count_60 : decode cX11_count 60 = .ok (.bipush 8, 2) := by decide +kernel
theorem dX11_count_62 : decode cX11_count 62 = .ok (.iaload, 1) := by decide +kernel
theorem dX11_count_63 : decode cX11_count 63 = .ok (.ireturn, 1) := by decide +kernel
theorem dX11_count_64 : decode cX11_count 64 = .ok (.aload_n 0, 1) := by decide +kernel
theorem dX11_count_65 : decode cX11_count 65 = .ok (.getfield 7, 3) := by decide +kernel
theorem dX11_count_68 : decode cX11_count 68 = .ok (.bipush 52, 2) := by decide +kernel
theorem dX11_count_70 : decode cX11_count 70 = .ok (.iaload, 1) := by decide +kernel
theorem dX11_count_71 : decode cX11_count 71 = .ok (.ireturn, 1) := by decide +kernel
theorem dX11_count_72 : decode cX11_count 72 = .ok (.aload_n 0, 1) := by decide +kernel
theorem dX11_count_73 : decode cX11_count 73 = .ok (.invokevirtual 125, 3) := by decide +kernel
theorem dX11_count_76 : decode cX11_count 76 = .ok (.ireturn, 1) := by decide +kernel
theorem dX11_count_77 : decode cX11_count 77 = .ok (.aload_n 0, 1) := by decide +kernel
theorem dX11_count_78 : decode cX11_count 78 = .ok (.iconst 1, 1) := by decide +kernel
theorem dX11_count_79 : decode cX11_count 79 = .ok (.invokevirtual 179, 3) := by decide +kernel
theorem dX11_count_82 : decode cX11_count 82 = .ok (.ireturn, 1) := by decide +kernel
theorem dX11_count_83 : decode cX11_count 83 = .ok (.aload_n 0, 1) := by decide +kernel
theorem dX11_count_84 : decode cX11_count 84 = .ok (.iconst 2, 1) := by decide +kernel
theorem dX11_count_85 : decode cX11_count 85 = .ok (.invokevirtual 179, 3) := by decide +kernel
theorem dX11_count_88 : decode cX11_count 88 = .ok (.ireturn, 1) := by decide +kernel
theorem dX11_count_89 : decode cX11_count 89 = .ok (.aload_n 0, 1) := by decide +kernel
theorem dX11_count_90 : decode cX11_count 90 = .ok (.getfield 7, 3) := by decide +kernel
theorem dX11_count_93 : decode cX11_count 93 = .ok (.bipush 53, 2) := by decide +kernel
theorem dX11_count_95 : decode cX11_count 95 = .ok (.iaload, 1) := by decide +kernel
theorem dX11_count_96 : decode cX11_count 96 = .ok (.ireturn, 1) := by decide +kernel
theorem dX11_count_97 : decode cX11_count 97 = .ok (.aload_n 0, 1) := by decide +kernel
theorem dX11_count_98 : decode cX11_count 98 = .ok (.iload_n 1, 1) := by decide +kernel
theorem dX11_count_99 : decode cX11_count 99 = .ok (.bipush 6, 2) := by decide +kernel
theorem dX11_count_101 : decode cX11_count 101 = .ok (.isub, 1) := by decide +kernel
theorem dX11_count_102 : decode cX11_count 102 = .ok (.invokevirtual 154, 3) := by decide +kernel
theorem dX11_count_105 : decode cX11_count 105 = .ok (.ireturn, 1) := by decide +kernel
theorem dX11_count_106 : decode cX11_count 106 = .ok (.aload_n 0, 1) := by decide +kernel
theorem dX11_count_107 : decode cX11_count 107 = .ok (.getfield 43, 3) := by decide +kernel
theorem dX11_count_110 : decode cX11_count 110 = .ok (.ireturn, 1) := by decide +kernel
theorem dX11_count_111 : decode cX11_count 111 = .ok (.aload_n 0, 1) := by decide +kernel
theorem dX11_count_112 : decode cX11_count 112 = .ok (.getfield 182, 3) := by decide +kernel
theorem dX11_count_115 : decode cX11_count 115 = .ok (.ireturn, 1) := by decide +kernel
theorem dX11_count_116 : decode cX11_count 116 = .ok (.iload_n 1, 1) := by decide +kernel
theorem dX11_count_117 : decode cX11_count 117 = .ok (.bipush 20, 2) := by decide +kernel
theorem dX11_count_119 : decode cX11_count 119 = .ok (.bipush 26, 2) := by decide +kernel
theorem dX11_count_121 : decode cX11_count 121 = .ok (.invokestatic 68, 3) := by decide +kernel
theorem dX11_count_124 : decode cX11_count 124 = .ok (.ifCond .eq 14, 3) := by decide +kernel
theorem dX11_count_127 : decode cX11_count 127 = .ok (.aload_n 0, 1) := by decide +kernel
theorem dX11_count_128 : decode cX11_count 128 = .ok (.iload_n 1, 1) := by decide +kernel
theorem dX11_count_129 : decode cX11_count 129 = .ok (.bipush 20, 2) := by decide +kernel
theorem dX11_count_131 : decode cX11_count 131 = .ok (.isub, 1) := by decide +kernel
theorem dX11_count_132 : decode cX11_count 132 = .ok (.invokevirtual 61, 3) := by decide +kernel
theorem dX11_count_135 : decode cX11_count 135 = .ok (.goto 4, 3) := by decide +kernel
theorem dX11_count_138 : decode cX11_count 138 = .ok (.iconst (-1), 1) := by decide +kernel
theorem dX11_count_139 : decode cX11_count 139 = .ok (.ireturn, 1) := by decide +kernel
theorem dX11_undo_0 : decode cX11_undo 0 = .ok (.aload_n 0, 1) := by decide +kernel
theorem dX11_undo_1 : decode cX11_undo 1 = .ok (.getfield 43, 3) := by decide +kernel
theorem dX11_undo_4 : decode cX11_undo 4 = .ok (.ifCond .ne 6, 3) := by decide +kernel
theorem dX11_undo_7 : decode cX11_undo 7 = .ok (.bipush (-2), 2) := by decide +kernel
theorem dX11_undo_9 : decode cX11_undo 9 = .ok (.ireturn, 1) := by decide +kernel
theorem dX11_undo_10 : decode cX11_undo 10 = .ok (.aload_n 0, 1) := by decide +kernel
theorem dX11_undo_11 : decode cX11_undo 11 = .ok (.dup, 1) := by decide +kernel
theorem dX11_undo_12 : decode cX11_undo 12 = .ok (.getfield 43, 3) := by decide +kernel
theorem dX11_undo_15 : decode cX11_undo 15 = .ok (.iconst 1, 1) := by decide +kernel
theorem dX11_undo_16 : decode cX11_undo 16 = .ok (.isub, 1) := by decide +kernel
theorem dX11_undo_17 : decode cX11_undo 17 = .ok (.putfield 43, 3) := by decide +kernel
theorem dX11_undo_20 : decode cX11_undo 20 = .ok (.iconst 0, 1) := by decide +kernel
theorem dX11_undo_21 : decode cX11_undo 21 = .ok (.istore_n 1, 1) := by decide +kernel
theorem dX11_undo_22 : decode cX11_undo 22 = .ok (.iload_n 1, 1) := by decide +kernel
theorem dX11_undo_23 : decode cX11_undo 23 = .ok (.sipush 1254, 3) := by decide +kernel
theorem dX11_undo_26 : decode cX11_undo 26 = .ok (.if_icmp .ge 30, 3) := by decide +kernel
theorem dX11_undo_29 : decode cX11_undo 29 = .ok (.aload_n 0, 1) := by decide +kernel
theorem dX11_undo_30 : decode cX11_undo 30 = .ok (.getfield 7, 3) := by decide +kernel
theorem dX11_undo_33 : decode cX11_undo 33 = .ok (.iload_n 1, 1) := by decide +kernel
theorem dX11_undo_34 : decode cX11_undo 34 = .ok (.aload_n 0, 1) := by decide +kernel
theorem dX11_undo_35 : decode cX11_undo 35 = .ok (.getfield 13, 3) := by decide +kernel
theorem dX11_undo_38 : decode cX11_undo 38 = .ok (.sipush 1254, 3) := by decide +kernel
theorem dX11_undo_41 : decode cX11_undo 41 = .ok (.aload_n 0, 1) := by decide +kernel
theorem dX11_undo_42 : decode cX11_undo 42 = .ok (.getfield 43, 3) := by decide +kernel
theorem dX11_undo_45 : decode cX11_undo 45 = .ok (.imul, 1) := by decide +kernel
theorem dX11_undo_46 : decode cX11_undo 46 = .ok (.iload_n 1, 1) := by decide +kernel
theorem dX11_undo_47 : decode cX11_undo 47 = .ok (.iadd, 1) := by decide +kernel
theorem dX11_undo_48 : decode cX11_undo 48 = .ok (.iaload, 1) := by decide +kernel
theorem dX11_undo_49 : decode cX11_undo 49 = .ok (.iastore, 1) := by decide +kernel
theorem dX11_undo_50 : decode cX11_undo 50 = .ok (.iinc 1 1, 3) := by decide +kernel
theorem dX11_undo_53 : decode cX11_undo 53 = .ok (.goto (-31), 3) := by decide +kernel
theorem dX11_undo_56 : decode cX11_undo 56 = .ok (.aload_n 0, 1) := by decide +kernel
theorem dX11_undo_57 : decode cX11_undo 57 = .ok (.getfield 43, 3) := by decide +kernel
theorem dX11_undo_60 : decode cX11_undo 60 = .ok (.ireturn, 1) := by decide +kernel
theorem dX11_type_0 : decode cX11_type 0 = .ok (.iload_n 1, 1) := by decide +kernel
theorem dX11_type_1 : decode cX11_type 1 = .ok (.bipush 32, 2) := by decide +kernel
theorem dX11_type_3 : decode cX11_type 3 = .ok (.bipush 126, 2) := by decide +kernel
theorem dX11_type_5 : decode cX11_type 5 = .ok (.invokestatic 68, 3) := by decide +kernel
theorem dX11_type_8 : decode cX11_type 8 = .ok (.ifCond .ne 5, 3) := by decide +kernel
theorem dX11_type_11 : decode cX11_type 11 = .ok (.iconst (-1), 1) := by decide +kernel
theorem dX11_type_12 : decode cX11_type 12 = .ok (.ireturn, 1) := by decide +kernel
theorem dX11_type_13 : decode cX11_type 13 = .ok (.aload_n 0, 1) := by decide +kernel
theorem dX11_type_14 : decode cX11_type 14 = .ok (.getfield 182, 3) := by decide +kernel
theorem dX11_type_17 : decode cX11_type 17 = .ok (.bipush 60, 2) := by decide +kernel
theorem dX11_type_19 : decode cX11_type 19 = .ok (.if_icmp .ne 6, 3) := by decide +kernel
theorem dX11_type_22 : decode cX11_type 22 = .ok (.bipush (-3), 2) := by decide +kernel
theorem dX11_type_24 : decode cX11_type 24 = .ok (.ireturn, 1) := by decide +kernel
theorem dX11_type_25 : decode cX11_type 25 = .ok (.aload_n 0, 1) := by decide +kernel
theorem dX11_type_26 : decode cX11_type 26 = .ok (.getfield 28, 3) := by decide +kernel
theorem dX11_type_29 : decode cX11_type 29 = .ok (.aload_n 0, 1) := by decide +kernel
theorem dX11_type_30 : decode cX11_type 30 = .ok (.getfield 182, 3) := by decide +kernel
theorem dX11_type_33 : decode cX11_type 33 = .ok (.iload_n 1, 1) := by decide +kernel
theorem dX11_type_34 : decode cX11_type 34 = .ok (.iastore, 1) := by decide +kernel
theorem dX11_type_35 : decode cX11_type 35 = .ok (.aload_n 0, 1) := by decide +kernel
theorem dX11_type_36 : decode cX11_type 36 = .ok (.dup, 1) := by decide +kernel
theorem dX11_type_37 : decode cX11_type 37 = .ok (.getfield 182, 3) := by decide +kernel
theorem dX11_type_40 : decode cX11_type 40 = .ok (.iconst 1, 1) := by decide +kernel
theorem dX11_type_41 : decode cX11_type 41 = .ok (.iadd, 1) := by decide +kernel
theorem dX11_type_42 : decode cX11_type 42 = .ok (.putfield 182, 3) := by decide +kernel
theorem dX11_type_45 : decode cX11_type 45 = .ok (.aload_n 0, 1) := by decide +kernel
theorem dX11_type_46 : decode cX11_type 46 = .ok (.getfield 182, 3) := by decide +kernel
theorem dX11_type_49 : decode cX11_type 49 = .ok (.ireturn, 1) := by decide +kernel
theorem dX11_clearText_0 : decode cX11_clearText 0 = .ok (.aload_n 0, 1) := by decide +kernel
theorem dX11_clearText_1 : decode cX11_clearText 1 = .ok (.getfield 182, 3) := by decide +kernel
theorem dX11_clearText_4 : decode cX11_clearText 4 = .ok (.istore_n 1, 1) := by decide +kernel
theorem dX11_clearText_5 : decode cX11_clearText 5 = .ok (.aload_n 0, 1) := by decide +kernel
theorem dX11_clearText_6 : decode cX11_clearText 6 = .ok (.iconst 0, 1) := by decide +kernel
theorem dX11_clearText_7 : decode cX11_clearText 7 = .ok (.putfield 182, 3) := by decide +kernel
theorem dX11_clearText_10 : decode cX11_clearText 10 = .ok (.iload_n 1, 1) := by decide +kernel
theorem dX11_clearText_11 : decode cX11_clearText 11 = .ok (.ireturn, 1) := by decide +kernel
theorem dX11_isDigit_0 : decode cX11_isDigit 0 = .ok (.iload_n 1, 1) := by decide +kernel
theorem dX11_isDigit_1 : decode cX11_isDigit 1 = .ok (.aload_n 0, 1) := by decide +kernel
theorem dX11_isDigit_2 : decode cX11_isDigit 2 = .ok (.getfield 182, 3) := by decide +kernel
theorem dX11_isDigit_5 : decode cX11_isDigit 5 = .ok (.if_icmp .ge 23, 3) := by decide +kernel
theorem dX11_isDigit_8 : decode cX11_isDigit 8 = .ok (.aload_n 0, 1) := by decide +kernel
theorem dX11_isDigit_9 : decode cX11_isDigit 9 = .ok (.getfield 28, 3) := by decide +kernel
theorem dX11_isDigit_12 : decode cX11_isDigit 12 = .ok (.iload_n 1, 1) := by decide +kernel
theorem dX11_isDigit_13 : decode cX11_isDigit 13 = .ok (.iaload, 1) := by decide +kernel
theorem dX11_isDigit_14 : decode cX11_isDigit 14 = .ok (.bipush 48, 2) := by decide +kernel
theorem dX11_isDigit_16 : decode cX11_isDigit 16 = .ok (.bipush 57, 2) := by decide +kernel
theorem dX11_isDigit_18 : decode cX11_isDigit 18 = .ok (.invokestatic 68, 3) := by decide +kernel
theorem dX11_isDigit_21 : decode cX11_isDigit 21 = .ok (.ifCond .eq 7, 3) := by decide +kernel
theorem dX11_isDigit_24 : decode cX11_isDigit 24 = .ok (.iconst 1, 1) := by decide +kernel
theorem dX11_isDigit_25 : decode cX11_isDigit 25 = .ok (.goto 4, 3) := by decide +kernel
theorem dX11_isDigit_28 : decode cX11_isDigit 28 = .ok (.iconst 0, 1) := by decide +kernel
theorem dX11_isDigit_29 : decode cX11_isDigit 29 = .ok (.ireturn, 1) := by decide +kernel
theorem dX11_fails_0 : decode cX11_fails 0 = .ok (.aload_n 0, 1) := by decide +kernel
theorem dX11_fails_1 : decode cX11_fails 1 = .ok (.iload_n 1, 1) := by decide +kernel
theorem dX11_fails_2 : decode cX11_fails 2 = .ok (.putfield 185, 3) := by decide +kernel
theorem dX11_fails_5 : decode cX11_fails 5 = .ok (.iconst 0, 1) := by decide +kernel
theorem dX11_fails_6 : decode cX11_fails 6 = .ok (.ireturn, 1) := by decide +kernel
theorem dX11_takesBell_0 : decode cX11_takesBell 0 = .ok (.aload_n 0, 1) := by decide +kernel
theorem dX11_takesBell_1 : decode cX11_takesBell 1 = .ok (.getfield 28, 3) := by decide +kernel
theorem dX11_takesBell_4 : decode cX11_takesBell 4 = .ok (.aload_n 0, 1) := by decide +kernel
theorem dX11_takesBell_5 : decode cX11_takesBell 5 = .ok (.getfield 188, 3) := by decide +kernel
theorem dX11_takesBell_8 : decode cX11_takesBell 8 = .ok (.iaload, 1) := by decide +kernel
theorem dX11_takesBell_9 : decode cX11_takesBell 9 = .ok (.bipush 48, 2) := by decide +kernel
theorem dX11_takesBell_11 : decode cX11_takesBell 11 = .ok (.isub, 1) := by decide +kernel
theorem dX11_takesBell_12 : decode cX11_takesBell 12 = .ok (.istore_n 1, 1) := by decide +kernel
theorem dX11_takesBell_13 : decode cX11_takesBell 13 = .ok (.aload_n 0, 1) := by decide +kernel
theorem dX11_takesBell_14 : decode cX11_takesBell 14 = .ok (.aload_n 0, 1) := by decide +kernel
theorem dX11_takesBell_15 : decode cX11_takesBell 15 = .ok (.getfield 188, 3) := by decide +kernel
theorem dX11_takesBell_18 : decode cX11_takesBell 18 = .ok (.iconst 1, 1) := by decide +kernel
theorem dX11_takesBell_19 : decode cX11_takesBell 19 = .ok (.iadd, 1) := by decide +kernel
theorem dX11_takesBell_20 : decode cX11_takesBell 20 = .ok (.invokevirtual 191, 3) := by decide +kernel
theorem dX11_takesBell_23 : decode cX11_takesBell 23 = .ok (.istore_n 2, 1) := by decide +kernel
theorem dX11_takesBell_24 : decode cX11_takesBell 24 = .ok (.iload_n 2, 1) := by decide +kernel
theorem dX11_takesBell_25 : decode cX11_takesBell 25 = .ok (.ifCond .eq 25, 3) := by decide +kernel
theorem dX11_takesBell_28 : decode cX11_takesBell 28 = .ok (.bipush 10, 2) := by decide +kernel
theorem dX11_takesBell_30 : decode cX11_takesBell 30 = .ok (.iload_n 1, 1) := by decide +kernel
theorem dX11_takesBell_31 : decode cX11_takesBell 31 = .ok (.imul, 1) := by decide +kernel
theorem dX11_takesBell_32 : decode cX11_takesBell 32 = .ok (.aload_n 0, 1) := by decide +kernel
theorem dX11_takesBell_33 : decode cX11_takesBell 33 = .ok (.getfield 28, 3) := by decide +kernel
theorem dX11_takesBell_36 : decode cX11_takesBell 36 = .ok (.aload_n 0, 1) := by decide +kernel
theorem dX11_takesBell_37 : decode cX11_takesBell 37 = .ok (.getfield 188, 3) := by decide +kernel
theorem dX11_takesBell_40 : decode cX11_takesBell 40 = .ok (.iconst 1, 1) := by decide +kernel
theorem dX11_takesBell_41 : decode cX11_takesBell 41 = .ok (.iadd, 1) := by decide +kernel
theorem dX11_takesBell_42 : decode cX11_takesBell 42 = .ok (.iaload, 1) := by decide +kernel
theorem dX11_takesBell_43 : decode cX11_takesBell 43 = .ok (.iadd, 1) := by decide +kernel
theorem dX11_takesBell_44 : decode cX11_takesBell 44 = .ok (.bipush 48, 2) := by decide +kernel
theorem dX11_takesBell_46 : decode cX11_takesBell 46 = .ok (.isub, 1) := by decide +kernel
theorem dX11_takesBell_47 : decode cX11_takesBell 47 = .ok (.goto 4, 3) := by decide +kernel
theorem dX11_takesBell_50 : decode cX11_takesBell 50 = .ok (.iload_n 1, 1) := by decide +kernel
theorem dX11_takesBell_51 : decode cX11_takesBell 51 = .ok (.istore_n 1, 1) := by decide +kernel
theorem dX11_takesBell_52 : decode cX11_takesBell 52 = .ok (.aload_n 0, 1) := by decide +kernel
theorem dX11_takesBell_53 : decode cX11_takesBell 53 = .ok (.iload_n 1, 1) := by decide +kernel
theorem dX11_takesBell_54 : decode cX11_takesBell 54 = .ok (.invokevirtual 138, 3) := by decide +kernel
theorem dX11_takesBell_57 : decode cX11_takesBell 57 = .ok (.ifCond .eq 11, 3) := by decide +kernel
theorem dX11_takesBell_60 : decode cX11_takesBell 60 = .ok (.aload_n 0, 1) := by decide +kernel
theorem dX11_takesBell_61 : decode cX11_takesBell 61 = .ok (.iload_n 1, 1) := by decide +kernel
theorem dX11_takesBell_62 : decode cX11_takesBell 62 = .ok (.invokevirtual 107, 3) := by decide +kernel
theorem dX11_takesBell_65 : decode cX11_takesBell 65 = .ok (.ifCond .ne 9, 3) := by decide +kernel
theorem dX11_takesBell_68 : decode cX11_takesBell 68 = .ok (.aload_n 0, 1) := by decide +kernel
theorem dX11_takesBell_69 : decode cX11_takesBell 69 = .ok (.iconst 2, 1) := by decide +kernel
theorem dX11_takesBell_70 : decode cX11_takesBell 70 = .ok (.invokevirtual 194, 3) := by decide +kernel
theorem dX11_takesBell_73 : decode cX11_takesBell 73 = .ok (.ireturn, 1) := by decide +kernel
theorem dX11_takesBell_74 : decode cX11_takesBell 74 = .ok (.iconst 0, 1) := by decide +kernel
theorem dX11_takesBell_75 : decode cX11_takesBell 75 = .ok (.istore_n 3, 1) := by decide +kernel
theorem dX11_takesBell_76 : decode cX11_takesBell 76 = .ok (.iload_n 3, 1) := by decide +kernel
theorem dX11_takesBell_77 : decode cX11_takesBell 77 = .ok (.aload_n 0, 1) := by decide +kernel
theorem dX11_takesBell_78 : decode cX11_takesBell 78 = .ok (.getfield 197, 3) := by decide +kernel
theorem dX11_takesBell_81 : decode cX11_takesBell 81 = .ok (.if_icmp .ge 25, 3) := by decide +kernel
theorem dX11_takesBell_84 : decode cX11_takesBell 84 = .ok (.aload_n 0, 1) := by decide +kernel
theorem dX11_takesBell_85 : decode cX11_takesBell 85 = .ok (.getfield 31, 3) := by decide +kernel
theorem dX11_takesBell_88 : decode cX11_takesBell 88 = .ok (.iload_n 3, 1) := by decide +kernel
theorem dX11_takesBell_89 : decode cX11_takesBell 89 = .ok (.iaload, 1) := by decide +kernel
theorem dX11_takesBell_90 : decode cX11_takesBell 90 = .ok (.iload_n 1, 1) := by decide +kernel
theorem dX11_takesBell_91 : decode cX11_takesBell 91 = .ok (.if_icmp .ne 9, 3) := by decide +kernel
theorem dX11_takesBell_94 : decode cX11_takesBell 94 = .ok (.aload_n 0, 1) := by decide +kernel
theorem dX11_takesBell_95 : decode cX11_takesBell 95 = .ok (.iconst 3, 1) := by decide +kernel
theorem dX11_takesBell_96 : decode cX11_takesBell 96 = .ok (.invokevirtual 194, 3) := by decide +kernel
theorem dX11_takesBell_99 : decode cX11_takesBell 99 = .ok (.ireturn, 1) := by decide +kernel
theorem dX11_takesBell_100 : decode cX11_takesBell 100 = .ok (.iinc 3 1, 3) := by decide +kernel
theorem dX11_takesBell_103 : decode cX11_takesBell 103 = .ok (.goto (-27), 3) := by decide +kernel
theorem dX11_takesBell_106 : decode cX11_takesBell 106 = .ok (.aload_n 0, 1) := by decide +kernel
theorem dX11_takesBell_107 : decode cX11_takesBell 107 = .ok (.getfield 31, 3) := by decide +kernel
theorem dX11_takesBell_110 : decode cX11_takesBell 110 = .ok (.aload_n 0, 1) := by decide +kernel
theorem dX11_takesBell_111 : decode cX11_takesBell 111 = .ok (.getfield 197, 3) := by decide +kernel
theorem dX11_takesBell_114 : decode cX11_takesBell 114 = .ok (.iload_n 1, 1) := by decide +kernel
theorem dX11_takesBell_115 : decode cX11_takesBell 115 = .ok (.iastore, 1) := by decide +kernel
theorem dX11_takesBell_116 : decode cX11_takesBell 116 = .ok (.aload_n 0, 1) := by decide +kernel
theorem dX11_takesBell_117 : decode cX11_takesBell 117 = .ok (.getfield 34, 3) := by decide +kernel
theorem dX11_takesBell_120 : decode cX11_takesBell 120 = .ok (.aload_n 0, 1) := by decide +kernel
theorem dX11_takesBell_121 : decode cX11_takesBell 121 = .ok (.getfield 197, 3) := by decide +kernel
theorem dX11_takesBell_124 : decode cX11_takesBell 124 = .ok (.aload_n 0, 1) := by decide +kernel
theorem dX11_takesBell_125 : decode cX11_takesBell 125 = .ok (.getfield 200, 3) := by decide +kernel
theorem dX11_takesBell_128 : decode cX11_takesBell 128 = .ok (.iastore, 1) := by decide +kernel
theorem dX11_takesBell_129 : decode cX11_takesBell 129 = .ok (.aload_n 0, 1) := by decide +kernel
theorem dX11_takesBell_130 : decode cX11_takesBell 130 = .ok (.dup, 1) := by decide +kernel
theorem dX11_takesBell_131 : decode cX11_takesBell 131 = .ok (.getfield 197, 3) := by decide +kernel
theorem dX11_takesBell_134 : decode cX11_takesBell 134 = .ok (.iconst 1, 1) := by decide +kernel
theorem dX11_takesBell_135 : decode cX11_takesBell 135 = .ok (.iadd, 1) := by decide +kernel
theorem dX11_takesBell_136 : decode cX11_takesBell 136 = .ok (.putfield 197, 3) := by decide +kernel
theorem dX11_takesBell_139 : decode cX11_takesBell 139 = .ok (.aload_n 0, 1) := by decide +kernel
theorem dX11_takesBell_140 : decode cX11_takesBell 140 = .ok (.dup, 1) := by decide +kernel
theorem dX11_takesBell_141 : decode cX11_takesBell 141 = .ok (.getfield 188, 3) := by decide +kernel
theorem dX11_takesBell_144 : decode cX11_takesBell 144 = .ok (.iload_n 2, 1) := by decide +kernel
theorem dX11_takesBell_145 : decode cX11_takesBell 145 = .ok (.ifCond .eq 7, 3) := by decide +kernel
theorem dX11_takesBell_148 : decode cX11_takesBell 148 = .ok (.iconst 2, 1) := by decide +kernel
theorem dX11_takesBell_149 : decode cX11_takesBell 149 = .ok (.goto 4, 3) := by decide +kernel
theorem dX11_takesBell_152 : decode cX11_takesBell 152 = .ok (.iconst 1, 1) := by decide +kernel
theorem dX11_takesBell_153 : decode cX11_takesBell 153 = .ok (.iadd, 1) := by decide +kernel
theorem dX11_takesBell_154 : decode cX11_takesBell 154 = .ok (.putfield 188, 3) := by decide +kernel
theorem dX11_takesBell_157 : decode cX11_takesBell 157 = .ok (.aload_n 0, 1) := by decide +kernel
theorem dX11_takesBell_158 : decode cX11_takesBell 158 = .ok (.aload_n 0, 1) := by decide +kernel
theorem dX11_takesBell_159 : decode cX11_takesBell 159 = .ok (.iload_n 1, 1) := by decide +kernel
theorem dX11_takesBell_160 : decode cX11_takesBell 160 = .ok (.invokestatic 129, 3) := by decide +kernel
theorem dX11_takesBell_163 : decode cX11_takesBell 163 = .ok (.invokevirtual 88, 3) := by decide +kernel
theorem dX11_takesBell_166 : decode cX11_takesBell 166 = .ok (.putfield 203, 3) := by decide +kernel
theorem dX11_takesBell_169 : decode cX11_takesBell 169 = .ok (.iconst 1, 1) := by decide +kernel
theorem dX11_takesBell_170 : decode cX11_takesBell 170 = .ok (.ireturn, 1) := by decide +kernel
theorem dX11_takesRest_0 : decode cX11_takesRest 0 = .ok (.aload_n 0, 1) := by decide +kernel
theorem dX11_takesRest_1 : decode cX11_takesRest 1 = .ok (.getfield 200, 3) := by decide +kernel
theorem dX11_takesRest_4 : decode cX11_takesRest 4 = .ok (.ifCond .le 189, 3) := by decide +kernel
theorem dX11_takesRest_7 : decode cX11_takesRest 7 = .ok (.aload_n 0, 1) := by decide +kernel
theorem dX11_takesRest_8 : decode cX11_takesRest 8 = .ok (.getfield 188, 3) := by decide +kernel
theorem dX11_takesRest_11 : decode cX11_takesRest 11 = .ok (.aload_n 0, 1) := by decide +kernel
theorem dX11_takesRest_12 : decode cX11_takesRest 12 = .ok (.getfield 182, 3) := by decide +kernel
theorem dX11_takesRest_15 : decode cX11_takesRest 15 = .ok (.if_icmp .ge 15, 3) := by decide +kernel
theorem dX11_takesRest_18 : decode cX11_takesRest 18 = .ok (.aload_n 0, 1) := by decide +kernel
theorem dX11_takesRest_19 : decode cX11_takesRest 19 = .ok (.getfield 28, 3) := by decide +kernel
theorem dX11_takesRest_22 : decode cX11_takesRest 22 = .ok (.aload_n 0, 1) := by decide +kernel
theorem dX11_takesRest_23 : decode cX11_takesRest 23 = .ok (.getfield 188, 3) := by decide +kernel
theorem dX11_takesRest_26 : decode cX11_takesRest 26 = .ok (.iaload, 1) := by decide +kernel
theorem dX11_takesRest_27 : decode cX11_takesRest 27 = .ok (.goto 4, 3) := by decide +kernel
theorem dX11_takesRest_30 : decode cX11_takesRest 30 = .ok (.iconst (-1), 1) := by decide +kernel
theorem dX11_takesRest_31 : decode cX11_takesRest 31 = .ok (.istore_n 1, 1) := by decide +kernel
theorem dX11_takesRest_32 : decode cX11_takesRest 32 = .ok (.iload_n 1, 1) := by decide +kernel
theorem dX11_takesRest_33 : decode cX11_takesRest 33 = .ok (.aload_n 0, 1) := by decide +kernel
theorem dX11_takesRest_34 : decode cX11_takesRest 34 = .ok (.getfield 40, 3) := by decide +kernel
theorem dX11_takesRest_37 : decode cX11_takesRest 37 = .ok (.aload_n 0, 1) := by decide +kernel
theorem dX11_takesRest_38 : decode cX11_takesRest 38 = .ok (.getfield 200, 3) := by decide +kernel
theorem dX11_takesRest_41 : decode cX11_takesRest 41 = .ok (.iaload, 1) := by decide +kernel
theorem dX11_takesRest_42 : decode cX11_takesRest 42 = .ok (.ifCond .ne 8, 3) := by decide +kernel
theorem dX11_takesRest_45 : decode cX11_takesRest 45 = .ok (.bipush 44, 2) := by decide +kernel
theorem dX11_takesRest_47 : decode cX11_takesRest 47 = .ok (.goto 5, 3) := by decide +kernel
theorem dX11_takesRest_50 : decode cX11_takesRest 50 = .ok (.bipush 41, 2) := by decide +kernel
theorem dX11_takesRest_52 : decode cX11_takesRest 52 = .ok (.if_icmp .eq 17, 3) := by decide +kernel
theorem dX11_takesRest_55 : decode cX11_takesRest 55 = .ok (.aload_n 0, 1) := by decide +kernel
theorem dX11_takesRest_56 : decode cX11_takesRest 56 = .ok (.iload_n 1, 1) := by decide +kernel
theorem dX11_takesRest_57 : decode cX11_takesRest 57 = .ok (.ifCond .ge 7, 3) := by decide +kernel
theorem dX11_takesRest_60 : decode cX11_takesRest 60 = .ok (.iconst 4, 1) := by decide +kernel
theorem dX11_takesRest_61 : decode cX11_takesRest 61 = .ok (.goto 4, 3) := by decide +kernel
theorem dX11_takesRest_64 : decode cX11_takesRest 64 = .ok (.iconst 1, 1) := by decide +kernel
theorem dX11_takesRest_65 : decode cX11_takesRest 65 = .ok (.invokevirtual 194, 3) := by decide +kernel
theorem dX11_takesRest_68 : decode cX11_takesRest 68 = .ok (.ireturn, 1) := by decide +kernel
theorem dX11_takesRest_69 : decode cX11_takesRest 69 = .ok (.aload_n 0, 1) := by decide +kernel
theorem dX11_takesRest_70 : decode cX11_takesRest 70 = .ok (.dup, 1) := by decide +kernel
theorem dX11_takesRest_71 : decode cX11_takesRest 71 = .ok (.getfield 188, 3) := by decide +kernel
theorem dX11_takesRest_74 : decode cX11_takesRest 74 = .ok (.iconst 1, 1) := by decide +kernel
theorem dX11_takesRest_75 : decode cX11_takesRest 75 = .ok (.iadd, 1) := by decide +kernel
theorem dX11_takesRest_76 : decode cX11_takesRest 76 = .ok (.putfield 188, 3) := by decide +kernel
theorem dX11_takesRest_79 : decode cX11_takesRest 79 = .ok (.aload_n 0, 1) := by decide +kernel
theorem dX11_takesRest_80 : decode cX11_takesRest 80 = .ok (.getfield 40, 3) := by decide +kernel
theorem dX11_takesRest_83 : decode cX11_takesRest 83 = .ok (.aload_n 0, 1) := by decide +kernel
theorem dX11_takesRest_84 : decode cX11_takesRest 84 = .ok (.getfield 200, 3) := by decide +kernel
theorem dX11_takesRest_87 : decode cX11_takesRest 87 = .ok (.iaload, 1) := by decide +kernel
theorem dX11_takesRest_88 : decode cX11_takesRest 88 = .ok (.ifCond .ne 28, 3) := by decide +kernel
theorem dX11_takesRest_91 : decode cX11_takesRest 91 = .ok (.aload_n 0, 1) := by decide +kernel
theorem dX11_takesRest_92 : decode cX11_takesRest 92 = .ok (.getfield 40, 3) := by decide +kernel
theorem dX11_takesRest_95 : decode cX11_takesRest 95 = .ok (.aload_n 0, 1) := by decide +kernel
theorem dX11_takesRest_96 : decode cX11_takesRest 96 = .ok (.getfield 200, 3) := by decide +kernel
theorem dX11_takesRest_99 : decode cX11_takesRest 99 = .ok (.iconst 1, 1) := by decide +kernel
theorem dX11_takesRest_100 : decode cX11_takesRest 100 = .ok (.iastore, 1) := by decide +kernel
theorem dX11_takesRest_101 : decode cX11_takesRest 101 = .ok (.aload_n 0, 1) := by decide +kernel
theorem dX11_takesRest_102 : decode cX11_takesRest 102 = .ok (.getfield 37, 3) := by decide +kernel
theorem dX11_takesRest_105 : decode cX11_takesRest 105 = .ok (.aload_n 0, 1) := by decide +kernel
theorem dX11_takesRest_106 : decode cX11_takesRest 106 = .ok (.getfield 200, 3) := by decide +kernel
theorem dX11_takesRest_109 : decode cX11_takesRest 109 = .ok (.aload_n 0, 1) := by decide +kernel
theorem dX11_takesRest_110 : decode cX11_takesRest 110 = .ok (.getfield 203, 3) := by decide +kernel
theorem dX11_takesRest_113 : decode cX11_takesRest 113 = .ok (.iastore, 1) := by decide +kernel
theorem dX11_takesRest_114 : decode cX11_takesRest 114 = .ok (.iconst 1, 1) := by decide +kernel
theorem dX11_takesRest_115 : decode cX11_takesRest 115 = .ok (.ireturn, 1) := by decide +kernel
theorem dX11_takesRest_116 : decode cX11_takesRest 116 = .ok (.aload_n 0, 1) := by decide +kernel
theorem dX11_takesRest_117 : decode cX11_takesRest 117 = .ok (.getfield 203, 3) := by decide +kernel
theorem dX11_takesRest_120 : decode cX11_takesRest 120 = .ok (.aload_n 0, 1) := by decide +kernel
theorem dX11_takesRest_121 : decode cX11_takesRest 121 = .ok (.getfield 37, 3) := by decide +kernel
theorem dX11_takesRest_124 : decode cX11_takesRest 124 = .ok (.aload_n 0, 1) := by decide +kernel
theorem dX11_takesRest_125 : decode cX11_takesRest 125 = .ok (.getfield 200, 3) := by decide +kernel
theorem dX11_takesRest_128 : decode cX11_takesRest 128 = .ok (.iaload, 1) := by decide +kernel
theorem dX11_takesRest_129 : decode cX11_takesRest 129 = .ok (.isub, 1) := by decide +kernel
theorem dX11_takesRest_130 : decode cX11_takesRest 130 = .ok (.istore_n 2, 1) := by decide +kernel
theorem dX11_takesRest_131 : decode cX11_takesRest 131 = .ok (.iload_n 2, 1) := by decide +kernel
theorem dX11_takesRest_132 : decode cX11_takesRest 132 = .ok (.ifCond .ge 8, 3) := by decide +kernel
theorem dX11_takesRest_135 : decode cX11_takesRest 135 = .ok (.iload_n 2, 1) := by decide +kernel
theorem dX11_takesRest_136 : decode cX11_takesRest 136 = .ok (.ineg, 1) := by decide +kernel
theorem dX11_takesRest_137 : decode cX11_takesRest 137 = .ok (.goto 4, 3) := by decide +kernel
theorem dX11_takesRest_140 : decode cX11_takesRest 140 = .ok (.iload_n 2, 1) := by decide +kernel
theorem dX11_takesRest_141 : decode cX11_takesRest 141 = .ok (.istore_n 2, 1) := by decide +kernel
theorem dX11_takesRest_142 : decode cX11_takesRest 142 = .ok (.aload_n 0, 1) := by decide +kernel
theorem dX11_takesRest_143 : decode cX11_takesRest 143 = .ok (.iload_n 2, 1) := by decide +kernel
theorem dX11_takesRest_144 : decode cX11_takesRest 144 = .ok (.aload_n 0, 1) := by decide +kernel
theorem dX11_takesRest_145 : decode cX11_takesRest 145 = .ok (.getfield 206, 3) := by decide +kernel
theorem dX11_takesRest_148 : decode cX11_takesRest 148 = .ok (.if_icmp .le 7, 3) := by decide +kernel
theorem dX11_takesRest_151 : decode cX11_takesRest 151 = .ok (.iload_n 2, 1) := by decide +kernel
theorem dX11_takesRest_152 : decode cX11_takesRest 152 = .ok (.goto 7, 3) := by decide +kernel
theorem dX11_takesRest_155 : decode cX11_takesRest 155 = .ok (.aload_n 0, 1) := by decide +kernel
theorem dX11_takesRest_156 : decode cX11_takesRest 156 = .ok (.getfield 206, 3) := by decide +kernel
theorem dX11_takesRest_159 : decode cX11_takesRest 159 = .ok (.putfield 206, 3) := by decide +kernel
theorem dX11_takesRest_162 : decode cX11_takesRest 162 = .ok (.aload_n 0, 1) := by decide +kernel
theorem dX11_takesRest_163 : decode cX11_takesRest 163 = .ok (.dup, 1) := by decide +kernel
theorem dX11_takesRest_164 : decode cX11_takesRest 164 = .ok (.getfield 203, 3) := by decide +kernel
theorem dX11_takesRest_167 : decode cX11_takesRest 167 = .ok (.aload_n 0, 1) := by decide +kernel
theorem dX11_takesRest_168 : decode cX11_takesRest 168 = .ok (.getfield 37, 3) := by decide +kernel
theorem dX11_takesRest_171 : decode cX11_takesRest 171 = .ok (.aload_n 0, 1) := by decide +kernel
theorem dX11_takesRest_172 : decode cX11_takesRest 172 = .ok (.getfield 200, 3) := by decide +kernel
theorem dX11_takesRest_175 : decode cX11_takesRest 175 = .ok (.iaload, 1) := by decide +kernel
theorem dX11_takesRest_176 : decode cX11_takesRest 176 = .ok (.iadd, 1) := by decide +kernel
theorem dX11_takesRest_177 : decode cX11_takesRest 177 = .ok (.putfield 203, 3) := by decide +kernel
theorem dX11_takesRest_180 : decode cX11_takesRest 180 = .ok (.aload_n 0, 1) := by decide +kernel
theorem dX11_takesRest_181 : decode cX11_takesRest 181 = .ok (.dup, 1) := by decide +kernel
theorem dX11_takesRest_182 : decode cX11_takesRest 182 = .ok (.getfield 200, 3) := by decide +kernel
theorem dX11_takesRest_185 : decode cX11_takesRest 185 = .ok (.iconst 1, 1) := by decide +kernel
theorem dX11_takesRest_186 : decode cX11_takesRest 186 = .ok (.isub, 1) := by decide +kernel
theorem dX11_takesRest_187 : decode cX11_takesRest 187 = .ok (.putfield 200, 3) := by decide +kernel
theorem dX11_takesRest_190 : decode cX11_takesRest 190 = .ok (.goto (-190), 3) := by decide +kernel
theorem dX11_takesRest_193 : decode cX11_takesRest 193 = .ok (.aload_n 0, 1) := by decide +kernel
theorem dX11_takesRest_194 : decode cX11_takesRest 194 = .ok (.getfield 188, 3) := by decide +kernel
theorem dX11_takesRest_197 : decode cX11_takesRest 197 = .ok (.aload_n 0, 1) := by decide +kernel
theorem dX11_takesRest_198 : decode cX11_takesRest 198 = .ok (.getfield 182, 3) := by decide +kernel
theorem dX11_takesRest_201 : decode cX11_takesRest 201 = .ok (.if_icmp .eq 11, 3) := by decide +kernel
theorem dX11_takesRest_204 : decode cX11_takesRest 204 = .ok (.aload_n 0, 1) := by decide +kernel
theorem dX11_takesRest_205 : decode cX11_takesRest 205 = .ok (.iconst 1, 1) := by decide +kernel
theorem dX11_takesRest_206 : decode cX11_takesRest 206 = .ok (.invokevirtual 194, 3) := by decide +kernel
theorem dX11_takesRest_209 : decode cX11_takesRest 209 = .ok (.ifCond .eq 7, 3) := by decide +kernel
theorem dX11_takesRest_212 : decode cX11_takesRest 212 = .ok (.iconst 1, 1) := by decide +kernel
theorem dX11_takesRest_213 : decode cX11_takesRest 213 = .ok (.goto 4, 3) := by decide +kernel
theorem dX11_takesRest_216 : decode cX11_takesRest 216 = .ok (.iconst 0, 1) := by decide +kernel
theorem dX11_takesRest_217 : decode cX11_takesRest 217 = .ok (.ireturn, 1) := by decide +kernel
theorem dX11_reads_0 : decode cX11_reads 0 = .ok (.aload_n 0, 1) := by decide +kernel
theorem dX11_reads_1 : decode cX11_reads 1 = .ok (.iconst 0, 1) := by decide +kernel
theorem dX11_reads_2 : decode cX11_reads 2 = .ok (.putfield 188, 3) := by decide +kernel
theorem dX11_reads_5 : decode cX11_reads 5 = .ok (.aload_n 0, 1) := by decide +kernel
theorem dX11_reads_6 : decode cX11_reads 6 = .ok (.iconst 0, 1) := by decide +kernel
theorem dX11_reads_7 : decode cX11_reads 7 = .ok (.putfield 185, 3) := by decide +kernel
theorem dX11_reads_10 : decode cX11_reads 10 = .ok (.aload_n 0, 1) := by decide +kernel
theorem dX11_reads_11 : decode cX11_reads 11 = .ok (.iconst 0, 1) := by decide +kernel
theorem dX11_reads_12 : decode cX11_reads 12 = .ok (.putfield 197, 3) := by decide +kernel
theorem dX11_reads_15 : decode cX11_reads 15 = .ok (.aload_n 0, 1) := by decide +kernel
theorem dX11_reads_16 : decode cX11_reads 16 = .ok (.iconst 0, 1) := by decide +kernel
theorem dX11_reads_17 : decode cX11_reads 17 = .ok (.putfield 209, 3) := by decide +kernel
theorem dX11_reads_20 : decode cX11_reads 20 = .ok (.aload_n 0, 1) := by decide +kernel
theorem dX11_reads_21 : decode cX11_reads 21 = .ok (.iconst 0, 1) := by decide +kernel
theorem dX11_reads_22 : decode cX11_reads 22 = .ok (.putfield 212, 3) := by decide +kernel
theorem dX11_reads_25 : decode cX11_reads 25 = .ok (.aload_n 0, 1) := by decide +kernel
theorem dX11_reads_26 : decode cX11_reads 26 = .ok (.iconst 0, 1) := by decide +kernel
theorem dX11_reads_27 : decode cX11_reads 27 = .ok (.putfield 206, 3) := by decide +kernel
theorem dX11_reads_30 : decode cX11_reads 30 = .ok (.aload_n 0, 1) := by decide +kernel
theorem dX11_reads_31 : decode cX11_reads 31 = .ok (.iconst 0, 1) := by decide +kernel
theorem dX11_reads_32 : decode cX11_reads 32 = .ok (.putfield 200, 3) := by decide +kernel
theorem dX11_reads_35 : decode cX11_reads 35 = .ok (.iconst 1, 1) := by decide +kernel
theorem dX11_reads_36 : decode cX11_reads 36 = .ok (.istore_n 1, 1) := by decide +kernel
theorem dX11_reads_37 : decode cX11_reads 37 = .ok (.iload_n 1, 1) := by decide +kernel
theorem dX11_reads_38 : decode cX11_reads 38 = .ok (.ifCond .eq 170, 3) := by decide +kernel
theorem dX11_reads_41 : decode cX11_reads 41 = .ok (.aload_n 0, 1) := by decide +kernel
theorem dX11_reads_42 : decode cX11_reads 42 = .ok (.getfield 188, 3) := by decide +kernel
theorem dX11_reads_45 : decode cX11_reads 45 = .ok (.aload_n 0, 1) := by decide +kernel
theorem dX11_reads_46 : decode cX11_reads 46 = .ok (.getfield 182, 3) := by decide +kernel
theorem dX11_reads_49 : decode cX11_reads 49 = .ok (.if_icmp .ne 9, 3) := by decide +kernel
theorem dX11_reads_52 : decode cX11_reads 52 = .ok (.aload_n 0, 1) := by decide +kernel
theorem dX11_reads_53 : decode cX11_reads 53 = .ok (.iconst 4, 1) := by decide +kernel
theorem dX11_reads_54 : decode cX11_reads 54 = .ok (.invokevirtual 194, 3) := by decide +kernel
theorem dX11_reads_57 : decode cX11_reads 57 = .ok (.ireturn, 1) := by decide +kernel
theorem dX11_reads_58 : decode cX11_reads 58 = .ok (.aload_n 0, 1) := by decide +kernel
theorem dX11_reads_59 : decode cX11_reads 59 = .ok (.getfield 28, 3) := by decide +kernel
theorem dX11_reads_62 : decode cX11_reads 62 = .ok (.aload_n 0, 1) := by decide +kernel
theorem dX11_reads_63 : decode cX11_reads 63 = .ok (.getfield 188, 3) := by decide +kernel
theorem dX11_reads_66 : decode cX11_reads 66 = .ok (.iaload, 1) := by decide +kernel
theorem dX11_reads_67 : decode cX11_reads 67 = .ok (.bipush 40, 2) := by decide +kernel
theorem dX11_reads_69 : decode cX11_reads 69 = .ok (.if_icmp .ne 7, 3) := by decide +kernel
theorem dX11_reads_72 : decode cX11_reads 72 = .ok (.iconst 1, 1) := by decide +kernel
theorem dX11_reads_73 : decode cX11_reads 73 = .ok (.goto 4, 3) := by decide +kernel
theorem dX11_reads_76 : decode cX11_reads 76 = .ok (.iconst 0, 1) := by decide +kernel
theorem dX11_reads_77 : decode cX11_reads 77 = .ok (.istore_n 2, 1) := by decide +kernel
theorem dX11_reads_78 : decode cX11_reads 78 = .ok (.iload_n 2, 1) := by decide +kernel
theorem dX11_reads_79 : decode cX11_reads 79 = .ok (.ifCond .eq 80, 3) := by decide +kernel
theorem dX11_reads_82 : decode cX11_reads 82 = .ok (.aload_n 0, 1) := by decide +kernel
theorem dX11_reads_83 : decode cX11_reads 83 = .ok (.getfield 200, 3) := by decide +kernel
theorem dX11_reads_86 : decode cX11_reads 86 = .ok (.iconst 5, 1) := by decide +kernel
theorem dX11_reads_87 : decode cX11_reads 87 = .ok (.if_icmp .ge 72, 3) := by decide +kernel
theorem dX11_reads_90 : decode cX11_reads 90 = .ok (.aload_n 0, 1) := by decide +kernel
theorem dX11_reads_91 : decode cX11_reads 91 = .ok (.dup, 1) := by decide +kernel
theorem dX11_reads_92 : decode cX11_reads 92 = .ok (.getfield 200, 3) := by decide +kernel
theorem dX11_reads_95 : decode cX11_reads 95 = .ok (.iconst 1, 1) := by decide +kernel
theorem dX11_reads_96 : decode cX11_reads 96 = .ok (.iadd, 1) := by decide +kernel
theorem dX11_reads_97 : decode cX11_reads 97 = .ok (.putfield 200, 3) := by decide +kernel
theorem dX11_reads_100 : decode cX11_reads 100 = .ok (.aload_n 0, 1) := by decide +kernel
theorem dX11_reads_101 : decode cX11_reads 101 = .ok (.dup, 1) := by decide +kernel
theorem dX11_reads_102 : decode cX11_reads 102 = .ok (.getfield 209, 3) := by decide +kernel
theorem dX11_reads_105 : decode cX11_reads 105 = .ok (.iconst 1, 1) := by decide +kernel
theorem dX11_reads_106 : decode cX11_reads 106 = .ok (.iadd, 1) := by decide +kernel
theorem dX11_reads_107 : decode cX11_reads 107 = .ok (.putfield 209, 3) := by decide +kernel
theorem dX11_reads_110 : decode cX11_reads 110 = .ok (.aload_n 0, 1) := by decide +kernel
theorem dX11_reads_111 : decode cX11_reads 111 = .ok (.aload_n 0, 1) := by decide +kernel
theorem dX11_reads_112 : decode cX11_reads 112 = .ok (.getfield 200, 3) := by decide +kernel
theorem dX11_reads_115 : decode cX11_reads 115 = .ok (.aload_n 0, 1) := by decide +kernel
theorem dX11_reads_116 : decode cX11_reads 116 = .ok (.getfield 212, 3) := by decide +kernel
theorem dX11_reads_119 : decode cX11_reads 119 = .ok (.if_icmp .le 10, 3) := by decide +kernel
theorem dX11_reads_122 : decode cX11_reads 122 = .ok (.aload_n 0, 1) := by decide +kernel
theorem dX11_reads_123 : decode cX11_reads 123 = .ok (.getfield 200, 3) := by decide +kernel
theorem dX11_reads_126 : decode cX11_reads 126 = .ok (.goto 7, 3) := by decide +kernel
theorem dX11_reads_129 : decode cX11_reads 129 = .ok (.aload_n 0, 1) := by decide +kernel
theorem dX11_reads_130 : decode cX11_reads 130 = .ok (.getfield 212, 3) := by decide +kernel
theorem dX11_reads_133 : decode cX11_reads 133 = .ok (.putfield 212, 3) := by decide +kernel
theorem dX11_reads_136 : decode cX11_reads 136 = .ok (.aload_n 0, 1) := by decide +kernel
theorem dX11_reads_137 : decode cX11_reads 137 = .ok (.getfield 40, 3) := by decide +kernel
theorem dX11_reads_140 : decode cX11_reads 140 = .ok (.aload_n 0, 1) := by decide +kernel
theorem dX11_reads_141 : decode cX11_reads 141 = .ok (.getfield 200, 3) := by decide +kernel
theorem dX11_reads_144 : decode cX11_reads 144 = .ok (.iconst 0, 1) := by decide +kernel
theorem dX11_reads_145 : decode cX11_reads 145 = .ok (.iastore, 1) := by decide +kernel
theorem dX11_reads_146 : decode cX11_reads 146 = .ok (.aload_n 0, 1) := by decide +kernel
theorem dX11_reads_147 : decode cX11_reads 147 = .ok (.dup, 1) := by decide +kernel
theorem dX11_reads_148 : decode cX11_reads 148 = .ok (.getfield 188, 3) := by decide +kernel
theorem dX11_reads_151 : decode cX11_reads 151 = .ok (.iconst 1, 1) := by decide +kernel
theorem dX11_reads_152 : decode cX11_reads 152 = .ok (.iadd, 1) := by decide +kernel
theorem dX11_reads_153 : decode cX11_reads 153 = .ok (.putfield 188, 3) := by decide +kernel
theorem dX11_reads_156 : decode cX11_reads 156 = .ok (.goto 49, 3) := by decide +kernel
theorem dX11_reads_159 : decode cX11_reads 159 = .ok (.aload_n 0, 1) := by decide +kernel
theorem dX11_reads_160 : decode cX11_reads 160 = .ok (.aload_n 0, 1) := by decide +kernel
theorem dX11_reads_161 : decode cX11_reads 161 = .ok (.getfield 188, 3) := by decide +kernel
theorem dX11_reads_164 : decode cX11_reads 164 = .ok (.invokevirtual 191, 3) := by decide +kernel
theorem dX11_reads_167 : decode cX11_reads 167 = .ok (.ifCond .ne 9, 3) := by decide +kernel
theorem dX11_reads_170 : decode cX11_reads 170 = .ok (.aload_n 0, 1) := by decide +kernel
theorem dX11_reads_171 : decode cX11_reads 171 = .ok (.iconst 1, 1) := by decide +kernel
theorem dX11_reads_172 : decode cX11_reads 172 = .ok (.invokevirtual 194, 3) := by decide +kernel
theorem dX11_reads_175 : decode cX11_reads 175 = .ok (.ireturn, 1) := by decide +kernel
theorem dX11_reads_176 : decode cX11_reads 176 = .ok (.aload_n 0, 1) := by decide +kernel
theorem dX11_reads_177 : decode cX11_reads 177 = .ok (.invokevirtual 215, 3) := by decide +kernel
theorem dX11_reads_180 : decode cX11_reads 180 = .ok (.ifCond .eq 10, 3) := by decide +kernel
theorem dX11_reads_183 : decode cX11_reads 183 = .ok (.aload_n 0, 1) := by decide +kernel
theorem dX11_reads_184 : decode cX11_reads 184 = .ok (.invokevirtual 219, 3) := by decide +kernel
theorem dX11_reads_187 : decode cX11_reads 187 = .ok (.ifCond .ne 5, 3) := by decide +kernel
theorem dX11_reads_190 : decode cX11_reads 190 = .ok (.iconst 0, 1) := by decide +kernel
theorem dX11_reads_191 : decode cX11_reads 191 = .ok (.ireturn, 1) := by decide +kernel
theorem dX11_reads_192 : decode cX11_reads 192 = .ok (.aload_n 0, 1) := by decide +kernel
theorem dX11_reads_193 : decode cX11_reads 193 = .ok (.getfield 200, 3) := by decide +kernel
theorem dX11_reads_196 : decode cX11_reads 196 = .ok (.ifCond .le 7, 3) := by decide +kernel
theorem dX11_reads_199 : decode cX11_reads 199 = .ok (.iconst 1, 1) := by decide +kernel
theorem dX11_reads_200 : decode cX11_reads 200 = .ok (.goto 4, 3) := by decide +kernel
theorem dX11_reads_203 : decode cX11_reads 203 = .ok (.iconst 0, 1) := by decide +kernel
theorem dX11_reads_204 : decode cX11_reads 204 = .ok (.istore_n 1, 1) := by decide +kernel
theorem dX11_reads_205 : decode cX11_reads 205 = .ok (.goto (-168), 3) := by decide +kernel
theorem dX11_reads_208 : decode cX11_reads 208 = .ok (.iconst 1, 1) := by decide +kernel
theorem dX11_reads_209 : decode cX11_reads 209 = .ok (.ireturn, 1) := by decide +kernel
theorem dX11_fault_0 : decode cX11_fault 0 = .ok (.iload_n 1, 1) := by decide +kernel
theorem dX11_fault_1 : decode cX11_fault 1 = .ok (.iconst 0, 1) := by decide +kernel
theorem dX11_fault_2 : decode cX11_fault 2 = .ok (.iconst 1, 1) := by decide +kernel
theorem dX11_fault_3 : decode cX11_fault 3 = .ok (.invokestatic 68, 3) := by decide +kernel
theorem dX11_fault_6 : decode cX11_fault 6 = .ok (.ifCond .ne 5, 3) := by decide +kernel
theorem dX11_fault_9 : decode cX11_fault 9 = .ok (.iconst (-1), 1) := by decide +kernel
theorem dX11_fault_10 : decode cX11_fault 10 = .ok (.ireturn, 1) := by decide +kernel
theorem dX11_fault_11 : decode cX11_fault 11 = .ok (.aload_n 0, 1) := by decide +kernel
theorem dX11_fault_12 : decode cX11_fault 12 = .ok (.invokevirtual 222, 3) := by decide +kernel
theorem dX11_fault_15 : decode cX11_fault 15 = .ok (.ifCond .eq 8, 3) := by decide +kernel
theorem dX11_fault_18 : decode cX11_fault 18 = .ok (.bipush (-4), 2) := by decide +kernel
theorem dX11_fault_20 : decode cX11_fault 20 = .ok (.goto 18, 3) := by decide +kernel
theorem dX11_fault_23 : decode cX11_fault 23 = .ok (.iload_n 1, 1) := by decide +kernel
theorem dX11_fault_24 : decode cX11_fault 24 = .ok (.ifCond .ne 10, 3) := by decide +kernel
theorem dX11_fault_27 : decode cX11_fault 27 = .ok (.aload_n 0, 1) := by decide +kernel
theorem dX11_fault_28 : decode cX11_fault 28 = .ok (.getfield 188, 3) := by decide +kernel
theorem dX11_fault_31 : decode cX11_fault 31 = .ok (.goto 7, 3) := by decide +kernel
theorem dX11_fault_34 : decode cX11_fault 34 = .ok (.aload_n 0, 1) := by decide +kernel
theorem dX11_fault_35 : decode cX11_fault 35 = .ok (.getfield 185, 3) := by decide +kernel
theorem dX11_fault_38 : decode cX11_fault 38 = .ok (.ireturn, 1) := by decide +kernel
theorem dX11_added_0 : decode cX11_added 0 = .ok (.iconst 1, 1) := by decide +kernel
theorem dX11_added_1 : decode cX11_added 1 = .ok (.aload_n 0, 1) := by decide +kernel
theorem dX11_added_2 : decode cX11_added 2 = .ok (.getfield 212, 3) := by decide +kernel
theorem dX11_added_5 : decode cX11_added 5 = .ok (.ishl, 1) := by decide +kernel
theorem dX11_added_6 : decode cX11_added 6 = .ok (.istore_n 1, 1) := by decide +kernel
theorem dX11_added_7 : decode cX11_added 7 = .ok (.iconst 0, 1) := by decide +kernel
theorem dX11_added_8 : decode cX11_added 8 = .ok (.istore_n 2, 1) := by decide +kernel
theorem dX11_added_9 : decode cX11_added 9 = .ok (.iconst 0, 1) := by decide +kernel
theorem dX11_added_10 : decode cX11_added 10 = .ok (.istore_n 3, 1) := by decide +kernel
theorem dX11_added_11 : decode cX11_added 11 = .ok (.iconst 0, 1) := by decide +kernel
theorem dX11_added_12 : decode cX11_added 12 = .ok (.istore 4, 2) := by decide +kernel
theorem dX11_added_14 : decode cX11_added 14 = .ok (.iload 4, 2) := by decide +kernel
theorem dX11_added_16 : decode cX11_added 16 = .ok (.aload_n 0, 1) := by decide +kernel
theorem dX11_added_17 : decode cX11_added 17 = .ok (.getfield 197, 3) := by decide +kernel
theorem dX11_added_20 : decode cX11_added 20 = .ok (.if_icmp .ge 59, 3) := by decide +kernel
theorem dX11_added_23 : decode cX11_added 23 = .ok (.aload_n 0, 1) := by decide +kernel
theorem dX11_added_24 : decode cX11_added 24 = .ok (.aload_n 0, 1) := by decide +kernel
theorem dX11_added_25 : decode cX11_added 25 = .ok (.getfield 31, 3) := by decide +kernel
theorem dX11_added_28 : decode cX11_added 28 = .ok (.iload 4, 2) := by decide +kernel
theorem dX11_added_30 : decode cX11_added 30 = .ok (.iaload, 1) := by decide +kernel
theorem dX11_added_31 : decode cX11_added 31 = .ok (.invokestatic 129, 3) := by decide +kernel
theorem dX11_added_34 : decode cX11_added 34 = .ok (.invokevirtual 88, 3) := by decide +kernel
theorem dX11_added_37 : decode cX11_added 37 = .ok (.istore 5, 2) := by decide +kernel
theorem dX11_added_39 : decode cX11_added 39 = .ok (.iload_n 3, 1) := by decide +kernel
theorem dX11_added_40 : decode cX11_added 40 = .ok (.iload 5, 2) := by decide +kernel
theorem dX11_added_42 : decode cX11_added 42 = .ok (.iadd, 1) := by decide +kernel
theorem dX11_added_43 : decode cX11_added 43 = .ok (.istore_n 3, 1) := by decide +kernel
theorem dX11_added_44 : decode cX11_added 44 = .ok (.iload 5, 2) := by decide +kernel
theorem dX11_added_46 : decode cX11_added 46 = .ok (.aload_n 0, 1) := by decide +kernel
theorem dX11_added_47 : decode cX11_added 47 = .ok (.getfield 34, 3) := by decide +kernel
theorem dX11_added_50 : decode cX11_added 50 = .ok (.iload 4, 2) := by decide +kernel
theorem dX11_added_52 : decode cX11_added 52 = .ok (.iaload, 1) := by decide +kernel
theorem dX11_added_53 : decode cX11_added 53 = .ok (.ishl, 1) := by decide +kernel
theorem dX11_added_54 : decode cX11_added 54 = .ok (.iload_n 2, 1) := by decide +kernel
theorem dX11_added_55 : decode cX11_added 55 = .ok (.if_icmp .le 16, 3) := by decide +kernel
theorem dX11_added_58 : decode cX11_added 58 = .ok (.iload 5, 2) := by decide +kernel
theorem dX11_added_60 : decode cX11_added 60 = .ok (.aload_n 0, 1) := by decide +kernel
theorem dX11_added_61 : decode cX11_added 61 = .ok (.getfield 34, 3) := by decide +kernel
theorem dX11_added_64 : decode cX11_added 64 = .ok (.iload 4, 2) := by decide +kernel
theorem dX11_added_66 : decode cX11_added 66 = .ok (.iaload, 1) := by decide +kernel
theorem dX11_added_67 : decode cX11_added 67 = .ok (.ishl, 1) := by decide +kernel
theorem dX11_added_68 : decode cX11_added 68 = .ok (.goto 4, 3) := by decide +kernel
theorem dX11_added_71 : decode cX11_added 71 = .ok (.iload_n 2, 1) := by decide +kernel
theorem dX11_added_72 : decode cX11_added 72 = .ok (.istore_n 2, 1) := by decide +kernel
theorem dX11_added_73 : decode cX11_added 73 = .ok (.iinc 4 1, 3) := by decide +kernel
theorem dX11_added_76 : decode cX11_added 76 = .ok (.goto (-62), 3) := by decide +kernel
theorem dX11_added_79 : decode cX11_added 79 = .ok (.iload_n 2, 1) := by decide +kernel
theorem dX11_added_80 : decode cX11_added 80 = .ok (.iload_n 1, 1) := by decide +kernel
theorem dX11_added_81 : decode cX11_added 81 = .ok (.iadd, 1) := by decide +kernel
theorem dX11_added_82 : decode cX11_added 82 = .ok (.iconst 1, 1) := by decide +kernel
theorem dX11_added_83 : decode cX11_added 83 = .ok (.isub, 1) := by decide +kernel
theorem dX11_added_84 : decode cX11_added 84 = .ok (.iload_n 1, 1) := by decide +kernel
theorem dX11_added_85 : decode cX11_added 85 = .ok (.idiv, 1) := by decide +kernel
theorem dX11_added_86 : decode cX11_added 86 = .ok (.iload_n 1, 1) := by decide +kernel
theorem dX11_added_87 : decode cX11_added 87 = .ok (.imul, 1) := by decide +kernel
theorem dX11_added_88 : decode cX11_added 88 = .ok (.iload_n 3, 1) := by decide +kernel
theorem dX11_added_89 : decode cX11_added 89 = .ok (.isub, 1) := by decide +kernel
theorem dX11_added_90 : decode cX11_added 90 = .ok (.ireturn, 1) := by decide +kernel
theorem dX11_frame_0 : decode cX11_frame 0 = .ok (.iload_n 1, 1) := by decide +kernel
theorem dX11_frame_1 : decode cX11_frame 1 = .ok (.iconst 0, 1) := by decide +kernel
theorem dX11_frame_2 : decode cX11_frame 2 = .ok (.iconst 5, 1) := by decide +kernel
theorem dX11_frame_3 : decode cX11_frame 3 = .ok (.invokestatic 68, 3) := by decide +kernel
theorem dX11_frame_6 : decode cX11_frame 6 = .ok (.ifCond .ne 5, 3) := by decide +kernel
theorem dX11_frame_9 : decode cX11_frame 9 = .ok (.iconst (-1), 1) := by decide +kernel
theorem dX11_frame_10 : decode cX11_frame 10 = .ok (.ireturn, 1) := by decide +kernel
theorem dX11_frame_11 : decode cX11_frame 11 = .ok (.aload_n 0, 1) := by decide +kernel
theorem dX11_frame_12 : decode cX11_frame 12 = .ok (.invokevirtual 222, 3) := by decide +kernel
theorem dX11_frame_15 : decode cX11_frame 15 = .ok (.ifCond .ne 6, 3) := by decide +kernel
theorem dX11_frame_18 : decode cX11_frame 18 = .ok (.bipush (-2), 2) := by decide +kernel
theorem dX11_frame_20 : decode cX11_frame 20 = .ok (.ireturn, 1) := by decide +kernel
theorem dX11_frame_21 : decode cX11_frame 21 = .ok (.iload_n 1, 1) := by decide +kernel
theorem dX11_frame_22 : decode cX11_frame 22 = .ok (.ifCond .ne 10, 3) := by decide +kernel
theorem dX11_frame_25 : decode cX11_frame 25 = .ok (.aload_n 0, 1) := by decide +kernel
theorem dX11_frame_26 : decode cX11_frame 26 = .ok (.getfield 203, 3) := by decide +kernel
theorem dX11_frame_29 : decode cX11_frame 29 = .ok (.goto 55, 3) := by decide +kernel
theorem dX11_frame_32 : decode cX11_frame 32 = .ok (.iload_n 1, 1) := by decide +kernel
theorem dX11_frame_33 : decode cX11_frame 33 = .ok (.iconst 1, 1) := by decide +kernel
theorem dX11_frame_34 : decode cX11_frame 34 = .ok (.if_icmp .ne 10, 3) := by decide +kernel
theorem dX11_frame_37 : decode cX11_frame 37 = .ok (.aload_n 0, 1) := by decide +kernel
theorem dX11_frame_38 : decode cX11_frame 38 = .ok (.getfield 197, 3) := by decide +kernel
theorem dX11_frame_41 : decode cX11_frame 41 = .ok (.goto 43, 3) := by decide +kernel
theorem dX11_frame_44 : decode cX11_frame 44 = .ok (.iload_n 1, 1) := by decide +kernel
theorem dX11_frame_45 : decode cX11_frame 45 = .ok (.iconst 2, 1) := by decide +kernel
theorem dX11_frame_46 : decode cX11_frame 46 = .ok (.if_icmp .ne 10, 3) := by decide +kernel
theorem dX11_frame_49 : decode cX11_frame 49 = .ok (.aload_n 0, 1) := by decide +kernel
theorem dX11_frame_50 : decode cX11_frame 50 = .ok (.getfield 209, 3) := by decide +kernel
theorem dX11_frame_53 : decode cX11_frame 53 = .ok (.goto 31, 3) := by decide +kernel
theorem dX11_frame_56 : decode cX11_frame 56 = .ok (.iload_n 1, 1) := by decide +kernel
theorem dX11_frame_57 : decode cX11_frame 57 = .ok (.iconst 3, 1) := by decide +kernel
theorem dX11_frame_58 : decode cX11_frame 58 = .ok (.if_icmp .ne 10, 3) := by decide +kernel
theorem dX11_frame_61 : decode cX11_frame 61 = .ok (.aload_n 0, 1) := by decide +kernel
theorem dX11_frame_62 : decode cX11_frame 62 = .ok (.getfield 212, 3) := by decide +kernel
theorem dX11_frame_65 : decode cX11_frame 65 = .ok (.goto 19, 3) := by decide +kernel
theorem dX11_frame_68 : decode cX11_frame 68 = .ok (.iload_n 1, 1) := by decide +kernel
theorem dX11_frame_69 : decode cX11_frame 69 = .ok (.iconst 4, 1) := by decide +kernel
theorem dX11_frame_70 : decode cX11_frame 70 = .ok (.if_icmp .ne 10, 3) := by decide +kernel
theorem dX11_frame_73 : decode cX11_frame 73 = .ok (.aload_n 0, 1) := by decide +kernel
theorem dX11_frame_74 : decode cX11_frame 74 = .ok (.getfield 206, 3) := by decide +kernel
theorem dX11_frame_77 : decode cX11_frame 77 = .ok (.goto 7, 3) := by decide +kernel
theorem dX11_frame_80 : decode cX11_frame 80 = .ok (.aload_n 0, 1) := by decide +kernel
theorem dX11_frame_81 : decode cX11_frame 81 = .ok (.invokevirtual 225, 3) := by decide +kernel
theorem dX11_frame_84 : decode cX11_frame 84 = .ok (.ireturn, 1) := by decide +kernel
theorem dJ9_abs_0f7a4_0 : decode cJ9_abs_0f7a4 0 = .ok (.iload_n 0, 1) := by decide +kernel
theorem dJ9_abs_0f7a4_1 : decode cJ9_abs_0f7a4 1 = .ok (.ifCond .ge 8, 3) := by decide +kernel
theorem dJ9_abs_0f7a4_4 : decode cJ9_abs_0f7a4 4 = .ok (.iload_n 0, 1) := by decide +kernel
theorem dJ9_abs_0f7a4_5 : decode cJ9_abs_0f7a4 5 = .ok (.ineg, 1) := by decide +kernel
theorem dJ9_abs_0f7a4_6 : decode cJ9_abs_0f7a4 6 = .ok (.goto 4, 3) := by decide +kernel
theorem dJ9_abs_0f7a4_9 : decode cJ9_abs_0f7a4 9 = .ok (.iload_n 0, 1) := by decide +kernel
theorem dJ9_abs_0f7a4_10 : decode cJ9_abs_0f7a4 10 = .ok (.ireturn, 1) := by decide +kernel
theorem dJ9_max_7cf53_0 : decode cJ9_max_7cf53 0 = .ok (.iload_n 0, 1) := by decide +kernel
theorem dJ9_max_7cf53_1 : decode cJ9_max_7cf53 1 = .ok (.iload_n 1, 1) := by decide +kernel
theorem dJ9_max_7cf53_2 : decode cJ9_max_7cf53 2 = .ok (.if_icmp .lt 7, 3) := by decide +kernel
theorem dJ9_max_7cf53_5 : decode cJ9_max_7cf53 5 = .ok (.iload_n 0, 1) := by decide +kernel
theorem dJ9_max_7cf53_6 : decode cJ9_max_7cf53 6 = .ok (.goto 4, 3) := by decide +kernel
theorem dJ9_max_7cf53_9 : decode cJ9_max_7cf53 9 = .ok (.iload_n 1, 1) := by decide +kernel
theorem dJ9_max_7cf53_10 : decode cJ9_max_7cf53 10 = .ok (.ireturn, 1) := by decide +kernel
theorem dJ9_min_7cf53_0 : decode cJ9_min_7cf53 0 = .ok (.iload_n 0, 1) := by decide +kernel
theorem dJ9_min_7cf53_1 : decode cJ9_min_7cf53 1 = .ok (.iload_n 1, 1) := by decide +kernel
theorem dJ9_min_7cf53_2 : decode cJ9_min_7cf53 2 = .ok (.if_icmp .gt 7, 3) := by decide +kernel
theorem dJ9_min_7cf53_5 : decode cJ9_min_7cf53 5 = .ok (.iload_n 0, 1) := by decide +kernel
theorem dJ9_min_7cf53_6 : decode cJ9_min_7cf53 6 = .ok (.goto 4, 3) := by decide +kernel
theorem dJ9_min_7cf53_9 : decode cJ9_min_7cf53 9 = .ok (.iload_n 1, 1) := by decide +kernel
theorem dJ9_min_7cf53_10 : decode cJ9_min_7cf53 10 = .ok (.ireturn, 1) := by decide +kernel
theorem dJ9_min_f86c9_0 : decode cJ9_min_f86c9 0 = .ok (.lload_n 0, 1) := by decide +kernel
theorem dJ9_min_f86c9_1 : decode cJ9_min_f86c9 1 = .ok (.lload_n 2, 1) := by decide +kernel
theorem dJ9_min_f86c9_2 : decode cJ9_min_f86c9 2 = .ok (.lcmp, 1) := by decide +kernel
theorem dJ9_min_f86c9_3 : decode cJ9_min_f86c9 3 = .ok (.ifCond .gt 7, 3) := by decide +kernel
theorem dJ9_min_f86c9_6 : decode cJ9_min_f86c9 6 = .ok (.lload_n 0, 1) := by decide +kernel
theorem dJ9_min_f86c9_7 : decode cJ9_min_f86c9 7 = .ok (.goto 4, 3) := by decide +kernel
theorem dJ9_min_f86c9_10 : decode cJ9_min_f86c9 10 = .ok (.lload_n 2, 1) := by decide +kernel
theorem dJ9_min_f86c9_11 : decode cJ9_min_f86c9 11 = .ok (.lreturn, 1) := by decide +kernel
theorem dJ7_fill_53178_0 : decode cJ7_fill_53178 0 = .ok (.iconst 0, 1) := by decide +kernel
theorem dJ7_fill_53178_1 : decode cJ7_fill_53178 1 = .ok (.istore_n 2, 1) := by decide +kernel
theorem dJ7_fill_53178_2 : decode cJ7_fill_53178 2 = .ok (.aload_n 0, 1) := by decide +kernel
theorem dJ7_fill_53178_3 : decode cJ7_fill_53178 3 = .ok (.arraylength, 1) := by decide +kernel
theorem dJ7_fill_53178_4 : decode cJ7_fill_53178 4 = .ok (.istore_n 3, 1) := by decide +kernel
theorem dJ7_fill_53178_5 : decode cJ7_fill_53178 5 = .ok (.iload_n 2, 1) := by decide +kernel
theorem dJ7_fill_53178_6 : decode cJ7_fill_53178 6 = .ok (.iload_n 3, 1) := by decide +kernel
theorem dJ7_fill_53178_7 : decode cJ7_fill_53178 7 = .ok (.if_icmp .ge 13, 3) := by decide +kernel
theorem dJ7_fill_53178_10 : decode cJ7_fill_53178 10 = .ok (.aload_n 0, 1) := by decide +kernel
theorem dJ7_fill_53178_11 : decode cJ7_fill_53178 11 = .ok (.iload_n 2, 1) := by decide +kernel
theorem dJ7_fill_53178_12 : decode cJ7_fill_53178 12 = .ok (.iload_n 1, 1) := by decide +kernel
theorem dJ7_fill_53178_13 : decode cJ7_fill_53178 13 = .ok (.iastore, 1) := by decide +kernel
theorem dJ7_fill_53178_14 : decode cJ7_fill_53178 14 = .ok (.iinc 2 1, 3) := by decide +kernel
theorem dJ7_fill_53178_17 : decode cJ7_fill_53178 17 = .ok (.goto (-12), 3) := by decide +kernel
theorem dJ7_fill_53178_20 : decode cJ7_fill_53178 20 = .ok (.return_, 1) := by decide +kernel
theorem dL_law_0 : decode cL_law 0 = .ok (.new 7, 3) := by decide +kernel
theorem dL_law_3 : decode cL_law 3 = .ok (.dup, 1) := by decide +kernel
theorem dL_law_4 : decode cL_law 4 = .ok (.invokespecial 9, 3) := by decide +kernel
theorem dL_law_7 : decode cL_law 7 = .ok (.astore_n 1, 1) := by decide +kernel
theorem dL_law_8 : decode cL_law 8 = .ok (.new 10, 3) := by decide +kernel
theorem dL_law_11 : decode cL_law 11 = .ok (.dup, 1) := by decide +kernel
theorem dL_law_12 : decode cL_law 12 = .ok (.invokespecial 12, 3) := by decide +kernel
theorem dL_law_15 : decode cL_law 15 = .ok (.astore_n 2, 1) := by decide +kernel
theorem dL_law_16 : decode cL_law 16 = .ok (.iconst 0, 1) := by decide +kernel
theorem dL_law_17 : decode cL_law 17 = .ok (.istore_n 3, 1) := by decide +kernel
theorem dL_law_18 : decode cL_law 18 = .ok (.iload_n 3, 1) := by decide +kernel
theorem dL_law_19 : decode cL_law 19 = .ok (.aload_n 0, 1) := by decide +kernel
theorem dL_law_20 : decode cL_law 20 = .ok (.arraylength, 1) := by decide +kernel
theorem dL_law_21 : decode cL_law 21 = .ok (.iconst 4, 1) := by decide +kernel
theorem dL_law_22 : decode cL_law 22 = .ok (.isub, 1) := by decide +kernel
theorem dL_law_23 : decode cL_law 23 = .ok (.if_icmp .gt 789, 3) := by decide +kernel
theorem dL_law_26 : decode cL_law 26 = .ok (.aload_n 0, 1) := by decide +kernel
theorem dL_law_27 : decode cL_law 27 = .ok (.iload_n 3, 1) := by decide +kernel
theorem dL_law_28 : decode cL_law 28 = .ok (.iaload, 1) := by decide +kernel
theorem dL_law_29 : decode cL_law 29 = .ok (.bipush 31, 2) := by decide +kernel
theorem dL_law_31 : decode cL_law 31 = .ok (.iand, 1) := by decide +kernel
theorem dL_law_32 : decode cL_law 32 = .ok (.tableswitch 774 0 23 #[112, 145, 178, 201, 234, 257, 290, 323, 356, 379, 412, 455, 478, 511, 544, 577, 600, 623, 656, 679, 692, 715, 728, 751], 112) := by decide +kernel
theorem dL_law_144 : decode cL_law 144 = .ok (.aload_n 1, 1) := by decide +kernel
theorem dL_law_145 : decode cL_law 145 = .ok (.aload_n 0, 1) := by decide +kernel
theorem dL_law_146 : decode cL_law 146 = .ok (.iload_n 3, 1) := by decide +kernel
theorem dL_law_147 : decode cL_law 147 = .ok (.iconst 1, 1) := by decide +kernel
theorem dL_law_148 : decode cL_law 148 = .ok (.iadd, 1) := by decide +kernel
theorem dL_law_149 : decode cL_law 149 = .ok (.iaload, 1) := by decide +kernel
theorem dL_law_150 : decode cL_law 150 = .ok (.aload_n 0, 1) := by decide +kernel
theorem dL_law_151 : decode cL_law 151 = .ok (.iload_n 3, 1) := by decide +kernel
theorem dL_law_152 : decode cL_law 152 = .ok (.iconst 2, 1) := by decide +kernel
theorem dL_law_153 : decode cL_law 153 = .ok (.iadd, 1) := by decide +kernel
theorem dL_law_154 : decode cL_law 154 = .ok (.iaload, 1) := by decide +kernel
theorem dL_law_155 : decode cL_law 155 = .ok (.invokevirtual 13, 3) := by decide +kernel
theorem dL_law_158 : decode cL_law 158 = .ok (.aload_n 2, 1) := by decide +kernel
theorem dL_law_159 : decode cL_law 159 = .ok (.aload_n 0, 1) := by decide +kernel
theorem dL_law_160 : decode cL_law 160 = .ok (.iload_n 3, 1) := by decide +kernel
theorem dL_law_161 : decode cL_law 161 = .ok (.iconst 1, 1) := by decide +kernel
theorem dL_law_162 : decode cL_law 162 = .ok (.iadd, 1) := by decide +kernel
theorem dL_law_163 : decode cL_law 163 = .ok (.iaload, 1) := by decide +kernel
theorem dL_law_164 : decode cL_law 164 = .ok (.aload_n 0, 1) := by decide +kernel
theorem dL_law_165 : decode cL_law 165 = .ok (.iload_n 3, 1) := by decide +kernel
theorem dL_law_166 : decode cL_law 166 = .ok (.iconst 2, 1) := by decide +kernel
theorem dL_law_167 : decode cL_law 167 = .ok (.iadd, 1) := by decide +kernel
theorem dL_law_168 : decode cL_law 168 = .ok (.iaload, 1) := by decide +kernel
theorem dL_law_169 : decode cL_law 169 = .ok (.invokevirtual 17, 3) := by decide +kernel
theorem dL_law_172 : decode cL_law 172 = .ok (.if_icmp .eq 634, 3) := by decide +kernel
theorem dL_law_175 : decode cL_law 175 = .ok (.iconst 0, 1) := by decide +kernel
theorem dL_law_176 : decode cL_law 176 = .ok (.ireturn, 1) := by decide +kernel
theorem dL_law_177 : decode cL_law 177 = .ok (.aload_n 1, 1) := by decide +kernel
theorem dL_law_178 : decode cL_law 178 = .ok (.aload_n 0, 1) := by decide +kernel
theorem dL_law_179 : decode cL_law 179 = .ok (.iload_n 3, 1) := by decide +kernel
theorem dL_law_180 : decode cL_law 180 = .ok (.iconst 1, 1) := by decide +kernel
theorem dL_law_181 : decode cL_law 181 = .ok (.iadd, 1) := by decide +kernel
theorem dL_law_182 : decode cL_law 182 = .ok (.iaload, 1) := by decide +kernel
theorem dL_law_183 : decode cL_law 183 = .ok (.aload_n 0, 1) := by decide +kernel
theorem dL_law_184 : decode cL_law 184 = .ok (.iload_n 3, 1) := by decide +kernel
theorem dL_law_185 : decode cL_law 185 = .ok (.iconst 2, 1) := by decide +kernel
theorem dL_law_186 : decode cL_law 186 = .ok (.iadd, 1) := by decide +kernel
theorem dL_law_187 : decode cL_law 187 = .ok (.iaload, 1) := by decide +kernel
theorem dL_law_188 : decode cL_law 188 = .ok (.invokevirtual 18, 3) := by decide +kernel
theorem dL_law_191 : decode cL_law 191 = .ok (.aload_n 2, 1) := by decide +kernel
theorem dL_law_192 : decode cL_law 192 = .ok (.aload_n 0, 1) := by decide +kernel
theorem dL_law_193 : decode cL_law 193 = .ok (.iload_n 3, 1) := by decide +kernel
theorem dL_law_194 : decode cL_law 194 = .ok (.iconst 1, 1) := by decide +kernel
theorem dL_law_195 : decode cL_law 195 = .ok (.iadd, 1) := by decide +kernel
theorem dL_law_196 : decode cL_law 196 = .ok (.iaload, 1) := by decide +kernel
theorem dL_law_197 : decode cL_law 197 = .ok (.aload_n 0, 1) := by decide +kernel
theorem dL_law_198 : decode cL_law 198 = .ok (.iload_n 3, 1) := by decide +kernel
theorem dL_law_199 : decode cL_law 199 = .ok (.iconst 2, 1) := by decide +kernel
theorem dL_law_200 : decode cL_law 200 = .ok (.iadd, 1) := by decide +kernel
theorem dL_law_201 : decode cL_law 201 = .ok (.iaload, 1) := by decide +kernel
theorem dL_law_202 : decode cL_law 202 = .ok (.invokevirtual 21, 3) := by decide +kernel
theorem dL_law_205 : decode cL_law 205 = .ok (.if_icmp .eq 601, 3) := by decide +kernel
theorem dL_law_208 : decode cL_law 208 = .ok (.iconst 0, 1) := by decide +kernel
theorem dL_law_209 : decode cL_law 209 = .ok (.ireturn, 1) := by decide +kernel
theorem dL_law_210 : decode cL_law 210 = .ok (.aload_n 1, 1) := by decide +kernel
theorem dL_law_211 : decode cL_law 211 = .ok (.aload_n 0, 1) := by decide +kernel
theorem dL_law_212 : decode cL_law 212 = .ok (.iload_n 3, 1) := by decide +kernel
theorem dL_law_213 : decode cL_law 213 = .ok (.iconst 1, 1) := by decide +kernel
theorem dL_law_214 : decode cL_law 214 = .ok (.iadd, 1) := by decide +kernel
theorem dL_law_215 : decode cL_law 215 = .ok (.iaload, 1) := by decide +kernel
theorem dL_law_216 : decode cL_law 216 = .ok (.invokevirtual 22, 3) := by decide +kernel
theorem dL_law_219 : decode cL_law 219 = .ok (.aload_n 2, 1) := by decide +kernel
theorem dL_law_220 : decode cL_law 220 = .ok (.aload_n 0, 1) := by decide +kernel
theorem dL_law_221 : decode cL_law 221 = .ok (.iload_n 3, 1) := by decide +kernel
theorem dL_law_222 : decode cL_law 222 = .ok (.iconst 1, 1) := by decide +kernel
theorem dL_law_223 : decode cL_law 223 = .ok (.iadd, 1) := by decide +kernel
theorem dL_law_224 : decode cL_law 224 = .ok (.iaload, 1) := by decide +kernel
theorem dL_law_225 : decode cL_law 225 = .ok (.invokevirtual 26, 3) := by decide +kernel
theorem dL_law_228 : decode cL_law 228 = .ok (.if_icmp .eq 578, 3) := by decide +kernel
theorem dL_law_231 : decode cL_law 231 = .ok (.iconst 0, 1) := by decide +kernel
theorem dL_law_232 : decode cL_law 232 = .ok (.ireturn, 1) := by decide +kernel
theorem dL_law_233 : decode cL_law 233 = .ok (.aload_n 1, 1) := by decide +kernel
theorem dL_law_234 : decode cL_law 234 = .ok (.aload_n 0, 1) := by decide +kernel
theorem dL_law_235 : decode cL_law 235 = .ok (.iload_n 3, 1) := by decide +kernel
theorem dL_law_236 : decode cL_law 236 = .ok (.iconst 1, 1) := by decide +kernel
theorem dL_law_237 : decode cL_law 237 = .ok (.iadd, 1) := by decide +kernel
theorem dL_law_238 : decode cL_law 238 = .ok (.iaload, 1) := by decide +kernel
theorem dL_law_239 : decode cL_law 239 = .ok (.aload_n 0, 1) := by decide +kernel
theorem dL_law_240 : decode cL_law 240 = .ok (.iload_n 3, 1) := by decide +kernel
theorem dL_law_241 : decode cL_law 241 = .ok (.iconst 2, 1) := by decide +kernel
theorem dL_law_242 : decode cL_law 242 = .ok (.iadd, 1) := by decide +kernel
theorem dL_law_243 : decode cL_law 243 = .ok (.iaload, 1) := by decide +kernel
theorem dL_law_244 : decode cL_law 244 = .ok (.invokevirtual 27, 3) := by decide +kernel
theorem dL_law_247 : decode cL_law 247 = .ok (.aload_n 2, 1) := by decide +kernel
theorem dL_law_248 : decode cL_law 248 = .ok (.aload_n 0, 1) := by decide +kernel
theorem dL_law_249 : decode cL_law 249 = .ok (.iload_n 3, 1) := by decide +kernel
theorem dL_law_250 : decode cL_law 250 = .ok (.iconst 1, 1) := by decide +kernel
theorem dL_law_251 : decode cL_law 251 = .ok (.iadd, 1) := by decide +kernel
theorem dL_law_252 : decode cL_law 252 = .ok (.iaload, 1) := by decide +kernel
theorem dL_law_253 : decode cL_law 253 = .ok (.aload_n 0, 1) := by decide +kernel
theorem dL_law_254 : decode cL_law 254 = .ok (.iload_n 3, 1) := by decide +kernel
theorem dL_law_255 : decode cL_law 255 = .ok (.iconst 2, 1) := by decide +kernel
theorem dL_law_256 : decode cL_law 256 = .ok (.iadd, 1) := by decide +kernel
theorem dL_law_257 : decode cL_law 257 = .ok (.iaload, 1) := by decide +kernel
theorem dL_law_258 : decode cL_law 258 = .ok (.invokevirtual 30, 3) := by decide +kernel
theorem dL_law_261 : decode cL_law 261 = .ok (.if_icmp .eq 545, 3) := by decide +kernel
theorem dL_law_264 : decode cL_law 264 = .ok (.iconst 0, 1) := by decide +kernel
theorem dL_law_265 : decode cL_law 265 = .ok (.ireturn, 1) := by decide +kernel
theorem dL_law_266 : decode cL_law 266 = .ok (.aload_n 1, 1) := by decide +kernel
theorem dL_law_267 : decode cL_law 267 = .ok (.aload_n 0, 1) := by decide +kernel
theorem dL_law_268 : decode cL_law 268 = .ok (.iload_n 3, 1) := by decide +kernel
theorem dL_law_269 : decode cL_law 269 = .ok (.iconst 1, 1) := by decide +kernel
theorem dL_law_270 : decode cL_law 270 = .ok (.iadd, 1) := by decide +kernel
theorem dL_law_271 : decode cL_law 271 = .ok (.iaload, 1) := by decide +kernel
theorem dL_law_272 : decode cL_law 272 = .ok (.invokevirtual 31, 3) := by decide +kernel
theorem dL_law_275 : decode cL_law 275 = .ok (.aload_n 2, 1) := by decide +kernel
theorem dL_law_276 : decode cL_law 276 = .ok (.aload_n 0, 1) := by decide +kernel
theorem dL_law_277 : decode cL_law 277 = .ok (.iload_n 3, 1) := by decide +kernel
theorem dL_law_278 : decode cL_law 278 = .ok (.iconst 1, 1) := by decide +kernel
theorem dL_law_279 : decode cL_law 279 = .ok (.iadd, 1) := by decide +kernel
theorem dL_law_280 : decode cL_law 280 = .ok (.iaload, 1) := by decide +kernel
theorem dL_law_281 : decode cL_law 281 = .ok (.invokevirtual 34, 3) := by decide +kernel
theorem dL_law_284 : decode cL_law 284 = .ok (.if_icmp .eq 522, 3) := by decide +kernel
theorem dL_law_287 : decode cL_law 287 = .ok (.iconst 0, 1) := by decide +kernel
theorem dL_law_288 : decode cL_law 288 = .ok (.ireturn, 1) := by decide +kernel
theorem dL_law_289 : decode cL_law 289 = .ok (.aload_n 1, 1) := by decide +kernel
theorem dL_law_290 : decode cL_law 290 = .ok (.aload_n 0, 1) := by decide +kernel
theorem dL_law_291 : decode cL_law 291 = .ok (.iload_n 3, 1) := by decide +kernel
theorem dL_law_292 : decode cL_law 292 = .ok (.iconst 1, 1) := by decide +kernel
theorem dL_law_293 : decode cL_law 293 = .ok (.iadd, 1) := by decide +kernel
theorem dL_law_294 : decode cL_law 294 = .ok (.iaload, 1) := by decide +kernel
theorem dL_law_295 : decode cL_law 295 = .ok (.aload_n 0, 1) := by decide +kernel
theorem dL_law_296 : decode cL_law 296 = .ok (.iload_n 3, 1) := by decide +kernel
theorem dL_law_297 : decode cL_law 297 = .ok (.iconst 2, 1) := by decide +kernel
theorem dL_law_298 : decode cL_law 298 = .ok (.iadd, 1) := by decide +kernel
theorem dL_law_299 : decode cL_law 299 = .ok (.iaload, 1) := by decide +kernel
theorem dL_law_300 : decode cL_law 300 = .ok (.invokevirtual 35, 3) := by decide +kernel
theorem dL_law_303 : decode cL_law 303 = .ok (.aload_n 2, 1) := by decide +kernel
theorem dL_law_304 : decode cL_law 304 = .ok (.aload_n 0, 1) := by decide +kernel
theorem dL_law_305 : decode cL_law 305 = .ok (.iload_n 3, 1) := by decide +kernel
theorem dL_law_306 : decode cL_law 306 = .ok (.iconst 1, 1) := by decide +kernel
theorem dL_law_307 : decode cL_law 307 = .ok (.iadd, 1) := by decide +kernel
theorem dL_law_308 : decode cL_law 308 = .ok (.iaload, 1) := by decide +kernel
theorem dL_law_309 : decode cL_law 309 = .ok (.aload_n 0, 1) := by decide +kernel
theorem dL_law_310 : decode cL_law 310 = .ok (.iload_n 3, 1) := by decide +kernel
theorem dL_law_311 : decode cL_law 311 = .ok (.iconst 2, 1) := by decide +kernel
theorem dL_law_312 : decode cL_law 312 = .ok (.iadd, 1) := by decide +kernel
theorem dL_law_313 : decode cL_law 313 = .ok (.iaload, 1) := by decide +kernel
theorem dL_law_314 : decode cL_law 314 = .ok (.invokevirtual 38, 3) := by decide +kernel
theorem dL_law_317 : decode cL_law 317 = .ok (.if_icmp .eq 489, 3) := by decide +kernel
theorem dL_law_320 : decode cL_law 320 = .ok (.iconst 0, 1) := by decide +kernel
theorem dL_law_321 : decode cL_law 321 = .ok (.ireturn, 1) := by decide +kernel
theorem dL_law_322 : decode cL_law 322 = .ok (.aload_n 1, 1) := by decide +kernel
theorem dL_law_323 : decode cL_law 323 = .ok (.aload_n 0, 1) := by decide +kernel
theorem dL_law_324 : decode cL_law 324 = .ok (.iload_n 3, 1) := by decide +kernel
theorem dL_law_325 : decode cL_law 325 = .ok (.iconst 1, 1) := by decide +kernel
theorem dL_law_326 : decode cL_law 326 = .ok (.iadd, 1) := by decide +kernel
theorem dL_law_327 : decode cL_law 327 = .ok (.iaload, 1) := by decide +kernel
theorem dL_law_328 : decode cL_law 328 = .ok (.aload_n 0, 1) := by decide +kernel
theorem dL_law_329 : decode cL_law 329 = .ok (.iload_n 3, 1) := by decide +kernel
theorem dL_law_330 : decode cL_law 330 = .ok (.iconst 2, 1) := by decide +kernel
theorem dL_law_331 : decode cL_law 331 = .ok (.iadd, 1) := by decide +kernel
theorem dL_law_332 : decode cL_law 332 = .ok (.iaload, 1) := by decide +kernel
theorem dL_law_333 : decode cL_law 333 = .ok (.invokevirtual 39, 3) := by decide +kernel
theorem dL_law_336 : decode cL_law 336 = .ok (.aload_n 2, 1) := by decide +kernel
theorem dL_law_337 : decode cL_law 337 = .ok (.aload_n 0, 1) := by decide +kernel
theorem dL_law_338 : decode cL_law 338 = .ok (.iload_n 3, 1) := by decide +kernel
theorem dL_law_339 : decode cL_law 339 = .ok (.iconst 1, 1) := by decide +kernel
theorem dL_law_340 : decode cL_law 340 = .ok (.iadd, 1) := by decide +kernel
theorem dL_law_341 : decode cL_law 341 = .ok (.iaload, 1) := by decide +kernel
theorem dL_law_342 : decode cL_law 342 = .ok (.aload_n 0, 1) := by decide +kernel
theorem dL_law_343 : decode cL_law 343 = .ok (.iload_n 3, 1) := by decide +kernel
theorem dL_law_344 : decode cL_law 344 = .ok (.iconst 2, 1) := by decide +kernel
theorem dL_law_345 : decode cL_law 345 = .ok (.iadd, 1) := by decide +kernel
theorem dL_law_346 : decode cL_law 346 = .ok (.iaload, 1) := by decide +kernel
theorem dL_law_347 : decode cL_law 347 = .ok (.invokevirtual 42, 3) := by decide +kernel
theorem dL_law_350 : decode cL_law 350 = .ok (.if_icmp .eq 456, 3) := by decide +kernel
theorem dL_law_353 : decode cL_law 353 = .ok (.iconst 0, 1) := by decide +kernel
theorem dL_law_354 : decode cL_law 354 = .ok (.ireturn, 1) := by decide +kernel
theorem dL_law_355 : decode cL_law 355 = .ok (.aload_n 1, 1) := by decide +kernel
theorem dL_law_356 : decode cL_law 356 = .ok (.aload_n 0, 1) := by decide +kernel
theorem dL_law_357 : decode cL_law 357 = .ok (.iload_n 3, 1) := by decide +kernel
theorem dL_law_358 : decode cL_law 358 = .ok (.iconst 1, 1) := by decide +kernel
theorem dL_law_359 : decode cL_law 359 = .ok (.iadd, 1) := by decide +kernel
theorem dL_law_360 : decode cL_law 360 = .ok (.iaload, 1) := by decide +kernel
theorem dL_law_361 : decode cL_law 361 = .ok (.aload_n 0, 1) := by decide +kernel
theorem dL_law_362 : decode cL_law 362 = .ok (.iload_n 3, 1) := by decide +kernel
theorem dL_law_363 : decode cL_law 363 = .ok (.iconst 2, 1) := by decide +kernel
theorem dL_law_364 : decode cL_law 364 = .ok (.iadd, 1) := by decide +kernel
theorem dL_law_365 : decode cL_law 365 = .ok (.iaload, 1) := by decide +kernel
theorem dL_law_366 : decode cL_law 366 = .ok (.invokevirtual 43, 3) := by decide +kernel
theorem dL_law_369 : decode cL_law 369 = .ok (.aload_n 2, 1) := by decide +kernel
theorem dL_law_370 : decode cL_law 370 = .ok (.aload_n 0, 1) := by decide +kernel
theorem dL_law_371 : decode cL_law 371 = .ok (.iload_n 3, 1) := by decide +kernel
theorem dL_law_372 : decode cL_law 372 = .ok (.iconst 1, 1) := by decide +kernel
theorem dL_law_373 : decode cL_law 373 = .ok (.iadd, 1) := by decide +kernel
theorem dL_law_374 : decode cL_law 374 = .ok (.iaload, 1) := by decide +kernel
theorem dL_law_375 : decode cL_law 375 = .ok (.aload_n 0, 1) := by decide +kernel
theorem dL_law_376 : decode cL_law 376 = .ok (.iload_n 3, 1) := by decide +kernel
theorem dL_law_377 : decode cL_law 377 = .ok (.iconst 2, 1) := by decide +kernel
theorem dL_law_378 : decode cL_law 378 = .ok (.iadd, 1) := by decide +kernel
theorem dL_law_379 : decode cL_law 379 = .ok (.iaload, 1) := by decide +kernel
theorem dL_law_380 : decode cL_law 380 = .ok (.invokevirtual 46, 3) := by decide +kernel
theorem dL_law_383 : decode cL_law 383 = .ok (.if_icmp .eq 423, 3) := by decide +kernel
theorem dL_law_386 : decode cL_law 386 = .ok (.iconst 0, 1) := by decide +kernel
theorem dL_law_387 : decode cL_law 387 = .ok (.ireturn, 1) := by decide +kernel
theorem dL_law_388 : decode cL_law 388 = .ok (.aload_n 1, 1) := by decide +kernel
theorem dL_law_389 : decode cL_law 389 = .ok (.aload_n 0, 1) := by decide +kernel
theorem dL_law_390 : decode cL_law 390 = .ok (.iload_n 3, 1) := by decide +kernel
theorem dL_law_391 : decode cL_law 391 = .ok (.iconst 1, 1) := by decide +kernel
theorem dL_law_392 : decode cL_law 392 = .ok (.iadd, 1) := by decide +kernel
theorem dL_law_393 : decode cL_law 393 = .ok (.iaload, 1) := by decide +kernel
theorem dL_law_394 : decode cL_law 394 = .ok (.invokevirtual 47, 3) := by decide +kernel
theorem dL_law_397 : decode cL_law 397 = .ok (.aload_n 2, 1) := by decide +kernel
theorem dL_law_398 : decode cL_law 398 = .ok (.aload_n 0, 1) := by decide +kernel
theorem dL_law_399 : decode cL_law 399 = .ok (.iload_n 3, 1) := by decide +kernel
theorem dL_law_400 : decode cL_law 400 = .ok (.iconst 1, 1) := by decide +kernel
theorem dL_law_401 : decode cL_law 401 = .ok (.iadd, 1) := by decide +kernel
theorem dL_law_402 : decode cL_law 402 = .ok (.iaload, 1) := by decide +kernel
theorem dL_law_403 : decode cL_law 403 = .ok (.invokevirtual 50, 3) := by decide +kernel
theorem dL_law_406 : decode cL_law 406 = .ok (.if_icmp .eq 400, 3) := by decide +kernel
theorem dL_law_409 : decode cL_law 409 = .ok (.iconst 0, 1) := by decide +kernel
theorem dL_law_410 : decode cL_law 410 = .ok (.ireturn, 1) := by decide +kernel
theorem dL_law_411 : decode cL_law 411 = .ok (.aload_n 1, 1) := by decide +kernel
theorem dL_law_412 : decode cL_law 412 = .ok (.aload_n 0, 1) := by decide +kernel
theorem dL_law_413 : decode cL_law 413 = .ok (.iload_n 3, 1) := by decide +kernel
theorem dL_law_414 : decode cL_law 414 = .ok (.iconst 1, 1) := by decide +kernel
theorem dL_law_415 : decode cL_law 415 = .ok (.iadd, 1) := by decide +kernel
theorem dL_law_416 : decode cL_law 416 = .ok (.iaload, 1) := by decide +kernel
theorem dL_law_417 : decode cL_law 417 = .ok (.aload_n 0, 1) := by decide +kernel
theorem dL_law_418 : decode cL_law 418 = .ok (.iload_n 3, 1) := by decide +kernel
theorem dL_law_419 : decode cL_law 419 = .ok (.iconst 2, 1) := by decide +kernel
theorem dL_law_420 : decode cL_law 420 = .ok (.iadd, 1) := by decide +kernel
theorem dL_law_421 : decode cL_law 421 = .ok (.iaload, 1) := by decide +kernel
theorem dL_law_422 : decode cL_law 422 = .ok (.invokevirtual 51, 3) := by decide +kernel
theorem dL_law_425 : decode cL_law 425 = .ok (.aload_n 2, 1) := by decide +kernel
theorem dL_law_426 : decode cL_law 426 = .ok (.aload_n 0, 1) := by decide +kernel
theorem dL_law_427 : decode cL_law 427 = .ok (.iload_n 3, 1) := by decide +kernel
theorem dL_law_428 : decode cL_law 428 = .ok (.iconst 1, 1) := by decide +kernel
theorem dL_law_429 : decode cL_law 429 = .ok (.iadd, 1) := by decide +kernel
theorem dL_law_430 : decode cL_law 430 = .ok (.iaload, 1) := by decide +kernel
theorem dL_law_431 : decode cL_law 431 = .ok (.aload_n 0, 1) := by decide +kernel
theorem dL_law_432 : decode cL_law 432 = .ok (.iload_n 3, 1) := by decide +kernel
theorem dL_law_433 : decode cL_law 433 = .ok (.iconst 2, 1) := by decide +kernel
theorem dL_law_434 : decode cL_law 434 = .ok (.iadd, 1) := by decide +kernel
theorem dL_law_435 : decode cL_law 435 = .ok (.iaload, 1) := by decide +kernel
theorem dL_law_436 : decode cL_law 436 = .ok (.invokevirtual 54, 3) := by decide +kernel
theorem dL_law_439 : decode cL_law 439 = .ok (.if_icmp .eq 367, 3) := by decide +kernel
theorem dL_law_442 : decode cL_law 442 = .ok (.iconst 0, 1) := by decide +kernel
theorem dL_law_443 : decode cL_law 443 = .ok (.ireturn, 1) := by decide +kernel
theorem dL_law_444 : decode cL_law 444 = .ok (.aload_n 1, 1) := by decide +kernel
theorem dL_law_445 : decode cL_law 445 = .ok (.aload_n 0, 1) := by decide +kernel
theorem dL_law_446 : decode cL_law 446 = .ok (.iload_n 3, 1) := by decide +kernel
theorem dL_law_447 : decode cL_law 447 = .ok (.iconst 1, 1) := by decide +kernel
theorem dL_law_448 : decode cL_law 448 = .ok (.iadd, 1) := by decide +kernel
theorem dL_law_449 : decode cL_law 449 = .ok (.iaload, 1) := by decide +kernel
theorem dL_law_450 : decode cL_law 450 = .ok (.aload_n 0, 1) := by decide +kernel
theorem dL_law_451 : decode cL_law 451 = .ok (.iload_n 3, 1) := by decide +kernel
theorem dL_law_452 : decode cL_law 452 = .ok (.iconst 2, 1) := by decide +kernel
theorem dL_law_453 : decode cL_law 453 = .ok (.iadd, 1) := by decide +kernel
theorem dL_law_454 : decode cL_law 454 = .ok (.iaload, 1) := by decide +kernel
theorem dL_law_455 : decode cL_law 455 = .ok (.aload_n 0, 1) := by decide +kernel
theorem dL_law_456 : decode cL_law 456 = .ok (.iload_n 3, 1) := by decide +kernel
theorem dL_law_457 : decode cL_law 457 = .ok (.iconst 3, 1) := by decide +kernel
theorem dL_law_458 : decode cL_law 458 = .ok (.iadd, 1) := by decide +kernel
theorem dL_law_459 : decode cL_law 459 = .ok (.iaload, 1) := by decide +kernel
theorem dL_law_460 : decode cL_law 460 = .ok (.invokevirtual 55, 3) := by decide +kernel
theorem dL_law_463 : decode cL_law 463 = .ok (.aload_n 2, 1) := by decide +kernel
theorem dL_law_464 : decode cL_law 464 = .ok (.aload_n 0, 1) := by decide +kernel
theorem dL_law_465 : decode cL_law 465 = .ok (.iload_n 3, 1) := by decide +kernel
theorem dL_law_466 : decode cL_law 466 = .ok (.iconst 1, 1) := by decide +kernel
theorem dL_law_467 : decode cL_law 467 = .ok (.iadd, 1) := by decide +kernel
theorem dL_law_468 : decode cL_law 468 = .ok (.iaload, 1) := by decide +kernel
theorem dL_law_469 : decode cL_law 469 = .ok (.aload_n 0, 1) := by decide +kernel
theorem dL_law_470 : decode cL_law 470 = .ok (.iload_n 3, 1) := by decide +kernel
theorem dL_law_471 : decode cL_law 471 = .ok (.iconst 2, 1) := by decide +kernel
theorem dL_law_472 : decode cL_law 472 = .ok (.iadd, 1) := by decide +kernel
theorem dL_law_473 : decode cL_law 473 = .ok (.iaload, 1) := by decide +kernel
theorem dL_law_474 : decode cL_law 474 = .ok (.aload_n 0, 1) := by decide +kernel
theorem dL_law_475 : decode cL_law 475 = .ok (.iload_n 3, 1) := by decide +kernel
theorem dL_law_476 : decode cL_law 476 = .ok (.iconst 3, 1) := by decide +kernel
theorem dL_law_477 : decode cL_law 477 = .ok (.iadd, 1) := by decide +kernel
theorem dL_law_478 : decode cL_law 478 = .ok (.iaload, 1) := by decide +kernel
theorem dL_law_479 : decode cL_law 479 = .ok (.invokevirtual 59, 3) := by decide +kernel
theorem dL_law_482 : decode cL_law 482 = .ok (.if_icmp .eq 324, 3) := by decide +kernel
theorem dL_law_485 : decode cL_law 485 = .ok (.iconst 0, 1) := by decide +kernel
theorem dL_law_486 : decode cL_law 486 = .ok (.ireturn, 1) := by decide +kernel
theorem dL_law_487 : decode cL_law 487 = .ok (.aload_n 1, 1) := by decide +kernel
theorem dL_law_488 : decode cL_law 488 = .ok (.aload_n 0, 1) := by decide +kernel
theorem dL_law_489 : decode cL_law 489 = .ok (.iload_n 3, 1) := by decide +kernel
theorem dL_law_490 : decode cL_law 490 = .ok (.iconst 1, 1) := by decide +kernel
theorem dL_law_491 : decode cL_law 491 = .ok (.iadd, 1) := by decide +kernel
theorem dL_law_492 : decode cL_law 492 = .ok (.iaload, 1) := by decide +kernel
theorem dL_law_493 : decode cL_law 493 = .ok (.invokevirtual 60, 3) := by decide +kernel
theorem dL_law_496 : decode cL_law 496 = .ok (.aload_n 2, 1) := by decide +kernel
theorem dL_law_497 : decode cL_law 497 = .ok (.aload_n 0, 1) := by decide +kernel
theorem dL_law_498 : decode cL_law 498 = .ok (.iload_n 3, 1) := by decide +kernel
theorem dL_law_499 : decode cL_law 499 = .ok (.iconst 1, 1) := by decide +kernel
theorem dL_law_500 : decode cL_law 500 = .ok (.iadd, 1) := by decide +kernel
theorem dL_law_501 : decode cL_law 501 = .ok (.iaload, 1) := by decide +kernel
theorem dL_law_502 : decode cL_law 502 = .ok (.invokevirtual 63, 3) := by decide +kernel
theorem dL_law_505 : decode cL_law 505 = .ok (.if_icmp .eq 301, 3) := by decide +kernel
theorem dL_law_508 : decode cL_law 508 = .ok (.iconst 0, 1) := by decide +kernel
theorem dL_law_509 : decode cL_law 509 = .ok (.ireturn, 1) := by decide +kernel
theorem dL_law_510 : decode cL_law 510 = .ok (.aload_n 1, 1) := by decide +kernel
theorem dL_law_511 : decode cL_law 511 = .ok (.aload_n 0, 1) := by decide +kernel
theorem dL_law_512 : decode cL_law 512 = .ok (.iload_n 3, 1) := by decide +kernel
theorem dL_law_513 : decode cL_law 513 = .ok (.iconst 1, 1) := by decide +kernel
theorem dL_law_514 : decode cL_law 514 = .ok (.iadd, 1) := by decide +kernel
theorem dL_law_515 : decode cL_law 515 = .ok (.iaload, 1) := by decide +kernel
theorem dL_law_516 : decode cL_law 516 = .ok (.aload_n 0, 1) := by decide +kernel
theorem dL_law_517 : decode cL_law 517 = .ok (.iload_n 3, 1) := by decide +kernel
theorem dL_law_518 : decode cL_law 518 = .ok (.iconst 2, 1) := by decide +kernel
theorem dL_law_519 : decode cL_law 519 = .ok (.iadd, 1) := by decide +kernel
theorem dL_law_520 : decode cL_law 520 = .ok (.iaload, 1) := by decide +kernel
theorem dL_law_521 : decode cL_law 521 = .ok (.invokevirtual 64, 3) := by decide +kernel
theorem dL_law_524 : decode cL_law 524 = .ok (.aload_n 2, 1) := by decide +kernel
theorem dL_law_525 : decode cL_law 525 = .ok (.aload_n 0, 1) := by decide +kernel
theorem dL_law_526 : decode cL_law 526 = .ok (.iload_n 3, 1) := by decide +kernel
theorem dL_law_527 : decode cL_law 527 = .ok (.iconst 1, 1) := by decide +kernel
theorem dL_law_528 : decode cL_law 528 = .ok (.iadd, 1) := by decide +kernel
theorem dL_law_529 : decode cL_law 529 = .ok (.iaload, 1) := by decide +kernel
theorem dL_law_530 : decode cL_law 530 = .ok (.aload_n 0, 1) := by decide +kernel
theorem dL_law_531 : decode cL_law 531 = .ok (.iload_n 3, 1) := by decide +kernel
theorem dL_law_532 : decode cL_law 532 = .ok (.iconst 2, 1) := by decide +kernel
theorem dL_law_533 : decode cL_law 533 = .ok (.iadd, 1) := by decide +kernel
theorem dL_law_534 : decode cL_law 534 = .ok (.iaload, 1) := by decide +kernel
theorem dL_law_535 : decode cL_law 535 = .ok (.invokevirtual 67, 3) := by decide +kernel
theorem dL_law_538 : decode cL_law 538 = .ok (.if_icmp .eq 268, 3) := by decide +kernel
theorem dL_law_541 : decode cL_law 541 = .ok (.iconst 0, 1) := by decide +kernel
theorem dL_law_542 : decode cL_law 542 = .ok (.ireturn, 1) := by decide +kernel
theorem dL_law_543 : decode cL_law 543 = .ok (.aload_n 1, 1) := by decide +kernel
theorem dL_law_544 : decode cL_law 544 = .ok (.aload_n 0, 1) := by decide +kernel
theorem dL_law_545 : decode cL_law 545 = .ok (.iload_n 3, 1) := by decide +kernel
theorem dL_law_546 : decode cL_law 546 = .ok (.iconst 1, 1) := by decide +kernel
theorem dL_law_547 : decode cL_law 547 = .ok (.iadd, 1) := by decide +kernel
theorem dL_law_548 : decode cL_law 548 = .ok (.iaload, 1) := by decide +kernel
theorem dL_law_549 : decode cL_law 549 = .ok (.aload_n 0, 1) := by decide +kernel
theorem dL_law_550 : decode cL_law 550 = .ok (.iload_n 3, 1) := by decide +kernel
theorem dL_law_551 : decode cL_law 551 = .ok (.iconst 2, 1) := by decide +kernel
theorem dL_law_552 : decode cL_law 552 = .ok (.iadd, 1) := by decide +kernel
theorem dL_law_553 : decode cL_law 553 = .ok (.iaload, 1) := by decide +kernel
theorem dL_law_554 : decode cL_law 554 = .ok (.invokevirtual 68, 3) := by decide +kernel
theorem dL_law_557 : decode cL_law 557 = .ok (.aload_n 2, 1) := by decide +kernel
theorem dL_law_558 : decode cL_law 558 = .ok (.aload_n 0, 1) := by decide +kernel
theorem dL_law_559 : decode cL_law 559 = .ok (.iload_n 3, 1) := by decide +kernel
theorem dL_law_560 : decode cL_law 560 = .ok (.iconst 1, 1) := by decide +kernel
theorem dL_law_561 : decode cL_law 561 = .ok (.iadd, 1) := by decide +kernel
theorem dL_law_562 : decode cL_law 562 = .ok (.iaload, 1) := by decide +kernel
theorem dL_law_563 : decode cL_law 563 = .ok (.aload_n 0, 1) := by decide +kernel
theorem dL_law_564 : decode cL_law 564 = .ok (.iload_n 3, 1) := by decide +kernel
theorem dL_law_565 : decode cL_law 565 = .ok (.iconst 2, 1) := by decide +kernel
theorem dL_law_566 : decode cL_law 566 = .ok (.iadd, 1) := by decide +kernel
theorem dL_law_567 : decode cL_law 567 = .ok (.iaload, 1) := by decide +kernel
theorem dL_law_568 : decode cL_law 568 = .ok (.invokevirtual 71, 3) := by decide +kernel
theorem dL_law_571 : decode cL_law 571 = .ok (.if_icmp .eq 235, 3) := by decide +kernel
theorem dL_law_574 : decode cL_law 574 = .ok (.iconst 0, 1) := by decide +kernel
theorem dL_law_575 : decode cL_law 575 = .ok (.ireturn, 1) := by decide +kernel
theorem dL_law_576 : decode cL_law 576 = .ok (.aload_n 1, 1) := by decide +kernel
theorem dL_law_577 : decode cL_law 577 = .ok (.aload_n 0, 1) := by decide +kernel
theorem dL_law_578 : decode cL_law 578 = .ok (.iload_n 3, 1) := by decide +kernel
theorem dL_law_579 : decode cL_law 579 = .ok (.iconst 1, 1) := by decide +kernel
theorem dL_law_580 : decode cL_law 580 = .ok (.iadd, 1) := by decide +kernel
theorem dL_law_581 : decode cL_law 581 = .ok (.iaload, 1) := by decide +kernel
theorem dL_law_582 : decode cL_law 582 = .ok (.aload_n 0, 1) := by decide +kernel
theorem dL_law_583 : decode cL_law 583 = .ok (.iload_n 3, 1) := by decide +kernel
theorem dL_law_584 : decode cL_law 584 = .ok (.iconst 2, 1) := by decide +kernel
theorem dL_law_585 : decode cL_law 585 = .ok (.iadd, 1) := by decide +kernel
theorem dL_law_586 : decode cL_law 586 = .ok (.iaload, 1) := by decide +kernel
theorem dL_law_587 : decode cL_law 587 = .ok (.invokevirtual 72, 3) := by decide +kernel
theorem dL_law_590 : decode cL_law 590 = .ok (.aload_n 2, 1) := by decide +kernel
theorem dL_law_591 : decode cL_law 591 = .ok (.aload_n 0, 1) := by decide +kernel
theorem dL_law_592 : decode cL_law 592 = .ok (.iload_n 3, 1) := by decide +kernel
theorem dL_law_593 : decode cL_law 593 = .ok (.iconst 1, 1) := by decide +kernel
theorem dL_law_594 : decode cL_law 594 = .ok (.iadd, 1) := by decide +kernel
theorem dL_law_595 : decode cL_law 595 = .ok (.iaload, 1) := by decide +kernel
theorem dL_law_596 : decode cL_law 596 = .ok (.aload_n 0, 1) := by decide +kernel
theorem dL_law_597 : decode cL_law 597 = .ok (.iload_n 3, 1) := by decide +kernel
theorem dL_law_598 : decode cL_law 598 = .ok (.iconst 2, 1) := by decide +kernel
theorem dL_law_599 : decode cL_law 599 = .ok (.iadd, 1) := by decide +kernel
theorem dL_law_600 : decode cL_law 600 = .ok (.iaload, 1) := by decide +kernel
theorem dL_law_601 : decode cL_law 601 = .ok (.invokevirtual 75, 3) := by decide +kernel
theorem dL_law_604 : decode cL_law 604 = .ok (.if_icmp .eq 202, 3) := by decide +kernel
theorem dL_law_607 : decode cL_law 607 = .ok (.iconst 0, 1) := by decide +kernel
theorem dL_law_608 : decode cL_law 608 = .ok (.ireturn, 1) := by decide +kernel
theorem dL_law_609 : decode cL_law 609 = .ok (.aload_n 1, 1) := by decide +kernel
theorem dL_law_610 : decode cL_law 610 = .ok (.aload_n 0, 1) := by decide +kernel
theorem dL_law_611 : decode cL_law 611 = .ok (.iload_n 3, 1) := by decide +kernel
theorem dL_law_612 : decode cL_law 612 = .ok (.iconst 1, 1) := by decide +kernel
theorem dL_law_613 : decode cL_law 613 = .ok (.iadd, 1) := by decide +kernel
theorem dL_law_614 : decode cL_law 614 = .ok (.iaload, 1) := by decide +kernel
theorem dL_law_615 : decode cL_law 615 = .ok (.invokevirtual 76, 3) := by decide +kernel
theorem dL_law_618 : decode cL_law 618 = .ok (.aload_n 2, 1) := by decide +kernel
theorem dL_law_619 : decode cL_law 619 = .ok (.aload_n 0, 1) := by decide +kernel
theorem dL_law_620 : decode cL_law 620 = .ok (.iload_n 3, 1) := by decide +kernel
theorem dL_law_621 : decode cL_law 621 = .ok (.iconst 1, 1) := by decide +kernel
theorem dL_law_622 : decode cL_law 622 = .ok (.iadd, 1) := by decide +kernel
theorem dL_law_623 : decode cL_law 623 = .ok (.iaload, 1) := by decide +kernel
theorem dL_law_624 : decode cL_law 624 = .ok (.invokevirtual 79, 3) := by decide +kernel
theorem dL_law_627 : decode cL_law 627 = .ok (.if_icmp .eq 179, 3) := by decide +kernel
theorem dL_law_630 : decode cL_law 630 = .ok (.iconst 0, 1) := by decide +kernel
theorem dL_law_631 : decode cL_law 631 = .ok (.ireturn, 1) := by decide +kernel
theorem dL_law_632 : decode cL_law 632 = .ok (.aload_n 1, 1) := by decide +kernel
theorem dL_law_633 : decode cL_law 633 = .ok (.aload_n 0, 1) := by decide +kernel
theorem dL_law_634 : decode cL_law 634 = .ok (.iload_n 3, 1) := by decide +kernel
theorem dL_law_635 : decode cL_law 635 = .ok (.iconst 1, 1) := by decide +kernel
theorem dL_law_636 : decode cL_law 636 = .ok (.iadd, 1) := by decide +kernel
theorem dL_law_637 : decode cL_law 637 = .ok (.iaload, 1) := by decide +kernel
theorem dL_law_638 : decode cL_law 638 = .ok (.invokevirtual 80, 3) := by decide +kernel
theorem dL_law_641 : decode cL_law 641 = .ok (.aload_n 2, 1) := by decide +kernel
theorem dL_law_642 : decode cL_law 642 = .ok (.aload_n 0, 1) := by decide +kernel
theorem dL_law_643 : decode cL_law 643 = .ok (.iload_n 3, 1) := by decide +kernel
theorem dL_law_644 : decode cL_law 644 = .ok (.iconst 1, 1) := by decide +kernel
theorem dL_law_645 : decode cL_law 645 = .ok (.iadd, 1) := by decide +kernel
theorem dL_law_646 : decode cL_law 646 = .ok (.iaload, 1) := by decide +kernel
theorem dL_law_647 : decode cL_law 647 = .ok (.invokevirtual 83, 3) := by decide +kernel
theorem dL_law_650 : decode cL_law 650 = .ok (.if_icmp .eq 156, 3) := by decide +kernel
theorem dL_law_653 : decode cL_law 653 = .ok (.iconst 0, 1) := by decide +kernel
theorem dL_law_654 : decode cL_law 654 = .ok (.ireturn, 1) := by decide +kernel
theorem dL_law_655 : decode cL_law 655 = .ok (.aload_n 1, 1) := by decide +kernel
theorem dL_law_656 : decode cL_law 656 = .ok (.aload_n 0, 1) := by decide +kernel
theorem dL_law_657 : decode cL_law 657 = .ok (.iload_n 3, 1) := by decide +kernel
theorem dL_law_658 : decode cL_law 658 = .ok (.iconst 1, 1) := by decide +kernel
theorem dL_law_659 : decode cL_law 659 = .ok (.iadd, 1) := by decide +kernel
theorem dL_law_660 : decode cL_law 660 = .ok (.iaload, 1) := by decide +kernel
theorem dL_law_661 : decode cL_law 661 = .ok (.aload_n 0, 1) := by decide +kernel
theorem dL_law_662 : decode cL_law 662 = .ok (.iload_n 3, 1) := by decide +kernel
theorem dL_law_663 : decode cL_law 663 = .ok (.iconst 2, 1) := by decide +kernel
theorem dL_law_664 : decode cL_law 664 = .ok (.iadd, 1) := by decide +kernel
theorem dL_law_665 : decode cL_law 665 = .ok (.iaload, 1) := by decide +kernel
theorem dL_law_666 : decode cL_law 666 = .ok (.invokevirtual 84, 3) := by decide +kernel
theorem dL_law_669 : decode cL_law 669 = .ok (.aload_n 2, 1) := by decide +kernel
theorem dL_law_670 : decode cL_law 670 = .ok (.aload_n 0, 1) := by decide +kernel
theorem dL_law_671 : decode cL_law 671 = .ok (.iload_n 3, 1) := by decide +kernel
theorem dL_law_672 : decode cL_law 672 = .ok (.iconst 1, 1) := by decide +kernel
theorem dL_law_673 : decode cL_law 673 = .ok (.iadd, 1) := by decide +kernel
theorem dL_law_674 : decode cL_law 674 = .ok (.iaload, 1) := by decide +kernel
theorem dL_law_675 : decode cL_law 675 = .ok (.aload_n 0, 1) := by decide +kernel
theorem dL_law_676 : decode cL_law 676 = .ok (.iload_n 3, 1) := by decide +kernel
theorem dL_law_677 : decode cL_law 677 = .ok (.iconst 2, 1) := by decide +kernel
theorem dL_law_678 : decode cL_law 678 = .ok (.iadd, 1) := by decide +kernel
theorem dL_law_679 : decode cL_law 679 = .ok (.iaload, 1) := by decide +kernel
theorem dL_law_680 : decode cL_law 680 = .ok (.invokevirtual 87, 3) := by decide +kernel
theorem dL_law_683 : decode cL_law 683 = .ok (.if_icmp .eq 123, 3) := by decide +kernel
theorem dL_law_686 : decode cL_law 686 = .ok (.iconst 0, 1) := by decide +kernel
theorem dL_law_687 : decode cL_law 687 = .ok (.ireturn, 1) := by decide +kernel
theorem dL_law_688 : decode cL_law 688 = .ok (.aload_n 1, 1) := by decide +kernel
theorem dL_law_689 : decode cL_law 689 = .ok (.aload_n 0, 1) := by decide +kernel
theorem dL_law_690 : decode cL_law 690 = .ok (.iload_n 3, 1) := by decide +kernel
theorem dL_law_691 : decode cL_law 691 = .ok (.iconst 1, 1) := by decide +kernel
theorem dL_law_692 : decode cL_law 692 = .ok (.iadd, 1) := by decide +kernel
theorem dL_law_693 : decode cL_law 693 = .ok (.iaload, 1) := by decide +kernel
theorem dL_law_694 : decode cL_law 694 = .ok (.invokevirtual 88, 3) := by decide +kernel
theorem dL_law_697 : decode cL_law 697 = .ok (.aload_n 2, 1) := by decide +kernel
theorem dL_law_698 : decode cL_law 698 = .ok (.aload_n 0, 1) := by decide +kernel
theorem dL_law_699 : decode cL_law 699 = .ok (.iload_n 3, 1) := by decide +kernel
theorem dL_law_700 : decode cL_law 700 = .ok (.iconst 1, 1) := by decide +kernel
theorem dL_law_701 : decode cL_law 701 = .ok (.iadd, 1) := by decide +kernel
theorem dL_law_702 : decode cL_law 702 = .ok (.iaload, 1) := by decide +kernel
theorem dL_law_703 : decode cL_law 703 = .ok (.invokevirtual 91, 3) := by decide +kernel
theorem dL_law_706 : decode cL_law 706 = .ok (.if_icmp .eq 100, 3) := by decide +kernel
theorem dL_law_709 : decode cL_law 709 = .ok (.iconst 0, 1) := by decide +kernel
theorem dL_law_710 : decode cL_law 710 = .ok (.ireturn, 1) := by decide +kernel
theorem dL_law_711 : decode cL_law 711 = .ok (.aload_n 1, 1) := by decide +kernel
theorem dL_law_712 : decode cL_law 712 = .ok (.invokevirtual 92, 3) := by decide +kernel
theorem dL_law_715 : decode cL_law 715 = .ok (.aload_n 2, 1) := by decide +kernel
theorem dL_law_716 : decode cL_law 716 = .ok (.invokevirtual 96, 3) := by decide +kernel
theorem dL_law_719 : decode cL_law 719 = .ok (.if_icmp .eq 87, 3) := by decide +kernel
theorem dL_law_722 : decode cL_law 722 = .ok (.iconst 0, 1) := by decide +kernel
theorem dL_law_723 : decode cL_law 723 = .ok (.ireturn, 1) := by decide +kernel
theorem dL_law_724 : decode cL_law 724 = .ok (.aload_n 1, 1) := by decide +kernel
theorem dL_law_725 : decode cL_law 725 = .ok (.aload_n 0, 1) := by decide +kernel
theorem dL_law_726 : decode cL_law 726 = .ok (.iload_n 3, 1) := by decide +kernel
theorem dL_law_727 : decode cL_law 727 = .ok (.iconst 1, 1) := by decide +kernel
theorem dL_law_728 : decode cL_law 728 = .ok (.iadd, 1) := by decide +kernel
theorem dL_law_729 : decode cL_law 729 = .ok (.iaload, 1) := by decide +kernel
theorem dL_law_730 : decode cL_law 730 = .ok (.invokevirtual 97, 3) := by decide +kernel
theorem dL_law_733 : decode cL_law 733 = .ok (.aload_n 2, 1) := by decide +kernel
theorem dL_law_734 : decode cL_law 734 = .ok (.aload_n 0, 1) := by decide +kernel
theorem dL_law_735 : decode cL_law 735 = .ok (.iload_n 3, 1) := by decide +kernel
theorem dL_law_736 : decode cL_law 736 = .ok (.iconst 1, 1) := by decide +kernel
theorem dL_law_737 : decode cL_law 737 = .ok (.iadd, 1) := by decide +kernel
theorem dL_law_738 : decode cL_law 738 = .ok (.iaload, 1) := by decide +kernel
theorem dL_law_739 : decode cL_law 739 = .ok (.invokevirtual 100, 3) := by decide +kernel
theorem dL_law_742 : decode cL_law 742 = .ok (.if_icmp .eq 64, 3) := by decide +kernel
theorem dL_law_745 : decode cL_law 745 = .ok (.iconst 0, 1) := by decide +kernel
theorem dL_law_746 : decode cL_law 746 = .ok (.ireturn, 1) := by decide +kernel
theorem dL_law_747 : decode cL_law 747 = .ok (.aload_n 1, 1) := by decide +kernel
theorem dL_law_748 : decode cL_law 748 = .ok (.invokevirtual 101, 3) := by decide +kernel
theorem dL_law_751 : decode cL_law 751 = .ok (.aload_n 2, 1) := by decide +kernel
theorem dL_law_752 : decode cL_law 752 = .ok (.invokevirtual 104, 3) := by decide +kernel
theorem dL_law_755 : decode cL_law 755 = .ok (.if_icmp .eq 51, 3) := by decide +kernel
theorem dL_law_758 : decode cL_law 758 = .ok (.iconst 0, 1) := by decide +kernel
theorem dL_law_759 : decode cL_law 759 = .ok (.ireturn, 1) := by decide +kernel
theorem dL_law_760 : decode cL_law 760 = .ok (.aload_n 1, 1) := by decide +kernel
theorem dL_law_761 : decode cL_law 761 = .ok (.aload_n 0, 1) := by decide +kernel
theorem dL_law_762 : decode cL_law 762 = .ok (.iload_n 3, 1) := by decide +kernel
theorem dL_law_763 : decode cL_law 763 = .ok (.iconst 1, 1) := by decide +kernel
theorem dL_law_764 : decode cL_law 764 = .ok (.iadd, 1) := by decide +kernel
theorem dL_law_765 : decode cL_law 765 = .ok (.iaload, 1) := by decide +kernel
theorem dL_law_766 : decode cL_law 766 = .ok (.invokevirtual 105, 3) := by decide +kernel
theorem dL_law_769 : decode cL_law 769 = .ok (.aload_n 2, 1) := by decide +kernel
theorem dL_law_770 : decode cL_law 770 = .ok (.aload_n 0, 1) := by decide +kernel
theorem dL_law_771 : decode cL_law 771 = .ok (.iload_n 3, 1) := by decide +kernel
theorem dL_law_772 : decode cL_law 772 = .ok (.iconst 1, 1) := by decide +kernel
theorem dL_law_773 : decode cL_law 773 = .ok (.iadd, 1) := by decide +kernel
theorem dL_law_774 : decode cL_law 774 = .ok (.iaload, 1) := by decide +kernel
theorem dL_law_775 : decode cL_law 775 = .ok (.invokevirtual 108, 3) := by decide +kernel
theorem dL_law_778 : decode cL_law 778 = .ok (.if_icmp .eq 28, 3) := by decide +kernel
theorem dL_law_781 : decode cL_law 781 = .ok (.iconst 0, 1) := by decide +kernel
theorem dL_law_782 : decode cL_law 782 = .ok (.ireturn, 1) := by decide +kernel
theorem dL_law_783 : decode cL_law 783 = .ok (.aload_n 1, 1) := by decide +kernel
theorem dL_law_784 : decode cL_law 784 = .ok (.aload_n 0, 1) := by decide +kernel
theorem dL_law_785 : decode cL_law 785 = .ok (.iload_n 3, 1) := by decide +kernel
theorem dL_law_786 : decode cL_law 786 = .ok (.iconst 1, 1) := by decide +kernel
theorem dL_law_787 : decode cL_law 787 = .ok (.iadd, 1) := by decide +kernel
theorem dL_law_788 : decode cL_law 788 = .ok (.iaload, 1) := by decide +kernel
theorem dL_law_789 : decode cL_law 789 = .ok (.invokevirtual 109, 3) := by decide +kernel
theorem dL_law_792 : decode cL_law 792 = .ok (.aload_n 2, 1) := by decide +kernel
theorem dL_law_793 : decode cL_law 793 = .ok (.aload_n 0, 1) := by decide +kernel
theorem dL_law_794 : decode cL_law 794 = .ok (.iload_n 3, 1) := by decide +kernel
theorem dL_law_795 : decode cL_law 795 = .ok (.iconst 1, 1) := by decide +kernel
theorem dL_law_796 : decode cL_law 796 = .ok (.iadd, 1) := by decide +kernel
theorem dL_law_797 : decode cL_law 797 = .ok (.iaload, 1) := by decide +kernel
theorem dL_law_798 : decode cL_law 798 = .ok (.invokevirtual 112, 3) := by decide +kernel
theorem dL_law_801 : decode cL_law 801 = .ok (.if_icmp .eq 5, 3) := by decide +kernel
theorem dL_law_804 : decode cL_law 804 = .ok (.iconst 0, 1) := by decide +kernel
theorem dL_law_805 : decode cL_law 805 = .ok (.ireturn, 1) := by decide +kernel
theorem dL_law_806 : decode cL_law 806 = .ok (.iinc 3 4, 3) := by decide +kernel
theorem dL_law_809 : decode cL_law 809 = .ok (.goto (-791), 3) := by decide +kernel
theorem dL_law_812 : decode cL_law 812 = .ok (.iconst 1, 1) := by decide +kernel
theorem dL_law_813 : decode cL_law 813 = .ok (.ireturn, 1) := by decide +kernel
