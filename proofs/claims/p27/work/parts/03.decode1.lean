theorem dX0_init_0 : decode cX0_init 0 = .ok (.aload_n 0, 1) := by decide +kernel
theorem dX0_init_1 : decode cX0_init 1 = .ok (.invokespecial 3, 3) := by decide +kernel
theorem dX0_init_4 : decode cX0_init 4 = .ok (.aload_n 0, 1) := by decide +kernel
theorem dX0_init_5 : decode cX0_init 5 = .ok (.new 9, 3) := by decide +kernel
theorem dX0_init_8 : decode cX0_init 8 = .ok (.dup, 1) := by decide +kernel
theorem dX0_init_9 : decode cX0_init 9 = .ok (.invokespecial 11, 3) := by decide +kernel
theorem dX0_init_12 : decode cX0_init 12 = .ok (.putfield 12, 3) := by decide +kernel
theorem dX0_init_15 : decode cX0_init 15 = .ok (.aload_n 0, 1) := by decide +kernel
theorem dX0_init_16 : decode cX0_init 16 = .ok (.iconst 0, 1) := by decide +kernel
theorem dX0_init_17 : decode cX0_init 17 = .ok (.putfield 18, 3) := by decide +kernel
theorem dX0_init_20 : decode cX0_init 20 = .ok (.aload_n 0, 1) := by decide +kernel
theorem dX0_init_21 : decode cX0_init 21 = .ok (.iconst 0, 1) := by decide +kernel
theorem dX0_init_22 : decode cX0_init 22 = .ok (.putfield 22, 3) := by decide +kernel
theorem dX0_init_25 : decode cX0_init 25 = .ok (.aload_n 0, 1) := by decide +kernel
theorem dX0_init_26 : decode cX0_init 26 = .ok (.iconst 0, 1) := by decide +kernel
theorem dX0_init_27 : decode cX0_init 27 = .ok (.putfield 25, 3) := by decide +kernel
theorem dX0_init_30 : decode cX0_init 30 = .ok (.aload_n 0, 1) := by decide +kernel
theorem dX0_init_31 : decode cX0_init 31 = .ok (.iconst 0, 1) := by decide +kernel
theorem dX0_init_32 : decode cX0_init 32 = .ok (.putfield 28, 3) := by decide +kernel
theorem dX0_init_35 : decode cX0_init 35 = .ok (.aload_n 0, 1) := by decide +kernel
theorem dX0_init_36 : decode cX0_init 36 = .ok (.iconst 0, 1) := by decide +kernel
theorem dX0_init_37 : decode cX0_init 37 = .ok (.putfield 31, 3) := by decide +kernel
theorem dX0_init_40 : decode cX0_init 40 = .ok (.aload_n 0, 1) := by decide +kernel
theorem dX0_init_41 : decode cX0_init 41 = .ok (.iconst 0, 1) := by decide +kernel
theorem dX0_init_42 : decode cX0_init 42 = .ok (.putfield 34, 3) := by decide +kernel
theorem dX0_init_45 : decode cX0_init 45 = .ok (.return_, 1) := by decide +kernel
theorem dX0_remains_0 : decode cX0_remains 0 = .ok (.aload_n 0, 1) := by decide +kernel
theorem dX0_remains_1 : decode cX0_remains 1 = .ok (.getfield 31, 3) := by decide +kernel
theorem dX0_remains_4 : decode cX0_remains 4 = .ok (.ifCond .eq 11, 3) := by decide +kernel
theorem dX0_remains_7 : decode cX0_remains 7 = .ok (.aload_n 0, 1) := by decide +kernel
theorem dX0_remains_8 : decode cX0_remains 8 = .ok (.getfield 31, 3) := by decide +kernel
theorem dX0_remains_11 : decode cX0_remains 11 = .ok (.iconst 1, 1) := by decide +kernel
theorem dX0_remains_12 : decode cX0_remains 12 = .ok (.if_icmp .ne 7, 3) := by decide +kernel
theorem dX0_remains_15 : decode cX0_remains 15 = .ok (.iconst 1, 1) := by decide +kernel
theorem dX0_remains_16 : decode cX0_remains 16 = .ok (.goto 4, 3) := by decide +kernel
theorem dX0_remains_19 : decode cX0_remains 19 = .ok (.iconst 0, 1) := by decide +kernel
theorem dX0_remains_20 : decode cX0_remains 20 = .ok (.ireturn, 1) := by decide +kernel
theorem dX0_cracksBy_0 : decode cX0_cracksBy 0 = .ok (.aload_n 0, 1) := by decide +kernel
theorem dX0_cracksBy_1 : decode cX0_cracksBy 1 = .ok (.getfield 28, 3) := by decide +kernel
theorem dX0_cracksBy_4 : decode cX0_cracksBy 4 = .ok (.iload_n 1, 1) := by decide +kernel
theorem dX0_cracksBy_5 : decode cX0_cracksBy 5 = .ok (.iadd, 1) := by decide +kernel
theorem dX0_cracksBy_6 : decode cX0_cracksBy 6 = .ok (.aload_n 0, 1) := by decide +kernel
theorem dX0_cracksBy_7 : decode cX0_cracksBy 7 = .ok (.getfield 25, 3) := by decide +kernel
theorem dX0_cracksBy_10 : decode cX0_cracksBy 10 = .ok (.aload_n 0, 1) := by decide +kernel
theorem dX0_cracksBy_11 : decode cX0_cracksBy 11 = .ok (.getfield 18, 3) := by decide +kernel
theorem dX0_cracksBy_14 : decode cX0_cracksBy 14 = .ok (.iconst 2, 1) := by decide +kernel
theorem dX0_cracksBy_15 : decode cX0_cracksBy 15 = .ok (.if_icmp .ne 8, 3) := by decide +kernel
theorem dX0_cracksBy_18 : decode cX0_cracksBy 18 = .ok (.bipush 20, 2) := by decide +kernel
theorem dX0_cracksBy_20 : decode cX0_cracksBy 20 = .ok (.goto 5, 3) := by decide +kernel
theorem dX0_cracksBy_23 : decode cX0_cracksBy 23 = .ok (.bipush 10, 2) := by decide +kernel
theorem dX0_cracksBy_25 : decode cX0_cracksBy 25 = .ok (.idiv, 1) := by decide +kernel
theorem dX0_cracksBy_26 : decode cX0_cracksBy 26 = .ok (.if_icmp .le 7, 3) := by decide +kernel
theorem dX0_cracksBy_29 : decode cX0_cracksBy 29 = .ok (.iconst 1, 1) := by decide +kernel
theorem dX0_cracksBy_30 : decode cX0_cracksBy 30 = .ok (.goto 4, 3) := by decide +kernel
theorem dX0_cracksBy_33 : decode cX0_cracksBy 33 = .ok (.iconst 0, 1) := by decide +kernel
theorem dX0_cracksBy_34 : decode cX0_cracksBy 34 = .ok (.ireturn, 1) := by decide +kernel
theorem dX0_pitchBehind_0 : decode cX0_pitchBehind 0 = .ok (.iconst 1, 1) := by decide +kernel
theorem dX0_pitchBehind_1 : decode cX0_pitchBehind 1 = .ok (.aload_n 0, 1) := by decide +kernel
theorem dX0_pitchBehind_2 : decode cX0_pitchBehind 2 = .ok (.getfield 22, 3) := by decide +kernel
theorem dX0_pitchBehind_5 : decode cX0_pitchBehind 5 = .ok (.iload_n 2, 1) := by decide +kernel
theorem dX0_pitchBehind_6 : decode cX0_pitchBehind 6 = .ok (.sipush 1000, 3) := by decide +kernel
theorem dX0_pitchBehind_9 : decode cX0_pitchBehind 9 = .ok (.imul, 1) := by decide +kernel
theorem dX0_pitchBehind_10 : decode cX0_pitchBehind 10 = .ok (.iload_n 1, 1) := by decide +kernel
theorem dX0_pitchBehind_11 : decode cX0_pitchBehind 11 = .ok (.imul, 1) := by decide +kernel
theorem dX0_pitchBehind_12 : decode cX0_pitchBehind 12 = .ok (.iconst 1, 1) := by decide +kernel
theorem dX0_pitchBehind_13 : decode cX0_pitchBehind 13 = .ok (.aload_n 0, 1) := by decide +kernel
theorem dX0_pitchBehind_14 : decode cX0_pitchBehind 14 = .ok (.getfield 12, 3) := by decide +kernel
theorem dX0_pitchBehind_17 : decode cX0_pitchBehind 17 = .ok (.invokevirtual 37, 3) := by decide +kernel
theorem dX0_pitchBehind_20 : decode cX0_pitchBehind 20 = .ok (.invokestatic 41, 3) := by decide +kernel
theorem dX0_pitchBehind_23 : decode cX0_pitchBehind 23 = .ok (.idiv, 1) := by decide +kernel
theorem dX0_pitchBehind_24 : decode cX0_pitchBehind 24 = .ok (.isub, 1) := by decide +kernel
theorem dX0_pitchBehind_25 : decode cX0_pitchBehind 25 = .ok (.invokestatic 41, 3) := by decide +kernel
theorem dX0_pitchBehind_28 : decode cX0_pitchBehind 28 = .ok (.ireturn, 1) := by decide +kernel
theorem dX0_copyFrom_0 : decode cX0_copyFrom 0 = .ok (.aload_n 0, 1) := by decide +kernel
theorem dX0_copyFrom_1 : decode cX0_copyFrom 1 = .ok (.getfield 12, 3) := by decide +kernel
theorem dX0_copyFrom_4 : decode cX0_copyFrom 4 = .ok (.aload_n 1, 1) := by decide +kernel
theorem dX0_copyFrom_5 : decode cX0_copyFrom 5 = .ok (.getfield 12, 3) := by decide +kernel
theorem dX0_copyFrom_8 : decode cX0_copyFrom 8 = .ok (.invokevirtual 47, 3) := by decide +kernel
theorem dX0_copyFrom_11 : decode cX0_copyFrom 11 = .ok (.aload_n 0, 1) := by decide +kernel
theorem dX0_copyFrom_12 : decode cX0_copyFrom 12 = .ok (.aload_n 1, 1) := by decide +kernel
theorem dX0_copyFrom_13 : decode cX0_copyFrom 13 = .ok (.getfield 18, 3) := by decide +kernel
theorem dX0_copyFrom_16 : decode cX0_copyFrom 16 = .ok (.putfield 18, 3) := by decide +kernel
theorem dX0_copyFrom_19 : decode cX0_copyFrom 19 = .ok (.aload_n 0, 1) := by decide +kernel
theorem dX0_copyFrom_20 : decode cX0_copyFrom 20 = .ok (.aload_n 1, 1) := by decide +kernel
theorem dX0_copyFrom_21 : decode cX0_copyFrom 21 = .ok (.getfield 22, 3) := by decide +kernel
theorem dX0_copyFrom_24 : decode cX0_copyFrom 24 = .ok (.putfield 22, 3) := by decide +kernel
theorem dX0_copyFrom_27 : decode cX0_copyFrom 27 = .ok (.aload_n 0, 1) := by decide +kernel
theorem dX0_copyFrom_28 : decode cX0_copyFrom 28 = .ok (.aload_n 1, 1) := by decide +kernel
theorem dX0_copyFrom_29 : decode cX0_copyFrom 29 = .ok (.getfield 25, 3) := by decide +kernel
theorem dX0_copyFrom_32 : decode cX0_copyFrom 32 = .ok (.putfield 25, 3) := by decide +kernel
theorem dX0_copyFrom_35 : decode cX0_copyFrom 35 = .ok (.aload_n 0, 1) := by decide +kernel
theorem dX0_copyFrom_36 : decode cX0_copyFrom 36 = .ok (.aload_n 1, 1) := by decide +kernel
theorem dX0_copyFrom_37 : decode cX0_copyFrom 37 = .ok (.getfield 28, 3) := by decide +kernel
theorem dX0_copyFrom_40 : decode cX0_copyFrom 40 = .ok (.putfield 28, 3) := by decide +kernel
theorem dX0_copyFrom_43 : decode cX0_copyFrom 43 = .ok (.aload_n 0, 1) := by decide +kernel
theorem dX0_copyFrom_44 : decode cX0_copyFrom 44 = .ok (.aload_n 1, 1) := by decide +kernel
theorem dX0_copyFrom_45 : decode cX0_copyFrom 45 = .ok (.getfield 31, 3) := by decide +kernel
theorem dX0_copyFrom_48 : decode cX0_copyFrom 48 = .ok (.putfield 31, 3) := by decide +kernel
theorem dX0_copyFrom_51 : decode cX0_copyFrom 51 = .ok (.aload_n 0, 1) := by decide +kernel
theorem dX0_copyFrom_52 : decode cX0_copyFrom 52 = .ok (.aload_n 1, 1) := by decide +kernel
theorem dX0_copyFrom_53 : decode cX0_copyFrom 53 = .ok (.getfield 34, 3) := by decide +kernel
theorem dX0_copyFrom_56 : decode cX0_copyFrom 56 = .ok (.putfield 34, 3) := by decide +kernel
theorem dX0_copyFrom_59 : decode cX0_copyFrom 59 = .ok (.return_, 1) := by decide +kernel
theorem dX1_init_0 : decode cX1_init 0 = .ok (.aload_n 0, 1) := by decide +kernel
theorem dX1_init_1 : decode cX1_init 1 = .ok (.invokespecial 3, 3) := by decide +kernel
theorem dX1_init_4 : decode cX1_init 4 = .ok (.aload_n 0, 1) := by decide +kernel
theorem dX1_init_5 : decode cX1_init 5 = .ok (.iconst 0, 1) := by decide +kernel
theorem dX1_init_6 : decode cX1_init 6 = .ok (.putfield 11, 3) := by decide +kernel
theorem dX1_init_9 : decode cX1_init 9 = .ok (.aload_n 0, 1) := by decide +kernel
theorem dX1_init_10 : decode cX1_init 10 = .ok (.iconst 0, 1) := by decide +kernel
theorem dX1_init_11 : decode cX1_init 11 = .ok (.putfield 15, 3) := by decide +kernel
theorem dX1_init_14 : decode cX1_init 14 = .ok (.aload_n 0, 1) := by decide +kernel
theorem dX1_init_15 : decode cX1_init 15 = .ok (.iconst 0, 1) := by decide +kernel
theorem dX1_init_16 : decode cX1_init 16 = .ok (.putfield 18, 3) := by decide +kernel
theorem dX1_init_19 : decode cX1_init 19 = .ok (.aload_n 0, 1) := by decide +kernel
theorem dX1_init_20 : decode cX1_init 20 = .ok (.new 21, 3) := by decide +kernel
theorem dX1_init_23 : decode cX1_init 23 = .ok (.dup, 1) := by decide +kernel
theorem dX1_init_24 : decode cX1_init 24 = .ok (.invokespecial 23, 3) := by decide +kernel
theorem dX1_init_27 : decode cX1_init 27 = .ok (.putfield 24, 3) := by decide +kernel
theorem dX1_init_30 : decode cX1_init 30 = .ok (.aload_n 0, 1) := by decide +kernel
theorem dX1_init_31 : decode cX1_init 31 = .ok (.iconst 5, 1) := by decide +kernel
theorem dX1_init_32 : decode cX1_init 32 = .ok (.anewarray 21, 3) := by decide +kernel
theorem dX1_init_35 : decode cX1_init 35 = .ok (.putfield 28, 3) := by decide +kernel
theorem dX1_init_38 : decode cX1_init 38 = .ok (.aload_n 0, 1) := by decide +kernel
theorem dX1_init_39 : decode cX1_init 39 = .ok (.iconst 5, 1) := by decide +kernel
theorem dX1_init_40 : decode cX1_init 40 = .ok (.newarray .boolean, 2) := by decide +kernel
theorem dX1_init_42 : decode cX1_init 42 = .ok (.putfield 32, 3) := by decide +kernel
theorem dX1_init_45 : decode cX1_init 45 = .ok (.aload_n 0, 1) := by decide +kernel
theorem dX1_init_46 : decode cX1_init 46 = .ok (.iconst 0, 1) := by decide +kernel
theorem dX1_init_47 : decode cX1_init 47 = .ok (.putfield 36, 3) := by decide +kernel
theorem dX1_init_50 : decode cX1_init 50 = .ok (.aload_n 0, 1) := by decide +kernel
theorem dX1_init_51 : decode cX1_init 51 = .ok (.bipush 100, 2) := by decide +kernel
theorem dX1_init_53 : decode cX1_init 53 = .ok (.newarray .int, 2) := by decide +kernel
theorem dX1_init_55 : decode cX1_init 55 = .ok (.putfield 39, 3) := by decide +kernel
theorem dX1_init_58 : decode cX1_init 58 = .ok (.aload_n 0, 1) := by decide +kernel
theorem dX1_init_59 : decode cX1_init 59 = .ok (.iconst 0, 1) := by decide +kernel
theorem dX1_init_60 : decode cX1_init 60 = .ok (.putfield 43, 3) := by decide +kernel
theorem dX1_init_63 : decode cX1_init 63 = .ok (.aload_n 0, 1) := by decide +kernel
theorem dX1_init_64 : decode cX1_init 64 = .ok (.iconst 0, 1) := by decide +kernel
theorem dX1_init_65 : decode cX1_init 65 = .ok (.putfield 46, 3) := by decide +kernel
theorem dX1_init_68 : decode cX1_init 68 = .ok (.aload_n 0, 1) := by decide +kernel
theorem dX1_init_69 : decode cX1_init 69 = .ok (.iconst 0, 1) := by decide +kernel
theorem dX1_init_70 : decode cX1_init 70 = .ok (.putfield 49, 3) := by decide +kernel
theorem dX1_init_73 : decode cX1_init 73 = .ok (.aload_n 0, 1) := by decide +kernel
theorem dX1_init_74 : decode cX1_init 74 = .ok (.iconst 0, 1) := by decide +kernel
theorem dX1_init_75 : decode cX1_init 75 = .ok (.putfield 52, 3) := by decide +kernel
theorem dX1_init_78 : decode cX1_init 78 = .ok (.iconst 0, 1) := by decide +kernel
theorem dX1_init_79 : decode cX1_init 79 = .ok (.istore_n 1, 1) := by decide +kernel
theorem dX1_init_80 : decode cX1_init 80 = .ok (.iload_n 1, 1) := by decide +kernel
theorem dX1_init_81 : decode cX1_init 81 = .ok (.aload_n 0, 1) := by decide +kernel
theorem dX1_init_82 : decode cX1_init 82 = .ok (.getfield 28, 3) := by decide +kernel
theorem dX1_init_85 : decode cX1_init 85 = .ok (.arraylength, 1) := by decide +kernel
theorem dX1_init_86 : decode cX1_init 86 = .ok (.if_icmp .ge 22, 3) := by decide +kernel
theorem dX1_init_89 : decode cX1_init 89 = .ok (.aload_n 0, 1) := by decide +kernel
theorem dX1_init_90 : decode cX1_init 90 = .ok (.getfield 28, 3) := by decide +kernel
theorem dX1_init_93 : decode cX1_init 93 = .ok (.iload_n 1, 1) := by decide +kernel
theorem dX1_init_94 : decode cX1_init 94 = .ok (.new 21, 3) := by decide +kernel
theorem dX1_init_97 : decode cX1_init 97 = .ok (.dup, 1) := by decide +kernel
theorem dX1_init_98 : decode cX1_init 98 = .ok (.invokespecial 23, 3) := by decide +kernel
theorem dX1_init_101 : decode cX1_init 101 = .ok (.aastore, 1) := by decide +kernel
theorem dX1_init_102 : decode cX1_init 102 = .ok (.iinc 1 1, 3) := by decide +kernel
theorem dX1_init_105 : decode cX1_init 105 = .ok (.goto (-25), 3) := by decide +kernel
theorem dX1_init_108 : decode cX1_init 108 = .ok (.return_, 1) := by decide +kernel
theorem dX1_read_0 : decode cX1_read 0 = .ok (.aload_n 0, 1) := by decide +kernel
theorem dX1_read_1 : decode cX1_read 1 = .ok (.invokevirtual 55, 3) := by decide +kernel
theorem dX1_read_4 : decode cX1_read 4 = .ok (.iconst 0, 1) := by decide +kernel
theorem dX1_read_5 : decode cX1_read 5 = .ok (.istore 4, 2) := by decide +kernel
theorem dX1_read_7 : decode cX1_read 7 = .ok (.iload 4, 2) := by decide +kernel
theorem dX1_read_9 : decode cX1_read 9 = .ok (.iload_n 2, 1) := by decide +kernel
theorem dX1_read_10 : decode cX1_read 10 = .ok (.if_icmp .ge 113, 3) := by decide +kernel
theorem dX1_read_13 : decode cX1_read 13 = .ok (.aload_n 0, 1) := by decide +kernel
theorem dX1_read_14 : decode cX1_read 14 = .ok (.iload 4, 2) := by decide +kernel
theorem dX1_read_16 : decode cX1_read 16 = .ok (.putfield 15, 3) := by decide +kernel
theorem dX1_read_19 : decode cX1_read 19 = .ok (.iload 4, 2) := by decide +kernel
theorem dX1_read_21 : decode cX1_read 21 = .ok (.iconst 1, 1) := by decide +kernel
theorem dX1_read_22 : decode cX1_read 22 = .ok (.iadd, 1) := by decide +kernel
theorem dX1_read_23 : decode cX1_read 23 = .ok (.iload_n 2, 1) := by decide +kernel
theorem dX1_read_24 : decode cX1_read 24 = .ok (.if_icmp .ge 29, 3) := by decide +kernel
theorem dX1_read_27 : decode cX1_read 27 = .ok (.aload_n 1, 1) := by decide +kernel
theorem dX1_read_28 : decode cX1_read 28 = .ok (.iload 4, 2) := by decide +kernel
theorem dX1_read_30 : decode cX1_read 30 = .ok (.caload, 1) := by decide +kernel
theorem dX1_read_31 : decode cX1_read 31 = .ok (.invokestatic 58, 3) := by decide +kernel
theorem dX1_read_34 : decode cX1_read 34 = .ok (.ifCond .eq 19, 3) := by decide +kernel
theorem dX1_read_37 : decode cX1_read 37 = .ok (.aload_n 1, 1) := by decide +kernel
theorem dX1_read_38 : decode cX1_read 38 = .ok (.iload 4, 2) := by decide +kernel
theorem dX1_read_40 : decode cX1_read 40 = .ok (.iconst 1, 1) := by decide +kernel
theorem dX1_read_41 : decode cX1_read 41 = .ok (.iadd, 1) := by decide +kernel
theorem dX1_read_42 : decode cX1_read 42 = .ok (.caload, 1) := by decide +kernel
theorem dX1_read_43 : decode cX1_read 43 = .ok (.invokestatic 58, 3) := by decide +kernel
theorem dX1_read_46 : decode cX1_read 46 = .ok (.ifCond .eq 7, 3) := by decide +kernel
theorem dX1_read_49 : decode cX1_read 49 = .ok (.iconst 1, 1) := by decide +kernel
theorem dX1_read_50 : decode cX1_read 50 = .ok (.goto 4, 3) := by decide +kernel
theorem dX1_read_53 : decode cX1_read 53 = .ok (.iconst 0, 1) := by decide +kernel
theorem dX1_read_54 : decode cX1_read 54 = .ok (.istore 5, 2) := by decide +kernel
theorem dX1_read_56 : decode cX1_read 56 = .ok (.iload 5, 2) := by decide +kernel
theorem dX1_read_58 : decode cX1_read 58 = .ok (.ifCond .eq 38, 3) := by decide +kernel
theorem dX1_read_61 : decode cX1_read 61 = .ok (.aload_n 0, 1) := by decide +kernel
theorem dX1_read_62 : decode cX1_read 62 = .ok (.aload_n 0, 1) := by decide +kernel
theorem dX1_read_63 : decode cX1_read 63 = .ok (.bipush 10, 2) := by decide +kernel
theorem dX1_read_65 : decode cX1_read 65 = .ok (.aload_n 1, 1) := by decide +kernel
theorem dX1_read_66 : decode cX1_read 66 = .ok (.iload 4, 2) := by decide +kernel
theorem dX1_read_68 : decode cX1_read 68 = .ok (.caload, 1) := by decide +kernel
theorem dX1_read_69 : decode cX1_read 69 = .ok (.invokestatic 62, 3) := by decide +kernel
theorem dX1_read_72 : decode cX1_read 72 = .ok (.imul, 1) := by decide +kernel
theorem dX1_read_73 : decode cX1_read 73 = .ok (.aload_n 1, 1) := by decide +kernel
theorem dX1_read_74 : decode cX1_read 74 = .ok (.iload 4, 2) := by decide +kernel
theorem dX1_read_76 : decode cX1_read 76 = .ok (.iconst 1, 1) := by decide +kernel
theorem dX1_read_77 : decode cX1_read 77 = .ok (.iadd, 1) := by decide +kernel
theorem dX1_read_78 : decode cX1_read 78 = .ok (.caload, 1) := by decide +kernel
theorem dX1_read_79 : decode cX1_read 79 = .ok (.invokestatic 62, 3) := by decide +kernel
theorem dX1_read_82 : decode cX1_read 82 = .ok (.iadd, 1) := by decide +kernel
theorem dX1_read_83 : decode cX1_read 83 = .ok (.aload_n 3, 1) := by decide +kernel
theorem dX1_read_84 : decode cX1_read 84 = .ok (.invokevirtual 66, 3) := by decide +kernel
theorem dX1_read_87 : decode cX1_read 87 = .ok (.putfield 18, 3) := by decide +kernel
theorem dX1_read_90 : decode cX1_read 90 = .ok (.iinc 4 2, 3) := by decide +kernel
theorem dX1_read_93 : decode cX1_read 93 = .ok (.goto 19, 3) := by decide +kernel
theorem dX1_read_96 : decode cX1_read 96 = .ok (.aload_n 0, 1) := by decide +kernel
theorem dX1_read_97 : decode cX1_read 97 = .ok (.aload_n 0, 1) := by decide +kernel
theorem dX1_read_98 : decode cX1_read 98 = .ok (.aload_n 1, 1) := by decide +kernel
theorem dX1_read_99 : decode cX1_read 99 = .ok (.iload 4, 2) := by decide +kernel
theorem dX1_read_101 : decode cX1_read 101 = .ok (.caload, 1) := by decide +kernel
theorem dX1_read_102 : decode cX1_read 102 = .ok (.aload_n 3, 1) := by decide +kernel
theorem dX1_read_103 : decode cX1_read 103 = .ok (.invokevirtual 70, 3) := by decide +kernel
theorem dX1_read_106 : decode cX1_read 106 = .ok (.putfield 18, 3) := by decide +kernel
theorem dX1_read_109 : decode cX1_read 109 = .ok (.iinc 4 1, 3) := by decide +kernel
theorem dX1_read_112 : decode cX1_read 112 = .ok (.aload_n 0, 1) := by decide +kernel
theorem dX1_read_113 : decode cX1_read 113 = .ok (.getfield 18, 3) := by decide +kernel
theorem dX1_read_116 : decode cX1_read 116 = .ok (.ifCond .eq 4, 3) := by decide +kernel
theorem dX1_read_119 : decode cX1_read 119 = .ok (.return_, 1) := by decide +kernel
theorem dX1_read_120 : decode cX1_read 120 = .ok (.goto (-113), 3) := by decide +kernel
theorem dX1_read_123 : decode cX1_read 123 = .ok (.aload_n 0, 1) := by decide +kernel
theorem dX1_read_124 : decode cX1_read 124 = .ok (.iload_n 2, 1) := by decide +kernel
theorem dX1_read_125 : decode cX1_read 125 = .ok (.putfield 15, 3) := by decide +kernel
theorem dX1_read_128 : decode cX1_read 128 = .ok (.aload_n 0, 1) := by decide +kernel
theorem dX1_read_129 : decode cX1_read 129 = .ok (.aload_n 0, 1) := by decide +kernel
theorem dX1_read_130 : decode cX1_read 130 = .ok (.getfield 11, 3) := by decide +kernel
theorem dX1_read_133 : decode cX1_read 133 = .ok (.iconst 3, 1) := by decide +kernel
theorem dX1_read_134 : decode cX1_read 134 = .ok (.if_icmp .ne 7, 3) := by decide +kernel
theorem dX1_read_137 : decode cX1_read 137 = .ok (.iconst 0, 1) := by decide +kernel
theorem dX1_read_138 : decode cX1_read 138 = .ok (.goto 4, 3) := by decide +kernel
theorem dX1_read_141 : decode cX1_read 141 = .ok (.iconst 4, 1) := by decide +kernel
theorem dX1_read_142 : decode cX1_read 142 = .ok (.putfield 18, 3) := by decide +kernel
theorem dX1_read_145 : decode cX1_read 145 = .ok (.return_, 1) := by decide +kernel
theorem dX1_begin_0 : decode cX1_begin 0 = .ok (.aload_n 0, 1) := by decide +kernel
theorem dX1_begin_1 : decode cX1_begin 1 = .ok (.iconst 0, 1) := by decide +kernel
theorem dX1_begin_2 : decode cX1_begin 2 = .ok (.putfield 11, 3) := by decide +kernel
theorem dX1_begin_5 : decode cX1_begin 5 = .ok (.aload_n 0, 1) := by decide +kernel
theorem dX1_begin_6 : decode cX1_begin 6 = .ok (.iconst 0, 1) := by decide +kernel
theorem dX1_begin_7 : decode cX1_begin 7 = .ok (.putfield 36, 3) := by decide +kernel
theorem dX1_begin_10 : decode cX1_begin 10 = .ok (.aload_n 0, 1) := by decide +kernel
theorem dX1_begin_11 : decode cX1_begin 11 = .ok (.getfield 39, 3) := by decide +kernel
theorem dX1_begin_14 : decode cX1_begin 14 = .ok (.iconst 0, 1) := by decide +kernel
theorem dX1_begin_15 : decode cX1_begin 15 = .ok (.invokestatic 74, 3) := by decide +kernel
theorem dX1_begin_18 : decode cX1_begin 18 = .ok (.aload_n 0, 1) := by decide +kernel
theorem dX1_begin_19 : decode cX1_begin 19 = .ok (.iconst 0, 1) := by decide +kernel
theorem dX1_begin_20 : decode cX1_begin 20 = .ok (.putfield 43, 3) := by decide +kernel
theorem dX1_begin_23 : decode cX1_begin 23 = .ok (.aload_n 0, 1) := by decide +kernel
theorem dX1_begin_24 : decode cX1_begin 24 = .ok (.iconst 0, 1) := by decide +kernel
theorem dX1_begin_25 : decode cX1_begin 25 = .ok (.putfield 46, 3) := by decide +kernel
theorem dX1_begin_28 : decode cX1_begin 28 = .ok (.aload_n 0, 1) := by decide +kernel
theorem dX1_begin_29 : decode cX1_begin 29 = .ok (.iconst 0, 1) := by decide +kernel
theorem dX1_begin_30 : decode cX1_begin 30 = .ok (.putfield 49, 3) := by decide +kernel
theorem dX1_begin_33 : decode cX1_begin 33 = .ok (.aload_n 0, 1) := by decide +kernel
theorem dX1_begin_34 : decode cX1_begin 34 = .ok (.iconst 0, 1) := by decide +kernel
theorem dX1_begin_35 : decode cX1_begin 35 = .ok (.putfield 52, 3) := by decide +kernel
theorem dX1_begin_38 : decode cX1_begin 38 = .ok (.return_, 1) := by decide +kernel
theorem dX1_isDigit_0 : decode cX1_isDigit 0 = .ok (.iload_n 0, 1) := by decide +kernel
theorem dX1_isDigit_1 : decode cX1_isDigit 1 = .ok (.bipush 48, 2) := by decide +kernel
theorem dX1_isDigit_3 : decode cX1_isDigit 3 = .ok (.if_icmp .lt 13, 3) := by decide +kernel
theorem dX1_isDigit_6 : decode cX1_isDigit 6 = .ok (.iload_n 0, 1) := by decide +kernel
theorem dX1_isDigit_7 : decode cX1_isDigit 7 = .ok (.bipush 57, 2) := by decide +kernel
theorem dX1_isDigit_9 : decode cX1_isDigit 9 = .ok (.if_icmp .gt 7, 3) := by decide +kernel
theorem dX1_isDigit_12 : decode cX1_isDigit 12 = .ok (.iconst 1, 1) := by decide +kernel
theorem dX1_isDigit_13 : decode cX1_isDigit 13 = .ok (.goto 4, 3) := by decide +kernel
theorem dX1_isDigit_16 : decode cX1_isDigit 16 = .ok (.iconst 0, 1) := by decide +kernel
theorem dX1_isDigit_17 : decode cX1_isDigit 17 = .ok (.ireturn, 1) := by decide +kernel
theorem dX1_digit_0 : decode cX1_digit 0 = .ok (.iload_n 0, 1) := by decide +kernel
theorem dX1_digit_1 : decode cX1_digit 1 = .ok (.bipush 48, 2) := by decide +kernel
theorem dX1_digit_3 : decode cX1_digit 3 = .ok (.isub, 1) := by decide +kernel
theorem dX1_digit_4 : decode cX1_digit 4 = .ok (.ireturn, 1) := by decide +kernel
theorem dX1_readSign_0 : decode cX1_readSign 0 = .ok (.iload_n 1, 1) := by decide +kernel
theorem dX1_readSign_1 : decode cX1_readSign 1 = .ok (.invokestatic 58, 3) := by decide +kernel
theorem dX1_readSign_4 : decode cX1_readSign 4 = .ok (.ifCond .eq 13, 3) := by decide +kernel
theorem dX1_readSign_7 : decode cX1_readSign 7 = .ok (.aload_n 0, 1) := by decide +kernel
theorem dX1_readSign_8 : decode cX1_readSign 8 = .ok (.iload_n 1, 1) := by decide +kernel
theorem dX1_readSign_9 : decode cX1_readSign 9 = .ok (.invokestatic 62, 3) := by decide +kernel
theorem dX1_readSign_12 : decode cX1_readSign 12 = .ok (.aload_n 2, 1) := by decide +kernel
theorem dX1_readSign_13 : decode cX1_readSign 13 = .ok (.invokevirtual 66, 3) := by decide +kernel
theorem dX1_readSign_16 : decode cX1_readSign 16 = .ok (.ireturn, 1) := by decide +kernel
theorem dX1_readSign_17 : decode cX1_readSign 17 = .ok (.iload_n 1, 1) := by decide +kernel
theorem dX1_readSign_18 : decode cX1_readSign 18 = .ok (.bipush 40, 2) := by decide +kernel
theorem dX1_readSign_20 : decode cX1_readSign 20 = .ok (.if_icmp .ne 8, 3) := by decide +kernel
theorem dX1_readSign_23 : decode cX1_readSign 23 = .ok (.aload_n 0, 1) := by decide +kernel
theorem dX1_readSign_24 : decode cX1_readSign 24 = .ok (.invokevirtual 80, 3) := by decide +kernel
theorem dX1_readSign_27 : decode cX1_readSign 27 = .ok (.ireturn, 1) := by decide +kernel
theorem dX1_readSign_28 : decode cX1_readSign 28 = .ok (.iload_n 1, 1) := by decide +kernel
theorem dX1_readSign_29 : decode cX1_readSign 29 = .ok (.bipush 44, 2) := by decide +kernel
theorem dX1_readSign_31 : decode cX1_readSign 31 = .ok (.if_icmp .ne 8, 3) := by decide +kernel
theorem dX1_readSign_34 : decode cX1_readSign 34 = .ok (.aload_n 0, 1) := by decide +kernel
theorem dX1_readSign_35 : decode cX1_readSign 35 = .ok (.invokevirtual 84, 3) := by decide +kernel
theorem dX1_readSign_38 : decode cX1_readSign 38 = .ok (.ireturn, 1) := by decide +kernel
theorem dX1_readSign_39 : decode cX1_readSign 39 = .ok (.iload_n 1, 1) := by decide +kernel
theorem dX1_readSign_40 : decode cX1_readSign 40 = .ok (.bipush 41, 2) := by decide +kernel
theorem dX1_readSign_42 : decode cX1_readSign 42 = .ok (.if_icmp .ne 10, 3) := by decide +kernel
theorem dX1_readSign_45 : decode cX1_readSign 45 = .ok (.aload_n 0, 1) := by decide +kernel
theorem dX1_readSign_46 : decode cX1_readSign 46 = .ok (.invokevirtual 87, 3) := by decide +kernel
theorem dX1_readSign_49 : decode cX1_readSign 49 = .ok (.goto 4, 3) := by decide +kernel
theorem dX1_readSign_52 : decode cX1_readSign 52 = .ok (.iconst 1, 1) := by decide +kernel
theorem dX1_readSign_53 : decode cX1_readSign 53 = .ok (.ireturn, 1) := by decide +kernel
theorem dX1_readBell_0 : decode cX1_readBell 0 = .ok (.aload_n 0, 1) := by decide +kernel
theorem dX1_readBell_1 : decode cX1_readBell 1 = .ok (.getfield 11, 3) := by decide +kernel
theorem dX1_readBell_4 : decode cX1_readBell 4 = .ok (.ifCond .eq 5, 3) := by decide +kernel
theorem dX1_readBell_7 : decode cX1_readBell 7 = .ok (.iconst 1, 1) := by decide +kernel
theorem dX1_readBell_8 : decode cX1_readBell 8 = .ok (.ireturn, 1) := by decide +kernel
theorem dX1_readBell_9 : decode cX1_readBell 9 = .ok (.aload_n 2, 1) := by decide +kernel
theorem dX1_readBell_10 : decode cX1_readBell 10 = .ok (.iload_n 1, 1) := by decide +kernel
theorem dX1_readBell_11 : decode cX1_readBell 11 = .ok (.invokevirtual 90, 3) := by decide +kernel
theorem dX1_readBell_14 : decode cX1_readBell 14 = .ok (.astore_n 3, 1) := by decide +kernel
theorem dX1_readBell_15 : decode cX1_readBell 15 = .ok (.aload_n 3, 1) := by decide +kernel
theorem dX1_readBell_16 : decode cX1_readBell 16 = .ok (.ifnull 10, 3) := by decide +kernel
theorem dX1_readBell_19 : decode cX1_readBell 19 = .ok (.aload_n 3, 1) := by decide +kernel
theorem dX1_readBell_20 : decode cX1_readBell 20 = .ok (.invokevirtual 96, 3) := by decide +kernel
theorem dX1_readBell_23 : decode cX1_readBell 23 = .ok (.ifCond .ne 5, 3) := by decide +kernel
theorem dX1_readBell_26 : decode cX1_readBell 26 = .ok (.iconst 2, 1) := by decide +kernel
theorem dX1_readBell_27 : decode cX1_readBell 27 = .ok (.ireturn, 1) := by decide +kernel
theorem dX1_readBell_28 : decode cX1_readBell 28 = .ok (.aload_n 0, 1) := by decide +kernel
theorem dX1_readBell_29 : decode cX1_readBell 29 = .ok (.getfield 39, 3) := by decide +kernel
theorem dX1_readBell_32 : decode cX1_readBell 32 = .ok (.iload_n 1, 1) := by decide +kernel
theorem dX1_readBell_33 : decode cX1_readBell 33 = .ok (.iaload, 1) := by decide +kernel
theorem dX1_readBell_34 : decode cX1_readBell 34 = .ok (.ifCond .eq 5, 3) := by decide +kernel
theorem dX1_readBell_37 : decode cX1_readBell 37 = .ok (.iconst 3, 1) := by decide +kernel
theorem dX1_readBell_38 : decode cX1_readBell 38 = .ok (.ireturn, 1) := by decide +kernel
theorem dX1_readBell_39 : decode cX1_readBell 39 = .ok (.aload_n 0, 1) := by decide +kernel
theorem dX1_readBell_40 : decode cX1_readBell 40 = .ok (.getfield 39, 3) := by decide +kernel
theorem dX1_readBell_43 : decode cX1_readBell 43 = .ok (.iload_n 1, 1) := by decide +kernel
theorem dX1_readBell_44 : decode cX1_readBell 44 = .ok (.iconst 1, 1) := by decide +kernel
theorem dX1_readBell_45 : decode cX1_readBell 45 = .ok (.iastore, 1) := by decide +kernel
theorem dX1_readBell_46 : decode cX1_readBell 46 = .ok (.aload_n 0, 1) := by decide +kernel
theorem dX1_readBell_47 : decode cX1_readBell 47 = .ok (.dup, 1) := by decide +kernel
theorem dX1_readBell_48 : decode cX1_readBell 48 = .ok (.getfield 43, 3) := by decide +kernel
theorem dX1_readBell_51 : decode cX1_readBell 51 = .ok (.iconst 1, 1) := by decide +kernel
theorem dX1_readBell_52 : decode cX1_readBell 52 = .ok (.iadd, 1) := by decide +kernel
theorem dX1_readBell_53 : decode cX1_readBell 53 = .ok (.putfield 43, 3) := by decide +kernel
theorem dX1_readBell_56 : decode cX1_readBell 56 = .ok (.aload_n 0, 1) := by decide +kernel
theorem dX1_readBell_57 : decode cX1_readBell 57 = .ok (.getfield 24, 3) := by decide +kernel
theorem dX1_readBell_60 : decode cX1_readBell 60 = .ok (.aload_n 3, 1) := by decide +kernel
theorem dX1_readBell_61 : decode cX1_readBell 61 = .ok (.getfield 102, 3) := by decide +kernel
theorem dX1_readBell_64 : decode cX1_readBell 64 = .ok (.invokevirtual 106, 3) := by decide +kernel
theorem dX1_readBell_67 : decode cX1_readBell 67 = .ok (.invokevirtual 111, 3) := by decide +kernel
theorem dX1_readBell_70 : decode cX1_readBell 70 = .ok (.aload_n 0, 1) := by decide +kernel
theorem dX1_readBell_71 : decode cX1_readBell 71 = .ok (.invokevirtual 115, 3) := by decide +kernel
theorem dX1_readBell_74 : decode cX1_readBell 74 = .ok (.iconst 0, 1) := by decide +kernel
theorem dX1_readBell_75 : decode cX1_readBell 75 = .ok (.ireturn, 1) := by decide +kernel
theorem dX1_openBeam_0 : decode cX1_openBeam 0 = .ok (.aload_n 0, 1) := by decide +kernel
theorem dX1_openBeam_1 : decode cX1_openBeam 1 = .ok (.getfield 11, 3) := by decide +kernel
theorem dX1_openBeam_4 : decode cX1_openBeam 4 = .ok (.ifCond .ne 11, 3) := by decide +kernel
theorem dX1_openBeam_7 : decode cX1_openBeam 7 = .ok (.aload_n 0, 1) := by decide +kernel
theorem dX1_openBeam_8 : decode cX1_openBeam 8 = .ok (.getfield 36, 3) := by decide +kernel
theorem dX1_openBeam_11 : decode cX1_openBeam 11 = .ok (.iconst 5, 1) := by decide +kernel
theorem dX1_openBeam_12 : decode cX1_openBeam 12 = .ok (.if_icmp .lt 5, 3) := by decide +kernel
theorem dX1_openBeam_15 : decode cX1_openBeam 15 = .ok (.iconst 1, 1) := by decide +kernel
theorem dX1_openBeam_16 : decode cX1_openBeam 16 = .ok (.ireturn, 1) := by decide +kernel
theorem dX1_openBeam_17 : decode cX1_openBeam 17 = .ok (.aload_n 0, 1) := by decide +kernel
theorem dX1_openBeam_18 : decode cX1_openBeam 18 = .ok (.getfield 32, 3) := by decide +kernel
theorem dX1_openBeam_21 : decode cX1_openBeam 21 = .ok (.aload_n 0, 1) := by decide +kernel
theorem dX1_openBeam_22 : decode cX1_openBeam 22 = .ok (.getfield 36, 3) := by decide +kernel
theorem dX1_openBeam_25 : decode cX1_openBeam 25 = .ok (.iconst 0, 1) := by decide +kernel
theorem dX1_openBeam_26 : decode cX1_openBeam 26 = .ok (.bastore, 1) := by decide +kernel
theorem dX1_openBeam_27 : decode cX1_openBeam 27 = .ok (.aload_n 0, 1) := by decide +kernel
theorem dX1_openBeam_28 : decode cX1_openBeam 28 = .ok (.dup, 1) := by decide +kernel
theorem dX1_openBeam_29 : decode cX1_openBeam 29 = .ok (.getfield 36, 3) := by decide +kernel
theorem dX1_openBeam_32 : decode cX1_openBeam 32 = .ok (.iconst 1, 1) := by decide +kernel
theorem dX1_openBeam_33 : decode cX1_openBeam 33 = .ok (.iadd, 1) := by decide +kernel
theorem dX1_openBeam_34 : decode cX1_openBeam 34 = .ok (.putfield 36, 3) := by decide +kernel
theorem dX1_openBeam_37 : decode cX1_openBeam 37 = .ok (.aload_n 0, 1) := by decide +kernel
theorem dX1_openBeam_38 : decode cX1_openBeam 38 = .ok (.dup, 1) := by decide +kernel
theorem dX1_openBeam_39 : decode cX1_openBeam 39 = .ok (.getfield 46, 3) := by decide +kernel
theorem dX1_openBeam_42 : decode cX1_openBeam 42 = .ok (.iconst 1, 1) := by decide +kernel
theorem dX1_openBeam_43 : decode cX1_openBeam 43 = .ok (.iadd, 1) := by decide +kernel
theorem dX1_openBeam_44 : decode cX1_openBeam 44 = .ok (.putfield 46, 3) := by decide +kernel
theorem dX1_openBeam_47 : decode cX1_openBeam 47 = .ok (.aload_n 0, 1) := by decide +kernel
theorem dX1_openBeam_48 : decode cX1_openBeam 48 = .ok (.aload_n 0, 1) := by decide +kernel
theorem dX1_openBeam_49 : decode cX1_openBeam 49 = .ok (.getfield 49, 3) := by decide +kernel
theorem dX1_openBeam_52 : decode cX1_openBeam 52 = .ok (.aload_n 0, 1) := by decide +kernel
theorem dX1_openBeam_53 : decode cX1_openBeam 53 = .ok (.getfield 36, 3) := by decide +kernel
theorem dX1_openBeam_56 : decode cX1_openBeam 56 = .ok (.invokestatic 118, 3) := by decide +kernel
theorem dX1_openBeam_59 : decode cX1_openBeam 59 = .ok (.putfield 49, 3) := by decide +kernel
theorem dX1_openBeam_62 : decode cX1_openBeam 62 = .ok (.iconst 0, 1) := by decide +kernel
theorem dX1_openBeam_63 : decode cX1_openBeam 63 = .ok (.ireturn, 1) := by decide +kernel
theorem dX1_passComma_0 : decode cX1_passComma 0 = .ok (.aload_n 0, 1) := by decide +kernel
theorem dX1_passComma_1 : decode cX1_passComma 1 = .ok (.getfield 11, 3) := by decide +kernel
theorem dX1_passComma_4 : decode cX1_passComma 4 = .ok (.iconst 1, 1) := by decide +kernel
theorem dX1_passComma_5 : decode cX1_passComma 5 = .ok (.if_icmp .ne 11, 3) := by decide +kernel
theorem dX1_passComma_8 : decode cX1_passComma 8 = .ok (.aload_n 0, 1) := by decide +kernel
theorem dX1_passComma_9 : decode cX1_passComma 9 = .ok (.getfield 36, 3) := by decide +kernel
theorem dX1_passComma_12 : decode cX1_passComma 12 = .ok (.iconst 1, 1) := by decide +kernel
theorem dX1_passComma_13 : decode cX1_passComma 13 = .ok (.if_icmp .ge 5, 3) := by decide +kernel
theorem dX1_passComma_16 : decode cX1_passComma 16 = .ok (.iconst 1, 1) := by decide +kernel
theorem dX1_passComma_17 : decode cX1_passComma 17 = .ok (.ireturn, 1) := by decide +kernel
theorem dX1_passComma_18 : decode cX1_passComma 18 = .ok (.aload_n 0, 1) := by decide +kernel
theorem dX1_passComma_19 : decode cX1_passComma 19 = .ok (.getfield 28, 3) := by decide +kernel
theorem dX1_passComma_22 : decode cX1_passComma 22 = .ok (.aload_n 0, 1) := by decide +kernel
theorem dX1_passComma_23 : decode cX1_passComma 23 = .ok (.getfield 36, 3) := by decide +kernel
theorem dX1_passComma_26 : decode cX1_passComma 26 = .ok (.iconst 1, 1) := by decide +kernel
theorem dX1_passComma_27 : decode cX1_passComma 27 = .ok (.isub, 1) := by decide +kernel
theorem dX1_passComma_28 : decode cX1_passComma 28 = .ok (.aaload, 1) := by decide +kernel
theorem dX1_passComma_29 : decode cX1_passComma 29 = .ok (.aload_n 0, 1) := by decide +kernel
theorem dX1_passComma_30 : decode cX1_passComma 30 = .ok (.getfield 24, 3) := by decide +kernel
theorem dX1_passComma_33 : decode cX1_passComma 33 = .ok (.invokevirtual 124, 3) := by decide +kernel
theorem dX1_passComma_36 : decode cX1_passComma 36 = .ok (.aload_n 0, 1) := by decide +kernel
theorem dX1_passComma_37 : decode cX1_passComma 37 = .ok (.getfield 32, 3) := by decide +kernel
theorem dX1_passComma_40 : decode cX1_passComma 40 = .ok (.aload_n 0, 1) := by decide +kernel
theorem dX1_passComma_41 : decode cX1_passComma 41 = .ok (.getfield 36, 3) := by decide +kernel
theorem dX1_passComma_44 : decode cX1_passComma 44 = .ok (.iconst 1, 1) := by decide +kernel
theorem dX1_passComma_45 : decode cX1_passComma 45 = .ok (.isub, 1) := by decide +kernel
theorem dX1_passComma_46 : decode cX1_passComma 46 = .ok (.iconst 1, 1) := by decide +kernel
theorem dX1_passComma_47 : decode cX1_passComma 47 = .ok (.bastore, 1) := by decide +kernel
theorem dX1_passComma_48 : decode cX1_passComma 48 = .ok (.aload_n 0, 1) := by decide +kernel
theorem dX1_passComma_49 : decode cX1_passComma 49 = .ok (.iconst 0, 1) := by decide +kernel
theorem dX1_passComma_50 : decode cX1_passComma 50 = .ok (.putfield 11, 3) := by decide +kernel
theorem dX1_passComma_53 : decode cX1_passComma 53 = .ok (.iconst 0, 1) := by decide +kernel
theorem dX1_passComma_54 : decode cX1_passComma 54 = .ok (.ireturn, 1) := by decide +kernel
theorem dX1_closeBeam_0 : decode cX1_closeBeam 0 = .ok (.aload_n 0, 1) := by decide +kernel
theorem dX1_closeBeam_1 : decode cX1_closeBeam 1 = .ok (.getfield 11, 3) := by decide +kernel
theorem dX1_closeBeam_4 : decode cX1_closeBeam 4 = .ok (.iconst 2, 1) := by decide +kernel
theorem dX1_closeBeam_5 : decode cX1_closeBeam 5 = .ok (.if_icmp .ne 11, 3) := by decide +kernel
theorem dX1_closeBeam_8 : decode cX1_closeBeam 8 = .ok (.aload_n 0, 1) := by decide +kernel
theorem dX1_closeBeam_9 : decode cX1_closeBeam 9 = .ok (.getfield 36, 3) := by decide +kernel
theorem dX1_closeBeam_12 : decode cX1_closeBeam 12 = .ok (.iconst 1, 1) := by decide +kernel
theorem dX1_closeBeam_13 : decode cX1_closeBeam 13 = .ok (.if_icmp .ge 5, 3) := by decide +kernel
theorem dX1_closeBeam_16 : decode cX1_closeBeam 16 = .ok (.iconst 1, 1) := by decide +kernel
theorem dX1_closeBeam_17 : decode cX1_closeBeam 17 = .ok (.ireturn, 1) := by decide +kernel
theorem dX1_closeBeam_18 : decode cX1_closeBeam 18 = .ok (.aload_n 0, 1) := by decide +kernel
theorem dX1_closeBeam_19 : decode cX1_closeBeam 19 = .ok (.getfield 28, 3) := by decide +kernel
theorem dX1_closeBeam_22 : decode cX1_closeBeam 22 = .ok (.aload_n 0, 1) := by decide +kernel
theorem dX1_closeBeam_23 : decode cX1_closeBeam 23 = .ok (.getfield 36, 3) := by decide +kernel
theorem dX1_closeBeam_26 : decode cX1_closeBeam 26 = .ok (.iconst 1, 1) := by decide +kernel
theorem dX1_closeBeam_27 : decode cX1_closeBeam 27 = .ok (.isub, 1) := by decide +kernel
theorem dX1_closeBeam_28 : decode cX1_closeBeam 28 = .ok (.aaload, 1) := by decide +kernel
theorem dX1_closeBeam_29 : decode cX1_closeBeam 29 = .ok (.astore_n 1, 1) := by decide +kernel
theorem dX1_closeBeam_30 : decode cX1_closeBeam 30 = .ok (.aload_n 0, 1) := by decide +kernel
theorem dX1_closeBeam_31 : decode cX1_closeBeam 31 = .ok (.aload_n 0, 1) := by decide +kernel
theorem dX1_closeBeam_32 : decode cX1_closeBeam 32 = .ok (.getfield 52, 3) := by decide +kernel
theorem dX1_closeBeam_35 : decode cX1_closeBeam 35 = .ok (.aload_n 1, 1) := by decide +kernel
theorem dX1_closeBeam_36 : decode cX1_closeBeam 36 = .ok (.getfield 128, 3) := by decide +kernel
theorem dX1_closeBeam_39 : decode cX1_closeBeam 39 = .ok (.aload_n 0, 1) := by decide +kernel
theorem dX1_closeBeam_40 : decode cX1_closeBeam 40 = .ok (.getfield 24, 3) := by decide +kernel
theorem dX1_closeBeam_43 : decode cX1_closeBeam 43 = .ok (.getfield 128, 3) := by decide +kernel
theorem dX1_closeBeam_46 : decode cX1_closeBeam 46 = .ok (.isub, 1) := by decide +kernel
theorem dX1_closeBeam_47 : decode cX1_closeBeam 47 = .ok (.invokestatic 130, 3) := by decide +kernel
theorem dX1_closeBeam_50 : decode cX1_closeBeam 50 = .ok (.invokestatic 118, 3) := by decide +kernel
theorem dX1_closeBeam_53 : decode cX1_closeBeam 53 = .ok (.putfield 52, 3) := by decide +kernel
theorem dX1_closeBeam_56 : decode cX1_closeBeam 56 = .ok (.aload_n 0, 1) := by decide +kernel
theorem dX1_closeBeam_57 : decode cX1_closeBeam 57 = .ok (.getfield 24, 3) := by decide +kernel
theorem dX1_closeBeam_60 : decode cX1_closeBeam 60 = .ok (.aload_n 1, 1) := by decide +kernel
theorem dX1_closeBeam_61 : decode cX1_closeBeam 61 = .ok (.invokevirtual 134, 3) := by decide +kernel
theorem dX1_closeBeam_64 : decode cX1_closeBeam 64 = .ok (.aload_n 0, 1) := by decide +kernel
theorem dX1_closeBeam_65 : decode cX1_closeBeam 65 = .ok (.dup, 1) := by decide +kernel
theorem dX1_closeBeam_66 : decode cX1_closeBeam 66 = .ok (.getfield 36, 3) := by decide +kernel
theorem dX1_closeBeam_69 : decode cX1_closeBeam 69 = .ok (.iconst 1, 1) := by decide +kernel
theorem dX1_closeBeam_70 : decode cX1_closeBeam 70 = .ok (.isub, 1) := by decide +kernel
theorem dX1_closeBeam_71 : decode cX1_closeBeam 71 = .ok (.putfield 36, 3) := by decide +kernel
theorem dX1_closeBeam_74 : decode cX1_closeBeam 74 = .ok (.aload_n 0, 1) := by decide +kernel
theorem dX1_closeBeam_75 : decode cX1_closeBeam 75 = .ok (.invokevirtual 115, 3) := by decide +kernel
theorem dX1_closeBeam_78 : decode cX1_closeBeam 78 = .ok (.iconst 0, 1) := by decide +kernel
theorem dX1_closeBeam_79 : decode cX1_closeBeam 79 = .ok (.ireturn, 1) := by decide +kernel
theorem dX1_endFrame_0 : decode cX1_endFrame 0 = .ok (.aload_n 0, 1) := by decide +kernel
theorem dX1_endFrame_1 : decode cX1_endFrame 1 = .ok (.getfield 36, 3) := by decide +kernel
theorem dX1_endFrame_4 : decode cX1_endFrame 4 = .ok (.iconst 1, 1) := by decide +kernel
theorem dX1_endFrame_5 : decode cX1_endFrame 5 = .ok (.if_icmp .ge 11, 3) := by decide +kernel
theorem dX1_endFrame_8 : decode cX1_endFrame 8 = .ok (.aload_n 0, 1) := by decide +kernel
theorem dX1_endFrame_9 : decode cX1_endFrame 9 = .ok (.iconst 3, 1) := by decide +kernel
theorem dX1_endFrame_10 : decode cX1_endFrame 10 = .ok (.putfield 11, 3) := by decide +kernel
theorem dX1_endFrame_13 : decode cX1_endFrame 13 = .ok (.goto 26, 3) := by decide +kernel
theorem dX1_endFrame_16 : decode cX1_endFrame 16 = .ok (.aload_n 0, 1) := by decide +kernel
theorem dX1_endFrame_17 : decode cX1_endFrame 17 = .ok (.aload_n 0, 1) := by decide +kernel
theorem dX1_endFrame_18 : decode cX1_endFrame 18 = .ok (.getfield 32, 3) := by decide +kernel
theorem dX1_endFrame_21 : decode cX1_endFrame 21 = .ok (.aload_n 0, 1) := by decide +kernel
theorem dX1_endFrame_22 : decode cX1_endFrame 22 = .ok (.getfield 36, 3) := by decide +kernel
theorem dX1_endFrame_25 : decode cX1_endFrame 25 = .ok (.iconst 1, 1) := by decide +kernel
theorem dX1_endFrame_26 : decode cX1_endFrame 26 = .ok (.isub, 1) := by decide +kernel
theorem dX1_endFrame_27 : decode cX1_endFrame 27 = .ok (.baload, 1) := by decide +kernel
theorem dX1_endFrame_28 : decode cX1_endFrame 28 = .ok (.ifCond .eq 7, 3) := by decide +kernel
theorem dX1_endFrame_31 : decode cX1_endFrame 31 = .ok (.iconst 2, 1) := by decide +kernel
theorem dX1_endFrame_32 : decode cX1_endFrame 32 = .ok (.goto 4, 3) := by decide +kernel
theorem dX1_endFrame_35 : decode cX1_endFrame 35 = .ok (.iconst 1, 1) := by decide +kernel
theorem dX1_endFrame_36 : decode cX1_endFrame 36 = .ok (.putfield 11, 3) := by decide +kernel
theorem dX1_endFrame_39 : decode cX1_endFrame 39 = .ok (.return_, 1) := by decide +kernel
theorem dX1_tell_0 : decode cX1_tell 0 = .ok (.iload_n 1, 1) := by decide +kernel
theorem dX1_tell_1 : decode cX1_tell 1 = .ok (.tableswitch 63 0 4 #[35, 43, 48, 53, 58], 35) := by decide +kernel
theorem dX1_tell_36 : decode cX1_tell 36 = .ok (.aload_n 0, 1) := by decide +kernel
theorem dX1_tell_37 : decode cX1_tell 37 = .ok (.getfield 24, 3) := by decide +kernel
theorem dX1_tell_40 : decode cX1_tell 40 = .ok (.getfield 128, 3) := by decide +kernel
theorem dX1_tell_43 : decode cX1_tell 43 = .ok (.ireturn, 1) := by decide +kernel
theorem dX1_tell_44 : decode cX1_tell 44 = .ok (.aload_n 0, 1) := by decide +kernel
theorem dX1_tell_45 : decode cX1_tell 45 = .ok (.getfield 43, 3) := by decide +kernel
theorem dX1_tell_48 : decode cX1_tell 48 = .ok (.ireturn, 1) := by decide +kernel
theorem dX1_tell_49 : decode cX1_tell 49 = .ok (.aload_n 0, 1) := by decide +kernel
theorem dX1_tell_50 : decode cX1_tell 50 = .ok (.getfield 46, 3) := by decide +kernel
theorem dX1_tell_53 : decode cX1_tell 53 = .ok (.ireturn, 1) := by decide +kernel
theorem dX1_tell_54 : decode cX1_tell 54 = .ok (.aload_n 0, 1) := by decide +kernel
theorem dX1_tell_55 : decode cX1_tell 55 = .ok (.getfield 49, 3) := by decide +kernel
theorem dX1_tell_58 : decode cX1_tell 58 = .ok (.ireturn, 1) := by decide +kernel
theorem dX1_tell_59 : decode cX1_tell 59 = .ok (.aload_n 0, 1) := by decide +kernel
theorem dX1_tell_60 : decode cX1_tell 60 = .ok (.getfield 52, 3) := by decide +kernel
theorem dX1_tell_63 : decode cX1_tell 63 = .ok (.ireturn, 1) := by decide +kernel
theorem dX1_tell_64 : decode cX1_tell 64 = .ok (.aload_n 0, 1) := by decide +kernel
theorem dX1_tell_65 : decode cX1_tell 65 = .ok (.getfield 24, 3) := by decide +kernel
theorem dX1_tell_68 : decode cX1_tell 68 = .ok (.getfield 137, 3) := by decide +kernel
theorem dX1_tell_71 : decode cX1_tell 71 = .ok (.aload_n 0, 1) := by decide +kernel
theorem dX1_tell_72 : decode cX1_tell 72 = .ok (.getfield 24, 3) := by decide +kernel
theorem dX1_tell_75 : decode cX1_tell 75 = .ok (.getfield 128, 3) := by decide +kernel
theorem dX1_tell_78 : decode cX1_tell 78 = .ok (.isub, 1) := by decide +kernel
theorem dX1_tell_79 : decode cX1_tell 79 = .ok (.ireturn, 1) := by decide +kernel
theorem dX2_init_0 : decode cX2_init 0 = .ok (.aload_n 0, 1) := by decide +kernel
theorem dX2_init_1 : decode cX2_init 1 = .ok (.invokespecial 3, 3) := by decide +kernel
theorem dX2_init_4 : decode cX2_init 4 = .ok (.aload_n 0, 1) := by decide +kernel
theorem dX2_init_5 : decode cX2_init 5 = .ok (.bipush 12, 2) := by decide +kernel
theorem dX2_init_7 : decode cX2_init 7 = .ok (.anewarray 9, 3) := by decide +kernel
theorem dX2_init_10 : decode cX2_init 10 = .ok (.putfield 11, 3) := by decide +kernel
theorem dX2_init_13 : decode cX2_init 13 = .ok (.aload_n 0, 1) := by decide +kernel
theorem dX2_init_14 : decode cX2_init 14 = .ok (.iconst 0, 1) := by decide +kernel
theorem dX2_init_15 : decode cX2_init 15 = .ok (.putfield 17, 3) := by decide +kernel
theorem dX2_init_18 : decode cX2_init 18 = .ok (.iconst 0, 1) := by decide +kernel
theorem dX2_init_19 : decode cX2_init 19 = .ok (.istore_n 1, 1) := by decide +kernel
theorem dX2_init_20 : decode cX2_init 20 = .ok (.iload_n 1, 1) := by decide +kernel
theorem dX2_init_21 : decode cX2_init 21 = .ok (.aload_n 0, 1) := by decide +kernel
theorem dX2_init_22 : decode cX2_init 22 = .ok (.getfield 11, 3) := by decide +kernel
theorem dX2_init_25 : decode cX2_init 25 = .ok (.arraylength, 1) := by decide +kernel
theorem dX2_init_26 : decode cX2_init 26 = .ok (.if_icmp .ge 22, 3) := by decide +kernel
theorem dX2_init_29 : decode cX2_init 29 = .ok (.aload_n 0, 1) := by decide +kernel
theorem dX2_init_30 : decode cX2_init 30 = .ok (.getfield 11, 3) := by decide +kernel
theorem dX2_init_33 : decode cX2_init 33 = .ok (.iload_n 1, 1) := by decide +kernel
theorem dX2_init_34 : decode cX2_init 34 = .ok (.new 9, 3) := by decide +kernel
theorem dX2_init_37 : decode cX2_init 37 = .ok (.dup, 1) := by decide +kernel
theorem dX2_init_38 : decode cX2_init 38 = .ok (.invokespecial 21, 3) := by decide +kernel
theorem dX2_init_41 : decode cX2_init 41 = .ok (.aastore, 1) := by decide +kernel
theorem dX2_init_42 : decode cX2_init 42 = .ok (.iinc 1 1, 3) := by decide +kernel
theorem dX2_init_45 : decode cX2_init 45 = .ok (.goto (-25), 3) := by decide +kernel
theorem dX2_init_48 : decode cX2_init 48 = .ok (.return_, 1) := by decide +kernel
theorem dX2_at_0 : decode cX2_at 0 = .ok (.iload_n 1, 1) := by decide +kernel
theorem dX2_at_1 : decode cX2_at 1 = .ok (.iconst 0, 1) := by decide +kernel
theorem dX2_at_2 : decode cX2_at 2 = .ok (.aload_n 0, 1) := by decide +kernel
theorem dX2_at_3 : decode cX2_at 3 = .ok (.getfield 17, 3) := by decide +kernel
theorem dX2_at_6 : decode cX2_at 6 = .ok (.iconst 1, 1) := by decide +kernel
theorem dX2_at_7 : decode cX2_at 7 = .ok (.isub, 1) := by decide +kernel
theorem dX2_at_8 : decode cX2_at 8 = .ok (.invokestatic 22, 3) := by decide +kernel
theorem dX2_at_11 : decode cX2_at 11 = .ok (.ifCond .eq 12, 3) := by decide +kernel
theorem dX2_at_14 : decode cX2_at 14 = .ok (.aload_n 0, 1) := by decide +kernel
theorem dX2_at_15 : decode cX2_at 15 = .ok (.getfield 11, 3) := by decide +kernel
theorem dX2_at_18 : decode cX2_at 18 = .ok (.iload_n 1, 1) := by decide +kernel
theorem dX2_at_19 : decode cX2_at 19 = .ok (.aaload, 1) := by decide +kernel
theorem dX2_at_20 : decode cX2_at 20 = .ok (.goto 4, 3) := by decide +kernel
theorem dX2_at_23 : decode cX2_at 23 = .ok (.aconst_null, 1) := by decide +kernel
theorem dX2_at_24 : decode cX2_at 24 = .ok (.areturn, 1) := by decide +kernel
theorem dX2_add_0 : decode cX2_add 0 = .ok (.aload_n 1, 1) := by decide +kernel
theorem dX2_add_1 : decode cX2_add 1 = .ok (.invokevirtual 26, 3) := by decide +kernel
theorem dX2_add_4 : decode cX2_add 4 = .ok (.ifCond .ne 4, 3) := by decide +kernel
theorem dX2_add_7 : decode cX2_add 7 = .ok (.return_, 1) := by decide +kernel
theorem dX2_add_8 : decode cX2_add 8 = .ok (.aload_n 0, 1) := by decide +kernel
theorem dX2_add_9 : decode cX2_add 9 = .ok (.getfield 17, 3) := by decide +kernel
theorem dX2_add_12 : decode cX2_add 12 = .ok (.aload_n 0, 1) := by decide +kernel
theorem dX2_add_13 : decode cX2_add 13 = .ok (.getfield 11, 3) := by decide +kernel
theorem dX2_add_16 : decode cX2_add 16 = .ok (.arraylength, 1) := by decide +kernel
theorem dX2_add_17 : decode cX2_add 17 = .ok (.if_icmp .ge 41, 3) := by decide +kernel
theorem dX2_add_20 : decode cX2_add 20 = .ok (.aload_n 0, 1) := by decide +kernel
theorem dX2_add_21 : decode cX2_add 21 = .ok (.getfield 11, 3) := by decide +kernel
theorem dX2_add_24 : decode cX2_add 24 = .ok (.aload_n 0, 1) := by decide +kernel
theorem dX2_add_25 : decode cX2_add 25 = .ok (.getfield 17, 3) := by decide +kernel
theorem dX2_add_28 : decode cX2_add 28 = .ok (.aaload, 1) := by decide +kernel
theorem dX2_add_29 : decode cX2_add 29 = .ok (.getfield 32, 3) := by decide +kernel
theorem dX2_add_32 : decode cX2_add 32 = .ok (.invokevirtual 36, 3) := by decide +kernel
theorem dX2_add_35 : decode cX2_add 35 = .ok (.aload_n 0, 1) := by decide +kernel
theorem dX2_add_36 : decode cX2_add 36 = .ok (.getfield 11, 3) := by decide +kernel
theorem dX2_add_39 : decode cX2_add 39 = .ok (.aload_n 0, 1) := by decide +kernel
theorem dX2_add_40 : decode cX2_add 40 = .ok (.getfield 17, 3) := by decide +kernel
theorem dX2_add_43 : decode cX2_add 43 = .ok (.aaload, 1) := by decide +kernel
theorem dX2_add_44 : decode cX2_add 44 = .ok (.iload_n 2, 1) := by decide +kernel
theorem dX2_add_45 : decode cX2_add 45 = .ok (.putfield 39, 3) := by decide +kernel
theorem dX2_add_48 : decode cX2_add 48 = .ok (.aload_n 0, 1) := by decide +kernel
theorem dX2_add_49 : decode cX2_add 49 = .ok (.dup, 1) := by decide +kernel
theorem dX2_add_50 : decode cX2_add 50 = .ok (.getfield 17, 3) := by decide +kernel
theorem dX2_add_53 : decode cX2_add 53 = .ok (.iconst 1, 1) := by decide +kernel
theorem dX2_add_54 : decode cX2_add 54 = .ok (.iadd, 1) := by decide +kernel
theorem dX2_add_55 : decode cX2_add 55 = .ok (.putfield 17, 3) := by decide +kernel
theorem dX2_add_58 : decode cX2_add 58 = .ok (.aload_n 0, 1) := by decide +kernel
theorem dX2_add_59 : decode cX2_add 59 = .ok (.getfield 11, 3) := by decide +kernel
theorem dX2_add_62 : decode cX2_add 62 = .ok (.aload_n 0, 1) := by decide +kernel
theorem dX2_add_63 : decode cX2_add 63 = .ok (.getfield 17, 3) := by decide +kernel
theorem dX2_add_66 : decode cX2_add 66 = .ok (.iconst 1, 1) := by decide +kernel
theorem dX2_add_67 : decode cX2_add 67 = .ok (.isub, 1) := by decide +kernel
theorem dX2_add_68 : decode cX2_add 68 = .ok (.aaload, 1) := by decide +kernel
theorem dX2_add_69 : decode cX2_add 69 = .ok (.getfield 32, 3) := by decide +kernel
theorem dX2_add_72 : decode cX2_add 72 = .ok (.aload_n 1, 1) := by decide +kernel
theorem dX2_add_73 : decode cX2_add 73 = .ok (.invokevirtual 42, 3) := by decide +kernel
theorem dX2_add_76 : decode cX2_add 76 = .ok (.return_, 1) := by decide +kernel
theorem dX2_remove_0 : decode cX2_remove 0 = .ok (.iload_n 1, 1) := by decide +kernel
theorem dX2_remove_1 : decode cX2_remove 1 = .ok (.iconst 0, 1) := by decide +kernel
theorem dX2_remove_2 : decode cX2_remove 2 = .ok (.aload_n 0, 1) := by decide +kernel
theorem dX2_remove_3 : decode cX2_remove 3 = .ok (.getfield 17, 3) := by decide +kernel
theorem dX2_remove_6 : decode cX2_remove 6 = .ok (.iconst 1, 1) := by decide +kernel
theorem dX2_remove_7 : decode cX2_remove 7 = .ok (.isub, 1) := by decide +kernel
theorem dX2_remove_8 : decode cX2_remove 8 = .ok (.invokestatic 22, 3) := by decide +kernel
theorem dX2_remove_11 : decode cX2_remove 11 = .ok (.ifCond .ne 4, 3) := by decide +kernel
theorem dX2_remove_14 : decode cX2_remove 14 = .ok (.return_, 1) := by decide +kernel
theorem dX2_remove_15 : decode cX2_remove 15 = .ok (.aload_n 0, 1) := by decide +kernel
theorem dX2_remove_16 : decode cX2_remove 16 = .ok (.getfield 11, 3) := by decide +kernel
theorem dX2_remove_19 : decode cX2_remove 19 = .ok (.iload_n 1, 1) := by decide +kernel
theorem dX2_remove_20 : decode cX2_remove 20 = .ok (.aaload, 1) := by decide +kernel
theorem dX2_remove_21 : decode cX2_remove 21 = .ok (.astore_n 2, 1) := by decide +kernel
theorem dX2_remove_22 : decode cX2_remove 22 = .ok (.iload_n 1, 1) := by decide +kernel
theorem dX2_remove_23 : decode cX2_remove 23 = .ok (.iconst 1, 1) := by decide +kernel
theorem dX2_remove_24 : decode cX2_remove 24 = .ok (.iadd, 1) := by decide +kernel
theorem dX2_remove_25 : decode cX2_remove 25 = .ok (.istore_n 3, 1) := by decide +kernel
theorem dX2_remove_26 : decode cX2_remove 26 = .ok (.iload_n 3, 1) := by decide +kernel
theorem dX2_remove_27 : decode cX2_remove 27 = .ok (.aload_n 0, 1) := by decide +kernel
theorem dX2_remove_28 : decode cX2_remove 28 = .ok (.getfield 17, 3) := by decide +kernel
theorem dX2_remove_31 : decode cX2_remove 31 = .ok (.if_icmp .ge 23, 3) := by decide +kernel
theorem dX2_remove_34 : decode cX2_remove 34 = .ok (.aload_n 0, 1) := by decide +kernel
theorem dX2_remove_35 : decode cX2_remove 35 = .ok (.getfield 11, 3) := by decide +kernel
theorem dX2_remove_38 : decode cX2_remove 38 = .ok (.iload_n 3, 1) := by decide +kernel
theorem dX2_remove_39 : decode cX2_remove 39 = .ok (.iconst 1, 1) := by decide +kernel
theorem dX2_remove_40 : decode cX2_remove 40 = .ok (.isub, 1) := by decide +kernel
theorem dX2_remove_41 : decode cX2_remove 41 = .ok (.aload_n 0, 1) := by decide +kernel
theorem dX2_remove_42 : decode cX2_remove 42 = .ok (.getfield 11, 3) := by decide +kernel
theorem dX2_remove_45 : decode cX2_remove 45 = .ok (.iload_n 3, 1) := by decide +kernel
theorem dX2_remove_46 : decode cX2_remove 46 = .ok (.aaload, 1) := by decide +kernel
theorem dX2_remove_47 : decode cX2_remove 47 = .ok (.aastore, 1) := by decide +kernel
theorem dX2_remove_48 : decode cX2_remove 48 = .ok (.iinc 3 1, 3) := by decide +kernel
theorem dX2_remove_51 : decode cX2_remove 51 = .ok (.goto (-25), 3) := by decide +kernel
theorem dX2_remove_54 : decode cX2_remove 54 = .ok (.aload_n 0, 1) := by decide +kernel
theorem dX2_remove_55 : decode cX2_remove 55 = .ok (.dup, 1) := by decide +kernel
theorem dX2_remove_56 : decode cX2_remove 56 = .ok (.getfield 17, 3) := by decide +kernel
theorem dX2_remove_59 : decode cX2_remove 59 = .ok (.iconst 1, 1) := by decide +kernel
theorem dX2_remove_60 : decode cX2_remove 60 = .ok (.isub, 1) := by decide +kernel
theorem dX2_remove_61 : decode cX2_remove 61 = .ok (.putfield 17, 3) := by decide +kernel
theorem dX2_remove_64 : decode cX2_remove 64 = .ok (.aload_n 0, 1) := by decide +kernel
theorem dX2_remove_65 : decode cX2_remove 65 = .ok (.getfield 11, 3) := by decide +kernel
theorem dX2_remove_68 : decode cX2_remove 68 = .ok (.aload_n 0, 1) := by decide +kernel
theorem dX2_remove_69 : decode cX2_remove 69 = .ok (.getfield 17, 3) := by decide +kernel
theorem dX2_remove_72 : decode cX2_remove 72 = .ok (.aload_n 2, 1) := by decide +kernel
theorem dX2_remove_73 : decode cX2_remove 73 = .ok (.aastore, 1) := by decide +kernel
theorem dX2_remove_74 : decode cX2_remove 74 = .ok (.return_, 1) := by decide +kernel
theorem dX2_of_0 : decode cX2_of 0 = .ok (.iconst 0, 1) := by decide +kernel
theorem dX2_of_1 : decode cX2_of 1 = .ok (.istore_n 2, 1) := by decide +kernel
theorem dX2_of_2 : decode cX2_of 2 = .ok (.iconst 0, 1) := by decide +kernel
theorem dX2_of_3 : decode cX2_of 3 = .ok (.istore_n 3, 1) := by decide +kernel
theorem dX2_of_4 : decode cX2_of 4 = .ok (.iload_n 3, 1) := by decide +kernel
theorem dX2_of_5 : decode cX2_of 5 = .ok (.aload_n 0, 1) := by decide +kernel
theorem dX2_of_6 : decode cX2_of 6 = .ok (.getfield 17, 3) := by decide +kernel
theorem dX2_of_9 : decode cX2_of 9 = .ok (.if_icmp .ge 25, 3) := by decide +kernel
theorem dX2_of_12 : decode cX2_of 12 = .ok (.iload_n 2, 1) := by decide +kernel
theorem dX2_of_13 : decode cX2_of 13 = .ok (.aload_n 0, 1) := by decide +kernel
theorem dX2_of_14 : decode cX2_of 14 = .ok (.getfield 11, 3) := by decide +kernel
theorem dX2_of_17 : decode cX2_of 17 = .ok (.iload_n 3, 1) := by decide +kernel
theorem dX2_of_18 : decode cX2_of 18 = .ok (.aaload, 1) := by decide +kernel
theorem dX2_of_19 : decode cX2_of 19 = .ok (.getfield 32, 3) := by decide +kernel
theorem dX2_of_22 : decode cX2_of 22 = .ok (.iload_n 1, 1) := by decide +kernel
theorem dX2_of_23 : decode cX2_of 23 = .ok (.invokevirtual 46, 3) := by decide +kernel
theorem dX2_of_26 : decode cX2_of 26 = .ok (.iadd, 1) := by decide +kernel
theorem dX2_of_27 : decode cX2_of 27 = .ok (.istore_n 2, 1) := by decide +kernel
theorem dX2_of_28 : decode cX2_of 28 = .ok (.iinc 3 1, 3) := by decide +kernel
theorem dX2_of_31 : decode cX2_of 31 = .ok (.goto (-27), 3) := by decide +kernel
theorem dX2_of_34 : decode cX2_of 34 = .ok (.iload_n 2, 1) := by decide +kernel
theorem dX2_of_35 : decode cX2_of 35 = .ok (.ireturn, 1) := by decide +kernel
theorem dX2_copyFrom_0 : decode cX2_copyFrom 0 = .ok (.aload_n 0, 1) := by decide +kernel
theorem dX2_copyFrom_1 : decode cX2_copyFrom 1 = .ok (.aload_n 1, 1) := by decide +kernel
theorem dX2_copyFrom_2 : decode cX2_copyFrom 2 = .ok (.getfield 17, 3) := by decide +kernel
theorem dX2_copyFrom_5 : decode cX2_copyFrom 5 = .ok (.putfield 17, 3) := by decide +kernel
theorem dX2_copyFrom_8 : decode cX2_copyFrom 8 = .ok (.iconst 0, 1) := by decide +kernel
theorem dX2_copyFrom_9 : decode cX2_copyFrom 9 = .ok (.istore_n 2, 1) := by decide +kernel
theorem dX2_copyFrom_10 : decode cX2_copyFrom 10 = .ok (.iload_n 2, 1) := by decide +kernel
theorem dX2_copyFrom_11 : decode cX2_copyFrom 11 = .ok (.aload_n 0, 1) := by decide +kernel
theorem dX2_copyFrom_12 : decode cX2_copyFrom 12 = .ok (.getfield 17, 3) := by decide +kernel
theorem dX2_copyFrom_15 : decode cX2_copyFrom 15 = .ok (.if_icmp .ge 48, 3) := by decide +kernel
theorem dX2_copyFrom_18 : decode cX2_copyFrom 18 = .ok (.aload_n 0, 1) := by decide +kernel
theorem dX2_copyFrom_19 : decode cX2_copyFrom 19 = .ok (.getfield 11, 3) := by decide +kernel
theorem dX2_copyFrom_22 : decode cX2_copyFrom 22 = .ok (.iload_n 2, 1) := by decide +kernel
theorem dX2_copyFrom_23 : decode cX2_copyFrom 23 = .ok (.aaload, 1) := by decide +kernel
theorem dX2_copyFrom_24 : decode cX2_copyFrom 24 = .ok (.getfield 32, 3) := by decide +kernel
theorem dX2_copyFrom_27 : decode cX2_copyFrom 27 = .ok (.aload_n 1, 1) := by decide +kernel
theorem dX2_copyFrom_28 : decode cX2_copyFrom 28 = .ok (.getfield 11, 3) := by decide +kernel
theorem dX2_copyFrom_31 : decode cX2_copyFrom 31 = .ok (.iload_n 2, 1) := by decide +kernel
theorem dX2_copyFrom_32 : decode cX2_copyFrom 32 = .ok (.aaload, 1) := by decide +kernel
theorem dX2_copyFrom_33 : decode cX2_copyFrom 33 = .ok (.getfield 32, 3) := by decide +kernel
theorem dX2_copyFrom_36 : decode cX2_copyFrom 36 = .ok (.invokevirtual 50, 3) := by decide +kernel
theorem dX2_copyFrom_39 : decode cX2_copyFrom 39 = .ok (.aload_n 0, 1) := by decide +kernel
theorem dX2_copyFrom_40 : decode cX2_copyFrom 40 = .ok (.getfield 11, 3) := by decide +kernel
theorem dX2_copyFrom_43 : decode cX2_copyFrom 43 = .ok (.iload_n 2, 1) := by decide +kernel
theorem dX2_copyFrom_44 : decode cX2_copyFrom 44 = .ok (.aaload, 1) := by decide +kernel
theorem dX2_copyFrom_45 : decode cX2_copyFrom 45 = .ok (.aload_n 1, 1) := by decide +kernel
theorem dX2_copyFrom_46 : decode cX2_copyFrom 46 = .ok (.getfield 11, 3) := by decide +kernel
theorem dX2_copyFrom_49 : decode cX2_copyFrom 49 = .ok (.iload_n 2, 1) := by decide +kernel
theorem dX2_copyFrom_50 : decode cX2_copyFrom 50 = .ok (.aaload, 1) := by decide +kernel
theorem dX2_copyFrom_51 : decode cX2_copyFrom 51 = .ok (.getfield 39, 3) := by decide +kernel
theorem dX2_copyFrom_54 : decode cX2_copyFrom 54 = .ok (.putfield 39, 3) := by decide +kernel
theorem dX2_copyFrom_57 : decode cX2_copyFrom 57 = .ok (.iinc 2 1, 3) := by decide +kernel
theorem dX2_copyFrom_60 : decode cX2_copyFrom 60 = .ok (.goto (-50), 3) := by decide +kernel
theorem dX2_copyFrom_63 : decode cX2_copyFrom 63 = .ok (.return_, 1) := by decide +kernel
theorem dX3_init_0 : decode cX3_init 0 = .ok (.aload_n 0, 1) := by decide +kernel
theorem dX3_init_1 : decode cX3_init 1 = .ok (.invokespecial 3, 3) := by decide +kernel
theorem dX3_init_4 : decode cX3_init 4 = .ok (.aload_n 0, 1) := by decide +kernel
theorem dX3_init_5 : decode cX3_init 5 = .ok (.iconst 4, 1) := by decide +kernel
theorem dX3_init_6 : decode cX3_init 6 = .ok (.anewarray 9, 3) := by decide +kernel
theorem dX3_init_9 : decode cX3_init 9 = .ok (.putfield 11, 3) := by decide +kernel
theorem dX3_init_12 : decode cX3_init 12 = .ok (.aload_n 0, 1) := by decide +kernel
theorem dX3_init_13 : decode cX3_init 13 = .ok (.iconst 0, 1) := by decide +kernel
theorem dX3_init_14 : decode cX3_init 14 = .ok (.putfield 17, 3) := by decide +kernel
theorem dX3_init_17 : decode cX3_init 17 = .ok (.iconst 0, 1) := by decide +kernel
theorem dX3_init_18 : decode cX3_init 18 = .ok (.istore_n 1, 1) := by decide +kernel
theorem dX3_init_19 : decode cX3_init 19 = .ok (.iload_n 1, 1) := by decide +kernel
theorem dX3_init_20 : decode cX3_init 20 = .ok (.aload_n 0, 1) := by decide +kernel
theorem dX3_init_21 : decode cX3_init 21 = .ok (.getfield 11, 3) := by decide +kernel
theorem dX3_init_24 : decode cX3_init 24 = .ok (.arraylength, 1) := by decide +kernel
theorem dX3_init_25 : decode cX3_init 25 = .ok (.if_icmp .ge 22, 3) := by decide +kernel
theorem dX3_init_28 : decode cX3_init 28 = .ok (.aload_n 0, 1) := by decide +kernel
theorem dX3_init_29 : decode cX3_init 29 = .ok (.getfield 11, 3) := by decide +kernel
theorem dX3_init_32 : decode cX3_init 32 = .ok (.iload_n 1, 1) := by decide +kernel
theorem dX3_init_33 : decode cX3_init 33 = .ok (.new 9, 3) := by decide +kernel
theorem dX3_init_36 : decode cX3_init 36 = .ok (.dup, 1) := by decide +kernel
theorem dX3_init_37 : decode cX3_init 37 = .ok (.invokespecial 21, 3) := by decide +kernel
theorem dX3_init_40 : decode cX3_init 40 = .ok (.aastore, 1) := by decide +kernel
theorem dX3_init_41 : decode cX3_init 41 = .ok (.iinc 1 1, 3) := by decide +kernel
theorem dX3_init_44 : decode cX3_init 44 = .ok (.goto (-25), 3) := by decide +kernel
theorem dX3_init_47 : decode cX3_init 47 = .ok (.return_, 1) := by decide +kernel
theorem dX3_keep_0 : decode cX3_keep 0 = .ok (.aload_n 0, 1) := by decide +kernel
theorem dX3_keep_1 : decode cX3_keep 1 = .ok (.getfield 17, 3) := by decide +kernel
theorem dX3_keep_4 : decode cX3_keep 4 = .ok (.aload_n 0, 1) := by decide +kernel
theorem dX3_keep_5 : decode cX3_keep 5 = .ok (.getfield 11, 3) := by decide +kernel
theorem dX3_keep_8 : decode cX3_keep 8 = .ok (.arraylength, 1) := by decide +kernel
theorem dX3_keep_9 : decode cX3_keep 9 = .ok (.if_icmp .lt 7, 3) := by decide +kernel
theorem dX3_keep_12 : decode cX3_keep 12 = .ok (.aload_n 0, 1) := by decide +kernel
theorem dX3_keep_13 : decode cX3_keep 13 = .ok (.invokevirtual 22, 3) := by decide +kernel
theorem dX3_keep_16 : decode cX3_keep 16 = .ok (.aload_n 0, 1) := by decide +kernel
theorem dX3_keep_17 : decode cX3_keep 17 = .ok (.getfield 11, 3) := by decide +kernel
theorem dX3_keep_20 : decode cX3_keep 20 = .ok (.aload_n 0, 1) := by decide +kernel
theorem dX3_keep_21 : decode cX3_keep 21 = .ok (.getfield 17, 3) := by decide +kernel
theorem dX3_keep_24 : decode cX3_keep 24 = .ok (.aaload, 1) := by decide +kernel
theorem dX3_keep_25 : decode cX3_keep 25 = .ok (.aload_n 1, 1) := by decide +kernel
theorem dX3_keep_26 : decode cX3_keep 26 = .ok (.invokevirtual 25, 3) := by decide +kernel
theorem dX3_keep_29 : decode cX3_keep 29 = .ok (.aload_n 0, 1) := by decide +kernel
theorem dX3_keep_30 : decode cX3_keep 30 = .ok (.dup, 1) := by decide +kernel
theorem dX3_keep_31 : decode cX3_keep 31 = .ok (.getfield 17, 3) := by decide +kernel
theorem dX3_keep_34 : decode cX3_keep 34 = .ok (.iconst 1, 1) := by decide +kernel
theorem dX3_keep_35 : decode cX3_keep 35 = .ok (.iadd, 1) := by decide +kernel
theorem dX3_keep_36 : decode cX3_keep 36 = .ok (.putfield 17, 3) := by decide +kernel
theorem dX3_keep_39 : decode cX3_keep 39 = .ok (.return_, 1) := by decide +kernel
theorem dX3_dropOldest_0 : decode cX3_dropOldest 0 = .ok (.aload_n 0, 1) := by decide +kernel
theorem dX3_dropOldest_1 : decode cX3_dropOldest 1 = .ok (.getfield 11, 3) := by decide +kernel
theorem dX3_dropOldest_4 : decode cX3_dropOldest 4 = .ok (.iconst 0, 1) := by decide +kernel
theorem dX3_dropOldest_5 : decode cX3_dropOldest 5 = .ok (.aaload, 1) := by decide +kernel
theorem dX3_dropOldest_6 : decode cX3_dropOldest 6 = .ok (.astore_n 1, 1) := by decide +kernel
theorem dX3_dropOldest_7 : decode cX3_dropOldest 7 = .ok (.iconst 1, 1) := by decide +kernel
theorem dX3_dropOldest_8 : decode cX3_dropOldest 8 = .ok (.istore_n 2, 1) := by decide +kernel
theorem dX3_dropOldest_9 : decode cX3_dropOldest 9 = .ok (.iload_n 2, 1) := by decide +kernel
theorem dX3_dropOldest_10 : decode cX3_dropOldest 10 = .ok (.aload_n 0, 1) := by decide +kernel
theorem dX3_dropOldest_11 : decode cX3_dropOldest 11 = .ok (.getfield 11, 3) := by decide +kernel
theorem dX3_dropOldest_14 : decode cX3_dropOldest 14 = .ok (.arraylength, 1) := by decide +kernel
theorem dX3_dropOldest_15 : decode cX3_dropOldest 15 = .ok (.if_icmp .ge 23, 3) := by decide +kernel
theorem dX3_dropOldest_18 : decode cX3_dropOldest 18 = .ok (.aload_n 0, 1) := by decide +kernel
theorem dX3_dropOldest_19 : decode cX3_dropOldest 19 = .ok (.getfield 11, 3) := by decide +kernel
theorem dX3_dropOldest_22 : decode cX3_dropOldest 22 = .ok (.iload_n 2, 1) := by decide +kernel
theorem dX3_dropOldest_23 : decode cX3_dropOldest 23 = .ok (.iconst 1, 1) := by decide +kernel
theorem dX3_dropOldest_24 : decode cX3_dropOldest 24 = .ok (.isub, 1) := by decide +kernel
theorem dX3_dropOldest_25 : decode cX3_dropOldest 25 = .ok (.aload_n 0, 1) := by decide +kernel
theorem dX3_dropOldest_26 : decode cX3_dropOldest 26 = .ok (.getfield 11, 3) := by decide +kernel
theorem dX3_dropOldest_29 : decode cX3_dropOldest 29 = .ok (.iload_n 2, 1) := by decide +kernel
theorem dX3_dropOldest_30 : decode cX3_dropOldest 30 = .ok (.aaload, 1) := by decide +kernel
theorem dX3_dropOldest_31 : decode cX3_dropOldest 31 = .ok (.aastore, 1) := by decide +kernel
theorem dX3_dropOldest_32 : decode cX3_dropOldest 32 = .ok (.iinc 2 1, 3) := by decide +kernel
theorem dX3_dropOldest_35 : decode cX3_dropOldest 35 = .ok (.goto (-26), 3) := by decide +kernel
theorem dX3_dropOldest_38 : decode cX3_dropOldest 38 = .ok (.aload_n 0, 1) := by decide +kernel
theorem dX3_dropOldest_39 : decode cX3_dropOldest 39 = .ok (.getfield 11, 3) := by decide +kernel
theorem dX3_dropOldest_42 : decode cX3_dropOldest 42 = .ok (.aload_n 0, 1) := by decide +kernel
theorem dX3_dropOldest_43 : decode cX3_dropOldest 43 = .ok (.getfield 11, 3) := by decide +kernel
theorem dX3_dropOldest_46 : decode cX3_dropOldest 46 = .ok (.arraylength, 1) := by decide +kernel
theorem dX3_dropOldest_47 : decode cX3_dropOldest 47 = .ok (.iconst 1, 1) := by decide +kernel
theorem dX3_dropOldest_48 : decode cX3_dropOldest 48 = .ok (.isub, 1) := by decide +kernel
theorem dX3_dropOldest_49 : decode cX3_dropOldest 49 = .ok (.aload_n 1, 1) := by decide +kernel
theorem dX3_dropOldest_50 : decode cX3_dropOldest 50 = .ok (.aastore, 1) := by decide +kernel
theorem dX3_dropOldest_51 : decode cX3_dropOldest 51 = .ok (.aload_n 0, 1) := by decide +kernel
theorem dX3_dropOldest_52 : decode cX3_dropOldest 52 = .ok (.aload_n 0, 1) := by decide +kernel
theorem dX3_dropOldest_53 : decode cX3_dropOldest 53 = .ok (.getfield 11, 3) := by decide +kernel
theorem dX3_dropOldest_56 : decode cX3_dropOldest 56 = .ok (.arraylength, 1) := by decide +kernel
theorem dX3_dropOldest_57 : decode cX3_dropOldest 57 = .ok (.iconst 1, 1) := by decide +kernel
theorem dX3_dropOldest_58 : decode cX3_dropOldest 58 = .ok (.isub, 1) := by decide +kernel
theorem dX3_dropOldest_59 : decode cX3_dropOldest 59 = .ok (.putfield 17, 3) := by decide +kernel
theorem dX3_dropOldest_62 : decode cX3_dropOldest 62 = .ok (.return_, 1) := by decide +kernel
theorem dX3_restore_0 : decode cX3_restore 0 = .ok (.aload_n 0, 1) := by decide +kernel
theorem dX3_restore_1 : decode cX3_restore 1 = .ok (.getfield 17, 3) := by decide +kernel
theorem dX3_restore_4 : decode cX3_restore 4 = .ok (.iconst 1, 1) := by decide +kernel
theorem dX3_restore_5 : decode cX3_restore 5 = .ok (.if_icmp .ge 4, 3) := by decide +kernel
theorem dX3_restore_8 : decode cX3_restore 8 = .ok (.return_, 1) := by decide +kernel
theorem dX3_restore_9 : decode cX3_restore 9 = .ok (.aload_n 0, 1) := by decide +kernel
theorem dX3_restore_10 : decode cX3_restore 10 = .ok (.dup, 1) := by decide +kernel
theorem dX3_restore_11 : decode cX3_restore 11 = .ok (.getfield 17, 3) := by decide +kernel
theorem dX3_restore_14 : decode cX3_restore 14 = .ok (.iconst 1, 1) := by decide +kernel
theorem dX3_restore_15 : decode cX3_restore 15 = .ok (.isub, 1) := by decide +kernel
theorem dX3_restore_16 : decode cX3_restore 16 = .ok (.putfield 17, 3) := by decide +kernel
theorem dX3_restore_19 : decode cX3_restore 19 = .ok (.aload_n 1, 1) := by decide +kernel
theorem dX3_restore_20 : decode cX3_restore 20 = .ok (.aload_n 0, 1) := by decide +kernel
theorem dX3_restore_21 : decode cX3_restore 21 = .ok (.getfield 11, 3) := by decide +kernel
theorem dX3_restore_24 : decode cX3_restore 24 = .ok (.aload_n 0, 1) := by decide +kernel
theorem dX3_restore_25 : decode cX3_restore 25 = .ok (.getfield 17, 3) := by decide +kernel
theorem dX3_restore_28 : decode cX3_restore 28 = .ok (.aaload, 1) := by decide +kernel
theorem dX3_restore_29 : decode cX3_restore 29 = .ok (.invokevirtual 25, 3) := by decide +kernel
theorem dX3_restore_32 : decode cX3_restore 32 = .ok (.return_, 1) := by decide +kernel
theorem dX4_init_0 : decode cX4_init 0 = .ok (.aload_n 0, 1) := by decide +kernel
theorem dX4_init_1 : decode cX4_init 1 = .ok (.invokespecial 1, 3) := by decide +kernel
theorem dX4_init_4 : decode cX4_init 4 = .ok (.aload_n 0, 1) := by decide +kernel
theorem dX4_init_5 : decode cX4_init 5 = .ok (.iconst 0, 1) := by decide +kernel
theorem dX4_init_6 : decode cX4_init 6 = .ok (.putfield 7, 3) := by decide +kernel
theorem dX4_init_9 : decode cX4_init 9 = .ok (.aload_n 0, 1) := by decide +kernel
theorem dX4_init_10 : decode cX4_init 10 = .ok (.iconst 0, 1) := by decide +kernel
theorem dX4_init_11 : decode cX4_init 11 = .ok (.putfield 13, 3) := by decide +kernel
theorem dX4_init_14 : decode cX4_init 14 = .ok (.aload_n 0, 1) := by decide +kernel
theorem dX4_init_15 : decode cX4_init 15 = .ok (.iconst 1, 1) := by decide +kernel
theorem dX4_init_16 : decode cX4_init 16 = .ok (.putfield 16, 3) := by decide +kernel
theorem dX4_init_19 : decode cX4_init 19 = .ok (.return_, 1) := by decide +kernel
theorem dX4_hangBell_0 : decode cX4_hangBell 0 = .ok (.aload_n 0, 1) := by decide +kernel
theorem dX4_hangBell_1 : decode cX4_hangBell 1 = .ok (.iload_n 1, 1) := by decide +kernel
theorem dX4_hangBell_2 : decode cX4_hangBell 2 = .ok (.putfield 7, 3) := by decide +kernel
theorem dX4_hangBell_5 : decode cX4_hangBell 5 = .ok (.aload_n 0, 1) := by decide +kernel
theorem dX4_hangBell_6 : decode cX4_hangBell 6 = .ok (.iload_n 1, 1) := by decide +kernel
theorem dX4_hangBell_7 : decode cX4_hangBell 7 = .ok (.putfield 13, 3) := by decide +kernel
theorem dX4_hangBell_10 : decode cX4_hangBell 10 = .ok (.aload_n 0, 1) := by decide +kernel
theorem dX4_hangBell_11 : decode cX4_hangBell 11 = .ok (.iconst 1, 1) := by decide +kernel
theorem dX4_hangBell_12 : decode cX4_hangBell 12 = .ok (.putfield 16, 3) := by decide +kernel
theorem dX4_hangBell_15 : decode cX4_hangBell 15 = .ok (.return_, 1) := by decide +kernel
theorem dX4_hangBeam_0 : decode cX4_hangBeam 0 = .ok (.aload_n 1, 1) := by decide +kernel
theorem dX4_hangBeam_1 : decode cX4_hangBeam 1 = .ok (.getfield 16, 3) := by decide +kernel
theorem dX4_hangBeam_4 : decode cX4_hangBeam 4 = .ok (.aload_n 0, 1) := by decide +kernel
theorem dX4_hangBeam_5 : decode cX4_hangBeam 5 = .ok (.getfield 16, 3) := by decide +kernel
theorem dX4_hangBeam_8 : decode cX4_hangBeam 8 = .ok (.invokestatic 19, 3) := by decide +kernel
theorem dX4_hangBeam_11 : decode cX4_hangBeam 11 = .ok (.istore_n 2, 1) := by decide +kernel
theorem dX4_hangBeam_12 : decode cX4_hangBeam 12 = .ok (.aload_n 1, 1) := by decide +kernel
theorem dX4_hangBeam_13 : decode cX4_hangBeam 13 = .ok (.getfield 13, 3) := by decide +kernel
theorem dX4_hangBeam_16 : decode cX4_hangBeam 16 = .ok (.aload_n 0, 1) := by decide +kernel
theorem dX4_hangBeam_17 : decode cX4_hangBeam 17 = .ok (.getfield 13, 3) := by decide +kernel
theorem dX4_hangBeam_20 : decode cX4_hangBeam 20 = .ok (.invokestatic 19, 3) := by decide +kernel
theorem dX4_hangBeam_23 : decode cX4_hangBeam 23 = .ok (.istore_n 3, 1) := by decide +kernel
theorem dX4_hangBeam_24 : decode cX4_hangBeam 24 = .ok (.aload_n 0, 1) := by decide +kernel
theorem dX4_hangBeam_25 : decode cX4_hangBeam 25 = .ok (.dup, 1) := by decide +kernel
theorem dX4_hangBeam_26 : decode cX4_hangBeam 26 = .ok (.getfield 7, 3) := by decide +kernel
theorem dX4_hangBeam_29 : decode cX4_hangBeam 29 = .ok (.aload_n 1, 1) := by decide +kernel
theorem dX4_hangBeam_30 : decode cX4_hangBeam 30 = .ok (.getfield 7, 3) := by decide +kernel
theorem dX4_hangBeam_33 : decode cX4_hangBeam 33 = .ok (.iadd, 1) := by decide +kernel
theorem dX4_hangBeam_34 : decode cX4_hangBeam 34 = .ok (.putfield 7, 3) := by decide +kernel
theorem dX4_hangBeam_37 : decode cX4_hangBeam 37 = .ok (.aload_n 0, 1) := by decide +kernel
theorem dX4_hangBeam_38 : decode cX4_hangBeam 38 = .ok (.iconst 2, 1) := by decide +kernel
theorem dX4_hangBeam_39 : decode cX4_hangBeam 39 = .ok (.iload_n 2, 1) := by decide +kernel
theorem dX4_hangBeam_40 : decode cX4_hangBeam 40 = .ok (.iload_n 3, 1) := by decide +kernel
theorem dX4_hangBeam_41 : decode cX4_hangBeam 41 = .ok (.invokestatic 25, 3) := by decide +kernel
theorem dX4_hangBeam_44 : decode cX4_hangBeam 44 = .ok (.imul, 1) := by decide +kernel
theorem dX4_hangBeam_45 : decode cX4_hangBeam 45 = .ok (.putfield 13, 3) := by decide +kernel
theorem dX4_hangBeam_48 : decode cX4_hangBeam 48 = .ok (.aload_n 0, 1) := by decide +kernel
theorem dX4_hangBeam_49 : decode cX4_hangBeam 49 = .ok (.iconst 2, 1) := by decide +kernel
theorem dX4_hangBeam_50 : decode cX4_hangBeam 50 = .ok (.iload_n 2, 1) := by decide +kernel
theorem dX4_hangBeam_51 : decode cX4_hangBeam 51 = .ok (.imul, 1) := by decide +kernel
theorem dX4_hangBeam_52 : decode cX4_hangBeam 52 = .ok (.putfield 16, 3) := by decide +kernel
theorem dX4_hangBeam_55 : decode cX4_hangBeam 55 = .ok (.return_, 1) := by decide +kernel
theorem dX4_roundUpTo_0 : decode cX4_roundUpTo 0 = .ok (.iload_n 1, 1) := by decide +kernel
theorem dX4_roundUpTo_1 : decode cX4_roundUpTo 1 = .ok (.iload_n 0, 1) := by decide +kernel
theorem dX4_roundUpTo_2 : decode cX4_roundUpTo 2 = .ok (.iadd, 1) := by decide +kernel
theorem dX4_roundUpTo_3 : decode cX4_roundUpTo 3 = .ok (.iconst 1, 1) := by decide +kernel
theorem dX4_roundUpTo_4 : decode cX4_roundUpTo 4 = .ok (.isub, 1) := by decide +kernel
theorem dX4_roundUpTo_5 : decode cX4_roundUpTo 5 = .ok (.iload_n 0, 1) := by decide +kernel
theorem dX4_roundUpTo_6 : decode cX4_roundUpTo 6 = .ok (.ineg, 1) := by decide +kernel
theorem dX4_roundUpTo_7 : decode cX4_roundUpTo 7 = .ok (.iand, 1) := by decide +kernel
theorem dX4_roundUpTo_8 : decode cX4_roundUpTo 8 = .ok (.ireturn, 1) := by decide +kernel
theorem dX4_copyFrom_0 : decode cX4_copyFrom 0 = .ok (.aload_n 0, 1) := by decide +kernel
theorem dX4_copyFrom_1 : decode cX4_copyFrom 1 = .ok (.aload_n 1, 1) := by decide +kernel
theorem dX4_copyFrom_2 : decode cX4_copyFrom 2 = .ok (.getfield 7, 3) := by decide +kernel
theorem dX4_copyFrom_5 : decode cX4_copyFrom 5 = .ok (.putfield 7, 3) := by decide +kernel
theorem dX4_copyFrom_8 : decode cX4_copyFrom 8 = .ok (.aload_n 0, 1) := by decide +kernel
theorem dX4_copyFrom_9 : decode cX4_copyFrom 9 = .ok (.aload_n 1, 1) := by decide +kernel
theorem dX4_copyFrom_10 : decode cX4_copyFrom 10 = .ok (.getfield 13, 3) := by decide +kernel
theorem dX4_copyFrom_13 : decode cX4_copyFrom 13 = .ok (.putfield 13, 3) := by decide +kernel
theorem dX4_copyFrom_16 : decode cX4_copyFrom 16 = .ok (.aload_n 0, 1) := by decide +kernel
theorem dX4_copyFrom_17 : decode cX4_copyFrom 17 = .ok (.aload_n 1, 1) := by decide +kernel
theorem dX4_copyFrom_18 : decode cX4_copyFrom 18 = .ok (.getfield 16, 3) := by decide +kernel
theorem dX4_copyFrom_21 : decode cX4_copyFrom 21 = .ok (.putfield 16, 3) := by decide +kernel
theorem dX4_copyFrom_24 : decode cX4_copyFrom 24 = .ok (.return_, 1) := by decide +kernel
theorem dX5_init_0 : decode cX5_init 0 = .ok (.aload_n 0, 1) := by decide +kernel
theorem dX5_init_1 : decode cX5_init 1 = .ok (.invokespecial 3, 3) := by decide +kernel
theorem dX5_init_4 : decode cX5_init 4 = .ok (.aload_n 0, 1) := by decide +kernel
theorem dX5_init_5 : decode cX5_init 5 = .ok (.new 9, 3) := by decide +kernel
theorem dX5_init_8 : decode cX5_init 8 = .ok (.dup, 1) := by decide +kernel
theorem dX5_init_9 : decode cX5_init 9 = .ok (.invokespecial 11, 3) := by decide +kernel
theorem dX5_init_12 : decode cX5_init 12 = .ok (.putfield 12, 3) := by decide +kernel
theorem dX5_init_15 : decode cX5_init 15 = .ok (.aload_n 0, 1) := by decide +kernel
theorem dX5_init_16 : decode cX5_init 16 = .ok (.iconst 0, 1) := by decide +kernel
theorem dX5_init_17 : decode cX5_init 17 = .ok (.putfield 18, 3) := by decide +kernel
theorem dX5_init_20 : decode cX5_init 20 = .ok (.return_, 1) := by decide +kernel
theorem dX6_init_0 : decode cX6_init 0 = .ok (.aload_n 0, 1) := by decide +kernel
theorem dX6_init_1 : decode cX6_init 1 = .ok (.invokespecial 3, 3) := by decide +kernel
theorem dX6_init_4 : decode cX6_init 4 = .ok (.aload_n 0, 1) := by decide +kernel
theorem dX6_init_5 : decode cX6_init 5 = .ok (.iconst 0, 1) := by decide +kernel
theorem dX6_init_6 : decode cX6_init 6 = .ok (.putfield 9, 3) := by decide +kernel
theorem dX6_init_9 : decode cX6_init 9 = .ok (.aload_n 0, 1) := by decide +kernel
theorem dX6_init_10 : decode cX6_init 10 = .ok (.iconst 0, 1) := by decide +kernel
theorem dX6_init_11 : decode cX6_init 11 = .ok (.putfield 15, 3) := by decide +kernel
theorem dX6_init_14 : decode cX6_init 14 = .ok (.return_, 1) := by decide +kernel
theorem dX6_of_0 : decode cX6_of 0 = .ok (.iload_n 1, 1) := by decide +kernel
theorem dX6_of_1 : decode cX6_of 1 = .ok (.ifCond .ne 10, 3) := by decide +kernel
theorem dX6_of_4 : decode cX6_of 4 = .ok (.aload_n 0, 1) := by decide +kernel
theorem dX6_of_5 : decode cX6_of 5 = .ok (.getfield 9, 3) := by decide +kernel
theorem dX6_of_8 : decode cX6_of 8 = .ok (.goto 7, 3) := by decide +kernel
theorem dX6_of_11 : decode cX6_of 11 = .ok (.aload_n 0, 1) := by decide +kernel
theorem dX6_of_12 : decode cX6_of 12 = .ok (.getfield 15, 3) := by decide +kernel
theorem dX6_of_15 : decode cX6_of 15 = .ok (.ireturn, 1) := by decide +kernel
theorem dX6_put_0 : decode cX6_put 0 = .ok (.iload_n 1, 1) := by decide +kernel
theorem dX6_put_1 : decode cX6_put 1 = .ok (.ifCond .ne 16, 3) := by decide +kernel
theorem dX6_put_4 : decode cX6_put 4 = .ok (.aload_n 0, 1) := by decide +kernel
theorem dX6_put_5 : decode cX6_put 5 = .ok (.dup, 1) := by decide +kernel
theorem dX6_put_6 : decode cX6_put 6 = .ok (.getfield 9, 3) := by decide +kernel
theorem dX6_put_9 : decode cX6_put 9 = .ok (.iload_n 2, 1) := by decide +kernel
theorem dX6_put_10 : decode cX6_put 10 = .ok (.iadd, 1) := by decide +kernel
theorem dX6_put_11 : decode cX6_put 11 = .ok (.putfield 9, 3) := by decide +kernel
theorem dX6_put_14 : decode cX6_put 14 = .ok (.goto 13, 3) := by decide +kernel
theorem dX6_put_17 : decode cX6_put 17 = .ok (.aload_n 0, 1) := by decide +kernel
theorem dX6_put_18 : decode cX6_put 18 = .ok (.dup, 1) := by decide +kernel
theorem dX6_put_19 : decode cX6_put 19 = .ok (.getfield 15, 3) := by decide +kernel
theorem dX6_put_22 : decode cX6_put 22 = .ok (.iload_n 2, 1) := by decide +kernel
theorem dX6_put_23 : decode cX6_put 23 = .ok (.iadd, 1) := by decide +kernel
theorem dX6_put_24 : decode cX6_put 24 = .ok (.putfield 15, 3) := by decide +kernel
theorem dX6_put_27 : decode cX6_put 27 = .ok (.return_, 1) := by decide +kernel
theorem dX6_mixWith_0 : decode cX6_mixWith 0 = .ok (.aload_n 0, 1) := by decide +kernel
theorem dX6_mixWith_1 : decode cX6_mixWith 1 = .ok (.dup, 1) := by decide +kernel
theorem dX6_mixWith_2 : decode cX6_mixWith 2 = .ok (.getfield 9, 3) := by decide +kernel
theorem dX6_mixWith_5 : decode cX6_mixWith 5 = .ok (.aload_n 1, 1) := by decide +kernel
theorem dX6_mixWith_6 : decode cX6_mixWith 6 = .ok (.getfield 9, 3) := by decide +kernel
theorem dX6_mixWith_9 : decode cX6_mixWith 9 = .ok (.iadd, 1) := by decide +kernel
theorem dX6_mixWith_10 : decode cX6_mixWith 10 = .ok (.putfield 9, 3) := by decide +kernel
theorem dX6_mixWith_13 : decode cX6_mixWith 13 = .ok (.aload_n 0, 1) := by decide +kernel
theorem dX6_mixWith_14 : decode cX6_mixWith 14 = .ok (.dup, 1) := by decide +kernel
theorem dX6_mixWith_15 : decode cX6_mixWith 15 = .ok (.getfield 15, 3) := by decide +kernel
theorem dX6_mixWith_18 : decode cX6_mixWith 18 = .ok (.aload_n 1, 1) := by decide +kernel
theorem dX6_mixWith_19 : decode cX6_mixWith 19 = .ok (.getfield 15, 3) := by decide +kernel
theorem dX6_mixWith_22 : decode cX6_mixWith 22 = .ok (.iadd, 1) := by decide +kernel
theorem dX6_mixWith_23 : decode cX6_mixWith 23 = .ok (.putfield 15, 3) := by decide +kernel
theorem dX6_mixWith_26 : decode cX6_mixWith 26 = .ok (.return_, 1) := by decide +kernel
theorem dX6_copyFrom_0 : decode cX6_copyFrom 0 = .ok (.aload_n 0, 1) := by decide +kernel
theorem dX6_copyFrom_1 : decode cX6_copyFrom 1 = .ok (.aload_n 1, 1) := by decide +kernel
theorem dX6_copyFrom_2 : decode cX6_copyFrom 2 = .ok (.getfield 9, 3) := by decide +kernel
theorem dX6_copyFrom_5 : decode cX6_copyFrom 5 = .ok (.putfield 9, 3) := by decide +kernel
theorem dX6_copyFrom_8 : decode cX6_copyFrom 8 = .ok (.aload_n 0, 1) := by decide +kernel
theorem dX6_copyFrom_9 : decode cX6_copyFrom 9 = .ok (.aload_n 1, 1) := by decide +kernel
theorem dX6_copyFrom_10 : decode cX6_copyFrom 10 = .ok (.getfield 15, 3) := by decide +kernel
theorem dX6_copyFrom_13 : decode cX6_copyFrom 13 = .ok (.putfield 15, 3) := by decide +kernel
theorem dX6_copyFrom_16 : decode cX6_copyFrom 16 = .ok (.return_, 1) := by decide +kernel
theorem dX6_empty_0 : decode cX6_empty 0 = .ok (.aload_n 0, 1) := by decide +kernel
theorem dX6_empty_1 : decode cX6_empty 1 = .ok (.iconst 0, 1) := by decide +kernel
theorem dX6_empty_2 : decode cX6_empty 2 = .ok (.putfield 9, 3) := by decide +kernel
theorem dX6_empty_5 : decode cX6_empty 5 = .ok (.aload_n 0, 1) := by decide +kernel
theorem dX6_empty_6 : decode cX6_empty 6 = .ok (.iconst 0, 1) := by decide +kernel
theorem dX6_empty_7 : decode cX6_empty 7 = .ok (.putfield 15, 3) := by decide +kernel
theorem dX6_empty_10 : decode cX6_empty 10 = .ok (.return_, 1) := by decide +kernel
theorem dX6_weight_0 : decode cX6_weight 0 = .ok (.aload_n 0, 1) := by decide +kernel
theorem dX6_weight_1 : decode cX6_weight 1 = .ok (.getfield 9, 3) := by decide +kernel
theorem dX6_weight_4 : decode cX6_weight 4 = .ok (.aload_n 0, 1) := by decide +kernel
theorem dX6_weight_5 : decode cX6_weight 5 = .ok (.getfield 15, 3) := by decide +kernel
theorem dX6_weight_8 : decode cX6_weight 8 = .ok (.iadd, 1) := by decide +kernel
theorem dX6_weight_9 : decode cX6_weight 9 = .ok (.ireturn, 1) := by decide +kernel
theorem dX6_alloy_0 : decode cX6_alloy 0 = .ok (.aload_n 0, 1) := by decide +kernel
theorem dX6_alloy_1 : decode cX6_alloy 1 = .ok (.getfield 15, 3) := by decide +kernel
theorem dX6_alloy_4 : decode cX6_alloy 4 = .ok (.aload_n 0, 1) := by decide +kernel
theorem dX6_alloy_5 : decode cX6_alloy 5 = .ok (.invokevirtual 18, 3) := by decide +kernel
theorem dX6_alloy_8 : decode cX6_alloy 8 = .ok (.invokestatic 22, 3) := by decide +kernel
theorem dX6_alloy_11 : decode cX6_alloy 11 = .ok (.ireturn, 1) := by decide +kernel
theorem dX6_tell_0 : decode cX6_tell 0 = .ok (.iload_n 1, 1) := by decide +kernel
theorem dX6_tell_1 : decode cX6_tell 1 = .ok (.tableswitch 42 0 2 #[27, 32, 37], 27) := by decide +kernel
theorem dX6_tell_28 : decode cX6_tell 28 = .ok (.aload_n 0, 1) := by decide +kernel
theorem dX6_tell_29 : decode cX6_tell 29 = .ok (.getfield 9, 3) := by decide +kernel
theorem dX6_tell_32 : decode cX6_tell 32 = .ok (.ireturn, 1) := by decide +kernel
theorem dX6_tell_33 : decode cX6_tell 33 = .ok (.aload_n 0, 1) := by decide +kernel
theorem dX6_tell_34 : decode cX6_tell 34 = .ok (.getfield 15, 3) := by decide +kernel
theorem dX6_tell_37 : decode cX6_tell 37 = .ok (.ireturn, 1) := by decide +kernel
theorem dX6_tell_38 : decode cX6_tell 38 = .ok (.aload_n 0, 1) := by decide +kernel
theorem dX6_tell_39 : decode cX6_tell 39 = .ok (.invokevirtual 18, 3) := by decide +kernel
theorem dX6_tell_42 : decode cX6_tell 42 = .ok (.ireturn, 1) := by decide +kernel
theorem dX6_tell_43 : decode cX6_tell 43 = .ok (.aload_n 0, 1) := by decide +kernel
theorem dX6_tell_44 : decode cX6_tell 44 = .ok (.invokevirtual 26, 3) := by decide +kernel
theorem dX6_tell_47 : decode cX6_tell 47 = .ok (.ireturn, 1) := by decide +kernel
theorem dX6_lossOf_0 : decode cX6_lossOf 0 = .ok (.aload_n 0, 1) := by decide +kernel
theorem dX6_lossOf_1 : decode cX6_lossOf 1 = .ok (.iload_n 1, 1) := by decide +kernel
theorem dX6_lossOf_2 : decode cX6_lossOf 2 = .ok (.invokevirtual 29, 3) := by decide +kernel
theorem dX6_lossOf_5 : decode cX6_lossOf 5 = .ok (.iload_n 2, 1) := by decide +kernel
theorem dX6_lossOf_6 : decode cX6_lossOf 6 = .ok (.invokestatic 33, 3) := by decide +kernel
theorem dX6_lossOf_9 : decode cX6_lossOf 9 = .ok (.ireturn, 1) := by decide +kernel
theorem dX6_drawInto_0 : decode cX6_drawInto 0 = .ok (.aload_n 0, 1) := by decide +kernel
theorem dX6_drawInto_1 : decode cX6_drawInto 1 = .ok (.iload_n 2, 1) := by decide +kernel
theorem dX6_drawInto_2 : decode cX6_drawInto 2 = .ok (.invokevirtual 36, 3) := by decide +kernel
theorem dX6_drawInto_5 : decode cX6_drawInto 5 = .ok (.istore_n 3, 1) := by decide +kernel
theorem dX6_drawInto_6 : decode cX6_drawInto 6 = .ok (.aload_n 1, 1) := by decide +kernel
theorem dX6_drawInto_7 : decode cX6_drawInto 7 = .ok (.iload_n 3, 1) := by decide +kernel
theorem dX6_drawInto_8 : decode cX6_drawInto 8 = .ok (.putfield 9, 3) := by decide +kernel
theorem dX6_drawInto_11 : decode cX6_drawInto 11 = .ok (.aload_n 1, 1) := by decide +kernel
theorem dX6_drawInto_12 : decode cX6_drawInto 12 = .ok (.iload_n 2, 1) := by decide +kernel
theorem dX6_drawInto_13 : decode cX6_drawInto 13 = .ok (.iload_n 3, 1) := by decide +kernel
theorem dX6_drawInto_14 : decode cX6_drawInto 14 = .ok (.isub, 1) := by decide +kernel
theorem dX6_drawInto_15 : decode cX6_drawInto 15 = .ok (.putfield 15, 3) := by decide +kernel
theorem dX6_drawInto_18 : decode cX6_drawInto 18 = .ok (.aload_n 0, 1) := by decide +kernel
theorem dX6_drawInto_19 : decode cX6_drawInto 19 = .ok (.dup, 1) := by decide +kernel
theorem dX6_drawInto_20 : decode cX6_drawInto 20 = .ok (.getfield 9, 3) := by decide +kernel
theorem dX6_drawInto_23 : decode cX6_drawInto 23 = .ok (.aload_n 1, 1) := by decide +kernel
theorem dX6_drawInto_24 : decode cX6_drawInto 24 = .ok (.getfield 9, 3) := by decide +kernel
theorem dX6_drawInto_27 : decode cX6_drawInto 27 = .ok (.isub, 1) := by decide +kernel
theorem dX6_drawInto_28 : decode cX6_drawInto 28 = .ok (.putfield 9, 3) := by decide +kernel
theorem dX6_drawInto_31 : decode cX6_drawInto 31 = .ok (.aload_n 0, 1) := by decide +kernel
theorem dX6_drawInto_32 : decode cX6_drawInto 32 = .ok (.dup, 1) := by decide +kernel
theorem dX6_drawInto_33 : decode cX6_drawInto 33 = .ok (.getfield 15, 3) := by decide +kernel
theorem dX6_drawInto_36 : decode cX6_drawInto 36 = .ok (.aload_n 1, 1) := by decide +kernel
theorem dX6_drawInto_37 : decode cX6_drawInto 37 = .ok (.getfield 15, 3) := by decide +kernel
theorem dX6_drawInto_40 : decode cX6_drawInto 40 = .ok (.isub, 1) := by decide +kernel
theorem dX6_drawInto_41 : decode cX6_drawInto 41 = .ok (.putfield 15, 3) := by decide +kernel
theorem dX6_drawInto_44 : decode cX6_drawInto 44 = .ok (.return_, 1) := by decide +kernel
theorem dX6_alloyOfDraw_0 : decode cX6_alloyOfDraw 0 = .ok (.iload_n 1, 1) := by decide +kernel
theorem dX6_alloyOfDraw_1 : decode cX6_alloyOfDraw 1 = .ok (.aload_n 0, 1) := by decide +kernel
theorem dX6_alloyOfDraw_2 : decode cX6_alloyOfDraw 2 = .ok (.iload_n 1, 1) := by decide +kernel
theorem dX6_alloyOfDraw_3 : decode cX6_alloyOfDraw 3 = .ok (.invokevirtual 36, 3) := by decide +kernel
theorem dX6_alloyOfDraw_6 : decode cX6_alloyOfDraw 6 = .ok (.isub, 1) := by decide +kernel
theorem dX6_alloyOfDraw_7 : decode cX6_alloyOfDraw 7 = .ok (.iload_n 1, 1) := by decide +kernel
theorem dX6_alloyOfDraw_8 : decode cX6_alloyOfDraw 8 = .ok (.invokestatic 22, 3) := by decide +kernel
theorem dX6_alloyOfDraw_11 : decode cX6_alloyOfDraw 11 = .ok (.ireturn, 1) := by decide +kernel
theorem dX6_copperOfDraw_0 : decode cX6_copperOfDraw 0 = .ok (.aload_n 0, 1) := by decide +kernel
theorem dX6_copperOfDraw_1 : decode cX6_copperOfDraw 1 = .ok (.invokevirtual 18, 3) := by decide +kernel
theorem dX6_copperOfDraw_4 : decode cX6_copperOfDraw 4 = .ok (.istore_n 2, 1) := by decide +kernel
theorem dX6_copperOfDraw_5 : decode cX6_copperOfDraw 5 = .ok (.iload_n 2, 1) := by decide +kernel
theorem dX6_copperOfDraw_6 : decode cX6_copperOfDraw 6 = .ok (.iconst 1, 1) := by decide +kernel
theorem dX6_copperOfDraw_7 : decode cX6_copperOfDraw 7 = .ok (.if_icmp .ge 7, 3) := by decide +kernel
theorem dX6_copperOfDraw_10 : decode cX6_copperOfDraw 10 = .ok (.iconst 0, 1) := by decide +kernel
theorem dX6_copperOfDraw_11 : decode cX6_copperOfDraw 11 = .ok (.goto 11, 3) := by decide +kernel
theorem dX6_copperOfDraw_14 : decode cX6_copperOfDraw 14 = .ok (.iload_n 1, 1) := by decide +kernel
theorem dX6_copperOfDraw_15 : decode cX6_copperOfDraw 15 = .ok (.aload_n 0, 1) := by decide +kernel
theorem dX6_copperOfDraw_16 : decode cX6_copperOfDraw 16 = .ok (.getfield 9, 3) := by decide +kernel
theorem dX6_copperOfDraw_19 : decode cX6_copperOfDraw 19 = .ok (.imul, 1) := by decide +kernel
theorem dX6_copperOfDraw_20 : decode cX6_copperOfDraw 20 = .ok (.iload_n 2, 1) := by decide +kernel
theorem dX6_copperOfDraw_21 : decode cX6_copperOfDraw 21 = .ok (.idiv, 1) := by decide +kernel
theorem dX6_copperOfDraw_22 : decode cX6_copperOfDraw 22 = .ok (.ireturn, 1) := by decide +kernel
theorem dX6_alloyOf_0 : decode cX6_alloyOf 0 = .ok (.iload_n 1, 1) := by decide +kernel
theorem dX6_alloyOf_1 : decode cX6_alloyOf 1 = .ok (.iconst 1, 1) := by decide +kernel
theorem dX6_alloyOf_2 : decode cX6_alloyOf 2 = .ok (.if_icmp .ge 7, 3) := by decide +kernel
theorem dX6_alloyOf_5 : decode cX6_alloyOf 5 = .ok (.iconst 0, 1) := by decide +kernel
theorem dX6_alloyOf_6 : decode cX6_alloyOf 6 = .ok (.goto 13, 3) := by decide +kernel
theorem dX6_alloyOf_9 : decode cX6_alloyOf 9 = .ok (.ldc2_w 39, 3) := by decide +kernel
theorem dX6_alloyOf_12 : decode cX6_alloyOf 12 = .ok (.iload_n 0, 1) := by decide +kernel
theorem dX6_alloyOf_13 : decode cX6_alloyOf 13 = .ok (.i2l, 1) := by decide +kernel
theorem dX6_alloyOf_14 : decode cX6_alloyOf 14 = .ok (.lmul, 1) := by decide +kernel
theorem dX6_alloyOf_15 : decode cX6_alloyOf 15 = .ok (.iload_n 1, 1) := by decide +kernel
theorem dX6_alloyOf_16 : decode cX6_alloyOf 16 = .ok (.i2l, 1) := by decide +kernel
theorem dX6_alloyOf_17 : decode cX6_alloyOf 17 = .ok (.ldiv, 1) := by decide +kernel
theorem dX6_alloyOf_18 : decode cX6_alloyOf 18 = .ok (.l2i, 1) := by decide +kernel
theorem dX6_alloyOf_19 : decode cX6_alloyOf 19 = .ok (.ireturn, 1) := by decide +kernel
theorem dX7_init_0 : decode cX7_init 0 = .ok (.aload_n 0, 1) := by decide +kernel
theorem dX7_init_1 : decode cX7_init 1 = .ok (.invokespecial 3, 3) := by decide +kernel
theorem dX7_init_4 : decode cX7_init 4 = .ok (.aload_n 0, 1) := by decide +kernel
theorem dX7_init_5 : decode cX7_init 5 = .ok (.iconst 0, 1) := by decide +kernel
theorem dX7_init_6 : decode cX7_init 6 = .ok (.putfield 9, 3) := by decide +kernel
theorem dX7_init_9 : decode cX7_init 9 = .ok (.aload_n 0, 1) := by decide +kernel
theorem dX7_init_10 : decode cX7_init 10 = .ok (.iconst 0, 1) := by decide +kernel
theorem dX7_init_11 : decode cX7_init 11 = .ok (.putfield 15, 3) := by decide +kernel
theorem dX7_init_14 : decode cX7_init 14 = .ok (.aload_n 0, 1) := by decide +kernel
theorem dX7_init_15 : decode cX7_init 15 = .ok (.iconst 0, 1) := by decide +kernel
theorem dX7_init_16 : decode cX7_init 16 = .ok (.putfield 18, 3) := by decide +kernel
theorem dX7_init_19 : decode cX7_init 19 = .ok (.aload_n 0, 1) := by decide +kernel
theorem dX7_init_20 : decode cX7_init 20 = .ok (.iconst 0, 1) := by decide +kernel
theorem dX7_init_21 : decode cX7_init 21 = .ok (.putfield 21, 3) := by decide +kernel
theorem dX7_init_24 : decode cX7_init 24 = .ok (.return_, 1) := by decide +kernel
theorem dX7_takesPitch_0 : decode cX7_takesPitch 0 = .ok (.iload_n 1, 1) := by decide +kernel
theorem dX7_takesPitch_1 : decode cX7_takesPitch 1 = .ok (.aload_n 0, 1) := by decide +kernel
theorem dX7_takesPitch_2 : decode cX7_takesPitch 2 = .ok (.getfield 15, 3) := by decide +kernel
theorem dX7_takesPitch_5 : decode cX7_takesPitch 5 = .ok (.isub, 1) := by decide +kernel
theorem dX7_takesPitch_6 : decode cX7_takesPitch 6 = .ok (.invokestatic 24, 3) := by decide +kernel
theorem dX7_takesPitch_9 : decode cX7_takesPitch 9 = .ok (.aload_n 0, 1) := by decide +kernel
theorem dX7_takesPitch_10 : decode cX7_takesPitch 10 = .ok (.getfield 18, 3) := by decide +kernel
theorem dX7_takesPitch_13 : decode cX7_takesPitch 13 = .ok (.if_icmp .gt 7, 3) := by decide +kernel
theorem dX7_takesPitch_16 : decode cX7_takesPitch 16 = .ok (.iconst 1, 1) := by decide +kernel
theorem dX7_takesPitch_17 : decode cX7_takesPitch 17 = .ok (.goto 4, 3) := by decide +kernel
theorem dX7_takesPitch_20 : decode cX7_takesPitch 20 = .ok (.iconst 0, 1) := by decide +kernel
theorem dX7_takesPitch_21 : decode cX7_takesPitch 21 = .ok (.ireturn, 1) := by decide +kernel
theorem dX7_isFitBy_0 : decode cX7_isFitBy 0 = .ok (.aload_n 1, 1) := by decide +kernel
theorem dX7_isFitBy_1 : decode cX7_isFitBy 1 = .ok (.getfield 30, 3) := by decide +kernel
theorem dX7_isFitBy_4 : decode cX7_isFitBy 4 = .ok (.ifCond .ne 29, 3) := by decide +kernel
theorem dX7_isFitBy_7 : decode cX7_isFitBy 7 = .ok (.aload_n 1, 1) := by decide +kernel
theorem dX7_isFitBy_8 : decode cX7_isFitBy 8 = .ok (.getfield 33, 3) := by decide +kernel
theorem dX7_isFitBy_11 : decode cX7_isFitBy 11 = .ok (.aload_n 0, 1) := by decide +kernel
theorem dX7_isFitBy_12 : decode cX7_isFitBy 12 = .ok (.getfield 9, 3) := by decide +kernel
theorem dX7_isFitBy_15 : decode cX7_isFitBy 15 = .ok (.if_icmp .ne 18, 3) := by decide +kernel
theorem dX7_isFitBy_18 : decode cX7_isFitBy 18 = .ok (.aload_n 0, 1) := by decide +kernel
theorem dX7_isFitBy_19 : decode cX7_isFitBy 19 = .ok (.aload_n 1, 1) := by decide +kernel
theorem dX7_isFitBy_20 : decode cX7_isFitBy 20 = .ok (.getfield 34, 3) := by decide +kernel
theorem dX7_isFitBy_23 : decode cX7_isFitBy 23 = .ok (.invokevirtual 35, 3) := by decide +kernel
theorem dX7_isFitBy_26 : decode cX7_isFitBy 26 = .ok (.ifCond .eq 7, 3) := by decide +kernel
theorem dX7_isFitBy_29 : decode cX7_isFitBy 29 = .ok (.iconst 1, 1) := by decide +kernel
theorem dX7_isFitBy_30 : decode cX7_isFitBy 30 = .ok (.goto 4, 3) := by decide +kernel
theorem dX7_isFitBy_33 : decode cX7_isFitBy 33 = .ok (.iconst 0, 1) := by decide +kernel
theorem dX7_isFitBy_34 : decode cX7_isFitBy 34 = .ok (.ireturn, 1) := by decide +kernel
theorem dX7_copyFrom_0 : decode cX7_copyFrom 0 = .ok (.aload_n 0, 1) := by decide +kernel
theorem dX7_copyFrom_1 : decode cX7_copyFrom 1 = .ok (.aload_n 1, 1) := by decide +kernel
theorem dX7_copyFrom_2 : decode cX7_copyFrom 2 = .ok (.getfield 9, 3) := by decide +kernel
theorem dX7_copyFrom_5 : decode cX7_copyFrom 5 = .ok (.putfield 9, 3) := by decide +kernel
theorem dX7_copyFrom_8 : decode cX7_copyFrom 8 = .ok (.aload_n 0, 1) := by decide +kernel
theorem dX7_copyFrom_9 : decode cX7_copyFrom 9 = .ok (.aload_n 1, 1) := by decide +kernel
theorem dX7_copyFrom_10 : decode cX7_copyFrom 10 = .ok (.getfield 15, 3) := by decide +kernel
theorem dX7_copyFrom_13 : decode cX7_copyFrom 13 = .ok (.putfield 15, 3) := by decide +kernel
theorem dX7_copyFrom_16 : decode cX7_copyFrom 16 = .ok (.aload_n 0, 1) := by decide +kernel
theorem dX7_copyFrom_17 : decode cX7_copyFrom 17 = .ok (.aload_n 1, 1) := by decide +kernel
theorem dX7_copyFrom_18 : decode cX7_copyFrom 18 = .ok (.getfield 18, 3) := by decide +kernel
theorem dX7_copyFrom_21 : decode cX7_copyFrom 21 = .ok (.putfield 18, 3) := by decide +kernel
theorem dX7_copyFrom_24 : decode cX7_copyFrom 24 = .ok (.aload_n 0, 1) := by decide +kernel
theorem dX7_copyFrom_25 : decode cX7_copyFrom 25 = .ok (.aload_n 1, 1) := by decide +kernel
theorem dX7_copyFrom_26 : decode cX7_copyFrom 26 = .ok (.getfield 21, 3) := by decide +kernel
theorem dX7_copyFrom_29 : decode cX7_copyFrom 29 = .ok (.putfield 21, 3) := by decide +kernel
theorem dX7_copyFrom_32 : decode cX7_copyFrom 32 = .ok (.return_, 1) := by decide +kernel
theorem dX8_init_0 : decode cX8_init 0 = .ok (.aload_n 0, 1) := by decide +kernel
theorem dX8_init_1 : decode cX8_init 1 = .ok (.invokespecial 3, 3) := by decide +kernel
theorem dX8_init_4 : decode cX8_init 4 = .ok (.aload_n 0, 1) := by decide +kernel
theorem dX8_init_5 : decode cX8_init 5 = .ok (.bipush 12, 2) := by decide +kernel
theorem dX8_init_7 : decode cX8_init 7 = .ok (.newarray .int, 2) := by decide +kernel
theorem dX8_init_9 : decode cX8_init 9 = .ok (.putfield 9, 3) := by decide +kernel
theorem dX8_init_12 : decode cX8_init 12 = .ok (.aload_n 0, 1) := by decide +kernel
theorem dX8_init_13 : decode cX8_init 13 = .ok (.sipush 4096, 3) := by decide +kernel
theorem dX8_init_16 : decode cX8_init 16 = .ok (.newarray .int, 2) := by decide +kernel
theorem dX8_init_18 : decode cX8_init 18 = .ok (.putfield 15, 3) := by decide +kernel
theorem dX8_init_21 : decode cX8_init 21 = .ok (.aload_n 0, 1) := by decide +kernel
theorem dX8_init_22 : decode cX8_init 22 = .ok (.iconst 0, 1) := by decide +kernel
theorem dX8_init_23 : decode cX8_init 23 = .ok (.putfield 18, 3) := by decide +kernel
theorem dX8_init_26 : decode cX8_init 26 = .ok (.return_, 1) := by decide +kernel
theorem dX8_clear_0 : decode cX8_clear 0 = .ok (.aload_n 0, 1) := by decide +kernel
theorem dX8_clear_1 : decode cX8_clear 1 = .ok (.iconst 0, 1) := by decide +kernel
theorem dX8_clear_2 : decode cX8_clear 2 = .ok (.putfield 18, 3) := by decide +kernel
theorem dX8_clear_5 : decode cX8_clear 5 = .ok (.return_, 1) := by decide +kernel
theorem dX8_add_0 : decode cX8_add 0 = .ok (.aload_n 0, 1) := by decide +kernel
theorem dX8_add_1 : decode cX8_add 1 = .ok (.getfield 18, 3) := by decide +kernel
theorem dX8_add_4 : decode cX8_add 4 = .ok (.aload_n 0, 1) := by decide +kernel
theorem dX8_add_5 : decode cX8_add 5 = .ok (.getfield 9, 3) := by decide +kernel
theorem dX8_add_8 : decode cX8_add 8 = .ok (.arraylength, 1) := by decide +kernel
theorem dX8_add_9 : decode cX8_add 9 = .ok (.if_icmp .ge 23, 3) := by decide +kernel
theorem dX8_add_12 : decode cX8_add 12 = .ok (.aload_n 0, 1) := by decide +kernel
theorem dX8_add_13 : decode cX8_add 13 = .ok (.getfield 9, 3) := by decide +kernel
theorem dX8_add_16 : decode cX8_add 16 = .ok (.aload_n 0, 1) := by decide +kernel
theorem dX8_add_17 : decode cX8_add 17 = .ok (.getfield 18, 3) := by decide +kernel
theorem dX8_add_20 : decode cX8_add 20 = .ok (.iload_n 1, 1) := by decide +kernel
theorem dX8_add_21 : decode cX8_add 21 = .ok (.iastore, 1) := by decide +kernel
theorem dX8_add_22 : decode cX8_add 22 = .ok (.aload_n 0, 1) := by decide +kernel
theorem dX8_add_23 : decode cX8_add 23 = .ok (.dup, 1) := by decide +kernel
theorem dX8_add_24 : decode cX8_add 24 = .ok (.getfield 18, 3) := by decide +kernel
theorem dX8_add_27 : decode cX8_add 27 = .ok (.iconst 1, 1) := by decide +kernel
theorem dX8_add_28 : decode cX8_add 28 = .ok (.iadd, 1) := by decide +kernel
theorem dX8_add_29 : decode cX8_add 29 = .ok (.putfield 18, 3) := by decide +kernel
theorem dX8_add_32 : decode cX8_add 32 = .ok (.return_, 1) := by decide +kernel
theorem dX8_heaviest_0 : decode cX8_heaviest 0 = .ok (.iconst 0, 1) := by decide +kernel
theorem dX8_heaviest_1 : decode cX8_heaviest 1 = .ok (.istore_n 1, 1) := by decide +kernel
theorem dX8_heaviest_2 : decode cX8_heaviest 2 = .ok (.iconst 0, 1) := by decide +kernel
theorem dX8_heaviest_3 : decode cX8_heaviest 3 = .ok (.istore_n 2, 1) := by decide +kernel
theorem dX8_heaviest_4 : decode cX8_heaviest 4 = .ok (.iload_n 2, 1) := by decide +kernel
theorem dX8_heaviest_5 : decode cX8_heaviest 5 = .ok (.aload_n 0, 1) := by decide +kernel
theorem dX8_heaviest_6 : decode cX8_heaviest 6 = .ok (.getfield 18, 3) := by decide +kernel
theorem dX8_heaviest_9 : decode cX8_heaviest 9 = .ok (.if_icmp .ge 20, 3) := by decide +kernel
theorem dX8_heaviest_12 : decode cX8_heaviest 12 = .ok (.iload_n 1, 1) := by decide +kernel
theorem dX8_heaviest_13 : decode cX8_heaviest 13 = .ok (.aload_n 0, 1) := by decide +kernel
theorem dX8_heaviest_14 : decode cX8_heaviest 14 = .ok (.getfield 9, 3) := by decide +kernel
theorem dX8_heaviest_17 : decode cX8_heaviest 17 = .ok (.iload_n 2, 1) := by decide +kernel
theorem dX8_heaviest_18 : decode cX8_heaviest 18 = .ok (.iaload, 1) := by decide +kernel
theorem dX8_heaviest_19 : decode cX8_heaviest 19 = .ok (.invokestatic 22, 3) := by decide +kernel
theorem dX8_heaviest_22 : decode cX8_heaviest 22 = .ok (.istore_n 1, 1) := by decide +kernel
theorem dX8_heaviest_23 : decode cX8_heaviest 23 = .ok (.iinc 2 1, 3) := by decide +kernel
theorem dX8_heaviest_26 : decode cX8_heaviest 26 = .ok (.goto (-22), 3) := by decide +kernel
theorem dX8_heaviest_29 : decode cX8_heaviest 29 = .ok (.iload_n 1, 1) := by decide +kernel
theorem dX8_heaviest_30 : decode cX8_heaviest 30 = .ok (.ireturn, 1) := by decide +kernel
theorem dX8_fewestWagons_0 : decode cX8_fewestWagons 0 = .ok (.iconst 1, 1) := by decide +kernel
theorem dX8_fewestWagons_1 : decode cX8_fewestWagons 1 = .ok (.aload_n 0, 1) := by decide +kernel
theorem dX8_fewestWagons_2 : decode cX8_fewestWagons 2 = .ok (.getfield 18, 3) := by decide +kernel
theorem dX8_fewestWagons_5 : decode cX8_fewestWagons 5 = .ok (.ishl, 1) := by decide +kernel
theorem dX8_fewestWagons_6 : decode cX8_fewestWagons 6 = .ok (.istore_n 2, 1) := by decide +kernel
theorem dX8_fewestWagons_7 : decode cX8_fewestWagons 7 = .ok (.aload_n 0, 1) := by decide +kernel
theorem dX8_fewestWagons_8 : decode cX8_fewestWagons 8 = .ok (.getfield 15, 3) := by decide +kernel
theorem dX8_fewestWagons_11 : decode cX8_fewestWagons 11 = .ok (.iconst 0, 1) := by decide +kernel
theorem dX8_fewestWagons_12 : decode cX8_fewestWagons 12 = .ok (.iload_n 1, 1) := by decide +kernel
theorem dX8_fewestWagons_13 : decode cX8_fewestWagons 13 = .ok (.iastore, 1) := by decide +kernel
theorem dX8_fewestWagons_14 : decode cX8_fewestWagons 14 = .ok (.iconst 1, 1) := by decide +kernel
theorem dX8_fewestWagons_15 : decode cX8_fewestWagons 15 = .ok (.istore_n 3, 1) := by decide +kernel
theorem dX8_fewestWagons_16 : decode cX8_fewestWagons 16 = .ok (.iload_n 3, 1) := by decide +kernel
theorem dX8_fewestWagons_17 : decode cX8_fewestWagons 17 = .ok (.iload_n 2, 1) := by decide +kernel
theorem dX8_fewestWagons_18 : decode cX8_fewestWagons 18 = .ok (.if_icmp .ge 21, 3) := by decide +kernel
theorem dX8_fewestWagons_21 : decode cX8_fewestWagons 21 = .ok (.aload_n 0, 1) := by decide +kernel
theorem dX8_fewestWagons_22 : decode cX8_fewestWagons 22 = .ok (.getfield 15, 3) := by decide +kernel
theorem dX8_fewestWagons_25 : decode cX8_fewestWagons 25 = .ok (.iload_n 3, 1) := by decide +kernel
theorem dX8_fewestWagons_26 : decode cX8_fewestWagons 26 = .ok (.aload_n 0, 1) := by decide +kernel
theorem dX8_fewestWagons_27 : decode cX8_fewestWagons 27 = .ok (.iload_n 3, 1) := by decide +kernel
theorem dX8_fewestWagons_28 : decode cX8_fewestWagons 28 = .ok (.iload_n 1, 1) := by decide +kernel
theorem dX8_fewestWagons_29 : decode cX8_fewestWagons 29 = .ok (.invokevirtual 28, 3) := by decide +kernel
theorem dX8_fewestWagons_32 : decode cX8_fewestWagons 32 = .ok (.iastore, 1) := by decide +kernel
theorem dX8_fewestWagons_33 : decode cX8_fewestWagons 33 = .ok (.iinc 3 1, 3) := by decide +kernel
theorem dX8_fewestWagons_36 : decode cX8_fewestWagons 36 = .ok (.goto (-20), 3) := by decide +kernel
theorem dX8_fewestWagons_39 : decode cX8_fewestWagons 39 = .ok (.aload_n 0, 1) := by decide +kernel
theorem dX8_fewestWagons_40 : decode cX8_fewestWagons 40 = .ok (.getfield 15, 3) := by decide +kernel
theorem dX8_fewestWagons_43 : decode cX8_fewestWagons 43 = .ok (.iload_n 2, 1) := by decide +kernel
theorem dX8_fewestWagons_44 : decode cX8_fewestWagons 44 = .ok (.iconst 1, 1) := by decide +kernel
theorem dX8_fewestWagons_45 : decode cX8_fewestWagons 45 = .ok (.isub, 1) := by decide +kernel
theorem dX8_fewestWagons_46 : decode cX8_fewestWagons 46 = .ok (.iaload, 1) := by decide +kernel
theorem dX8_fewestWagons_47 : decode cX8_fewestWagons 47 = .ok (.ldc 31, 2) := by decide +kernel
theorem dX8_fewestWagons_49 : decode cX8_fewestWagons 49 = .ok (.idiv, 1) := by decide +kernel
theorem dX8_fewestWagons_50 : decode cX8_fewestWagons 50 = .ok (.ireturn, 1) := by decide +kernel
theorem dX8_bestFor_0 : decode cX8_bestFor 0 = .ok (.ldc 31, 2) := by decide +kernel
theorem dX8_bestFor_2 : decode cX8_bestFor 2 = .ok (.aload_n 0, 1) := by decide +kernel
theorem dX8_bestFor_3 : decode cX8_bestFor 3 = .ok (.getfield 18, 3) := by decide +kernel
theorem dX8_bestFor_6 : decode cX8_bestFor 6 = .ok (.iconst 1, 1) := by decide +kernel
theorem dX8_bestFor_7 : decode cX8_bestFor 7 = .ok (.iadd, 1) := by decide +kernel
theorem dX8_bestFor_8 : decode cX8_bestFor 8 = .ok (.imul, 1) := by decide +kernel
theorem dX8_bestFor_9 : decode cX8_bestFor 9 = .ok (.istore_n 3, 1) := by decide +kernel
theorem dX8_bestFor_10 : decode cX8_bestFor 10 = .ok (.iconst 0, 1) := by decide +kernel
theorem dX8_bestFor_11 : decode cX8_bestFor 11 = .ok (.istore 4, 2) := by decide +kernel
theorem dX8_bestFor_13 : decode cX8_bestFor 13 = .ok (.iload 4, 2) := by decide +kernel
theorem dX8_bestFor_15 : decode cX8_bestFor 15 = .ok (.aload_n 0, 1) := by decide +kernel
theorem dX8_bestFor_16 : decode cX8_bestFor 16 = .ok (.getfield 18, 3) := by decide +kernel
theorem dX8_bestFor_19 : decode cX8_bestFor 19 = .ok (.if_icmp .ge 90, 3) := by decide +kernel
theorem dX8_bestFor_22 : decode cX8_bestFor 22 = .ok (.iload_n 1, 1) := by decide +kernel
theorem dX8_bestFor_23 : decode cX8_bestFor 23 = .ok (.iconst 1, 1) := by decide +kernel
theorem dX8_bestFor_24 : decode cX8_bestFor 24 = .ok (.iload 4, 2) := by decide +kernel
theorem dX8_bestFor_26 : decode cX8_bestFor 26 = .ok (.ishl, 1) := by decide +kernel
theorem dX8_bestFor_27 : decode cX8_bestFor 27 = .ok (.iand, 1) := by decide +kernel
theorem dX8_bestFor_28 : decode cX8_bestFor 28 = .ok (.ifCond .eq 75, 3) := by decide +kernel
theorem dX8_bestFor_31 : decode cX8_bestFor 31 = .ok (.aload_n 0, 1) := by decide +kernel
theorem dX8_bestFor_32 : decode cX8_bestFor 32 = .ok (.getfield 15, 3) := by decide +kernel
theorem dX8_bestFor_35 : decode cX8_bestFor 35 = .ok (.iload_n 1, 1) := by decide +kernel
theorem dX8_bestFor_36 : decode cX8_bestFor 36 = .ok (.iconst 1, 1) := by decide +kernel
theorem dX8_bestFor_37 : decode cX8_bestFor 37 = .ok (.iload 4, 2) := by decide +kernel
theorem dX8_bestFor_39 : decode cX8_bestFor 39 = .ok (.ishl, 1) := by decide +kernel
theorem dX8_bestFor_40 : decode cX8_bestFor 40 = .ok (.isub, 1) := by decide +kernel
theorem dX8_bestFor_41 : decode cX8_bestFor 41 = .ok (.iaload, 1) := by decide +kernel
theorem dX8_bestFor_42 : decode cX8_bestFor 42 = .ok (.istore 5, 2) := by decide +kernel
theorem dX8_bestFor_44 : decode cX8_bestFor 44 = .ok (.iload 5, 2) := by decide +kernel
theorem dX8_bestFor_46 : decode cX8_bestFor 46 = .ok (.ldc 31, 2) := by decide +kernel
theorem dX8_bestFor_48 : decode cX8_bestFor 48 = .ok (.irem, 1) := by decide +kernel
theorem dX8_bestFor_49 : decode cX8_bestFor 49 = .ok (.istore 6, 2) := by decide +kernel
theorem dX8_bestFor_51 : decode cX8_bestFor 51 = .ok (.iload 6, 2) := by decide +kernel
theorem dX8_bestFor_53 : decode cX8_bestFor 53 = .ok (.aload_n 0, 1) := by decide +kernel
theorem dX8_bestFor_54 : decode cX8_bestFor 54 = .ok (.getfield 9, 3) := by decide +kernel
theorem dX8_bestFor_57 : decode cX8_bestFor 57 = .ok (.iload 4, 2) := by decide +kernel
theorem dX8_bestFor_59 : decode cX8_bestFor 59 = .ok (.iaload, 1) := by decide +kernel
theorem dX8_bestFor_60 : decode cX8_bestFor 60 = .ok (.iadd, 1) := by decide +kernel
theorem dX8_bestFor_61 : decode cX8_bestFor 61 = .ok (.iload_n 2, 1) := by decide +kernel
theorem dX8_bestFor_62 : decode cX8_bestFor 62 = .ok (.if_icmp .gt 16, 3) := by decide +kernel
theorem dX8_bestFor_65 : decode cX8_bestFor 65 = .ok (.iload 5, 2) := by decide +kernel
theorem dX8_bestFor_67 : decode cX8_bestFor 67 = .ok (.aload_n 0, 1) := by decide +kernel
theorem dX8_bestFor_68 : decode cX8_bestFor 68 = .ok (.getfield 9, 3) := by decide +kernel
theorem dX8_bestFor_71 : decode cX8_bestFor 71 = .ok (.iload 4, 2) := by decide +kernel
theorem dX8_bestFor_73 : decode cX8_bestFor 73 = .ok (.iaload, 1) := by decide +kernel
theorem dX8_bestFor_74 : decode cX8_bestFor 74 = .ok (.iadd, 1) := by decide +kernel
theorem dX8_bestFor_75 : decode cX8_bestFor 75 = .ok (.goto 19, 3) := by decide +kernel
theorem dX8_bestFor_78 : decode cX8_bestFor 78 = .ok (.iload 5, 2) := by decide +kernel
theorem dX8_bestFor_80 : decode cX8_bestFor 80 = .ok (.iload 6, 2) := by decide +kernel
theorem dX8_bestFor_82 : decode cX8_bestFor 82 = .ok (.isub, 1) := by decide +kernel
theorem dX8_bestFor_83 : decode cX8_bestFor 83 = .ok (.ldc 31, 2) := by decide +kernel
theorem dX8_bestFor_85 : decode cX8_bestFor 85 = .ok (.iadd, 1) := by decide +kernel
theorem dX8_bestFor_86 : decode cX8_bestFor 86 = .ok (.aload_n 0, 1) := by decide +kernel
theorem dX8_bestFor_87 : decode cX8_bestFor 87 = .ok (.getfield 9, 3) := by decide +kernel
theorem dX8_bestFor_90 : decode cX8_bestFor 90 = .ok (.iload 4, 2) := by decide +kernel
theorem dX8_bestFor_92 : decode cX8_bestFor 92 = .ok (.iaload, 1) := by decide +kernel
theorem dX8_bestFor_93 : decode cX8_bestFor 93 = .ok (.iadd, 1) := by decide +kernel
theorem dX8_bestFor_94 : decode cX8_bestFor 94 = .ok (.istore 7, 2) := by decide +kernel
theorem dX8_bestFor_96 : decode cX8_bestFor 96 = .ok (.iload_n 3, 1) := by decide +kernel
theorem dX8_bestFor_97 : decode cX8_bestFor 97 = .ok (.iload 7, 2) := by decide +kernel
theorem dX8_bestFor_99 : decode cX8_bestFor 99 = .ok (.invokestatic 32, 3) := by decide +kernel
theorem dX8_bestFor_102 : decode cX8_bestFor 102 = .ok (.istore_n 3, 1) := by decide +kernel
theorem dX8_bestFor_103 : decode cX8_bestFor 103 = .ok (.iinc 4 1, 3) := by decide +kernel
theorem dX8_bestFor_106 : decode cX8_bestFor 106 = .ok (.goto (-93), 3) := by decide +kernel
theorem dX8_bestFor_109 : decode cX8_bestFor 109 = .ok (.iload_n 3, 1) := by decide +kernel
theorem dX8_bestFor_110 : decode cX8_bestFor 110 = .ok (.ireturn, 1) := by decide +kernel
theorem dX9_init_0 : decode cX9_init 0 = .ok (.aload_n 0, 1) := by decide +kernel
theorem dX9_init_1 : decode cX9_init 1 = .ok (.invokespecial 3, 3) := by decide +kernel
theorem dX9_init_4 : decode cX9_init 4 = .ok (.aload_n 0, 1) := by decide +kernel
theorem dX9_init_5 : decode cX9_init 5 = .ok (.new 9, 3) := by decide +kernel
theorem dX9_init_8 : decode cX9_init 8 = .ok (.dup, 1) := by decide +kernel
theorem dX9_init_9 : decode cX9_init 9 = .ok (.invokespecial 11, 3) := by decide +kernel
theorem dX9_init_12 : decode cX9_init 12 = .ok (.putfield 12, 3) := by decide +kernel
theorem dX9_init_15 : decode cX9_init 15 = .ok (.aload_n 0, 1) := by decide +kernel
theorem dX9_init_16 : decode cX9_init 16 = .ok (.new 9, 3) := by decide +kernel
theorem dX9_init_19 : decode cX9_init 19 = .ok (.dup, 1) := by decide +kernel
theorem dX9_init_20 : decode cX9_init 20 = .ok (.invokespecial 11, 3) := by decide +kernel
theorem dX9_init_23 : decode cX9_init 23 = .ok (.putfield 18, 3) := by decide +kernel
theorem dX9_init_26 : decode cX9_init 26 = .ok (.aload_n 0, 1) := by decide +kernel
theorem dX9_init_27 : decode cX9_init 27 = .ok (.new 9, 3) := by decide +kernel
theorem dX9_init_30 : decode cX9_init 30 = .ok (.dup, 1) := by decide +kernel
theorem dX9_init_31 : decode cX9_init 31 = .ok (.invokespecial 11, 3) := by decide +kernel
theorem dX9_init_34 : decode cX9_init 34 = .ok (.putfield 21, 3) := by decide +kernel
theorem dX9_init_37 : decode cX9_init 37 = .ok (.aload_n 0, 1) := by decide +kernel
theorem dX9_init_38 : decode cX9_init 38 = .ok (.new 9, 3) := by decide +kernel
theorem dX9_init_41 : decode cX9_init 41 = .ok (.dup, 1) := by decide +kernel
theorem dX9_init_42 : decode cX9_init 42 = .ok (.invokespecial 11, 3) := by decide +kernel
theorem dX9_init_45 : decode cX9_init 45 = .ok (.putfield 24, 3) := by decide +kernel
theorem dX9_init_48 : decode cX9_init 48 = .ok (.aload_n 0, 1) := by decide +kernel
theorem dX9_init_49 : decode cX9_init 49 = .ok (.new 27, 3) := by decide +kernel
theorem dX9_init_52 : decode cX9_init 52 = .ok (.dup, 1) := by decide +kernel
theorem dX9_init_53 : decode cX9_init 53 = .ok (.invokespecial 29, 3) := by decide +kernel
theorem dX9_init_56 : decode cX9_init 56 = .ok (.putfield 30, 3) := by decide +kernel
theorem dX9_init_59 : decode cX9_init 59 = .ok (.aload_n 0, 1) := by decide +kernel
theorem dX9_init_60 : decode cX9_init 60 = .ok (.getstatic 34, 3) := by decide +kernel
theorem dX9_init_63 : decode cX9_init 63 = .ok (.invokevirtual 38, 3) := by decide +kernel
theorem dX9_init_66 : decode cX9_init 66 = .ok (.checkcast 39, 3) := by decide +kernel
theorem dX9_init_69 : decode cX9_init 69 = .ok (.putfield 43, 3) := by decide +kernel
theorem dX9_init_72 : decode cX9_init 72 = .ok (.aload_n 0, 1) := by decide +kernel
theorem dX9_init_73 : decode cX9_init 73 = .ok (.bipush 100, 2) := by decide +kernel
theorem dX9_init_75 : decode cX9_init 75 = .ok (.anewarray 46, 3) := by decide +kernel
theorem dX9_init_78 : decode cX9_init 78 = .ok (.putfield 48, 3) := by decide +kernel
theorem dX9_init_81 : decode cX9_init 81 = .ok (.aload_n 0, 1) := by decide +kernel
theorem dX9_init_82 : decode cX9_init 82 = .ok (.bipush 100, 2) := by decide +kernel
theorem dX9_init_84 : decode cX9_init 84 = .ok (.anewarray 52, 3) := by decide +kernel
theorem dX9_init_87 : decode cX9_init 87 = .ok (.putfield 54, 3) := by decide +kernel
theorem dX9_init_90 : decode cX9_init 90 = .ok (.aload_n 0, 1) := by decide +kernel
theorem dX9_init_91 : decode cX9_init 91 = .ok (.iconst 0, 1) := by decide +kernel
theorem dX9_init_92 : decode cX9_init 92 = .ok (.putfield 58, 3) := by decide +kernel
theorem dX9_init_95 : decode cX9_init 95 = .ok (.aload_n 0, 1) := by decide +kernel
theorem dX9_init_96 : decode cX9_init 96 = .ok (.iconst 0, 1) := by decide +kernel
theorem dX9_init_97 : decode cX9_init 97 = .ok (.putfield 62, 3) := by decide +kernel
theorem dX9_init_100 : decode cX9_init 100 = .ok (.aload_n 0, 1) := by decide +kernel
theorem dX9_init_101 : decode cX9_init 101 = .ok (.new 9, 3) := by decide +kernel
theorem dX9_init_104 : decode cX9_init 104 = .ok (.dup, 1) := by decide +kernel
theorem dX9_init_105 : decode cX9_init 105 = .ok (.invokespecial 11, 3) := by decide +kernel
theorem dX9_init_108 : decode cX9_init 108 = .ok (.putfield 65, 3) := by decide +kernel
theorem dX9_init_111 : decode cX9_init 111 = .ok (.aload_n 0, 1) := by decide +kernel
theorem dX9_init_112 : decode cX9_init 112 = .ok (.new 9, 3) := by decide +kernel
theorem dX9_init_115 : decode cX9_init 115 = .ok (.dup, 1) := by decide +kernel
theorem dX9_init_116 : decode cX9_init 116 = .ok (.invokespecial 11, 3) := by decide +kernel
theorem dX9_init_119 : decode cX9_init 119 = .ok (.putfield 68, 3) := by decide +kernel
theorem dX9_init_122 : decode cX9_init 122 = .ok (.iconst 0, 1) := by decide +kernel
theorem dX9_init_123 : decode cX9_init 123 = .ok (.istore_n 1, 1) := by decide +kernel
theorem dX9_init_124 : decode cX9_init 124 = .ok (.iload_n 1, 1) := by decide +kernel
theorem dX9_init_125 : decode cX9_init 125 = .ok (.aload_n 0, 1) := by decide +kernel
