theorem dX11_laysAside_13 : decode cX11_laysAside 13 = .ok (.iload_n 1, 1) := by decide +kernel
theorem dX11_laysAside_14 : decode cX11_laysAside 14 = .ok (.aload_n 0, 1) := by decide +kernel
theorem dX11_laysAside_15 : decode cX11_laysAside 15 = .ok (.getfield 7, 3) := by decide +kernel
theorem dX11_laysAside_18 : decode cX11_laysAside 18 = .ok (.iload_n 1, 1) := by decide +kernel
theorem dX11_laysAside_19 : decode cX11_laysAside 19 = .ok (.iaload, 1) := by decide +kernel
theorem dX11_laysAside_20 : decode cX11_laysAside 20 = .ok (.iastore, 1) := by decide +kernel
theorem dX11_laysAside_21 : decode cX11_laysAside 21 = .ok (.iinc 1 1, 3) := by decide +kernel
theorem dX11_laysAside_24 : decode cX11_laysAside 24 = .ok (.goto (-22), 3) := by decide +kernel
theorem dX11_laysAside_27 : decode cX11_laysAside 27 = .ok (.return_, 1) := by decide +kernel
theorem dX11_bringsBack_0 : decode cX11_bringsBack 0 = .ok (.iconst 0, 1) := by decide +kernel
theorem dX11_bringsBack_1 : decode cX11_bringsBack 1 = .ok (.istore_n 1, 1) := by decide +kernel
theorem dX11_bringsBack_2 : decode cX11_bringsBack 2 = .ok (.iload_n 1, 1) := by decide +kernel
theorem dX11_bringsBack_3 : decode cX11_bringsBack 3 = .ok (.sipush 1254, 3) := by decide +kernel
theorem dX11_bringsBack_6 : decode cX11_bringsBack 6 = .ok (.if_icmp .ge 21, 3) := by decide +kernel
theorem dX11_bringsBack_9 : decode cX11_bringsBack 9 = .ok (.aload_n 0, 1) := by decide +kernel
theorem dX11_bringsBack_10 : decode cX11_bringsBack 10 = .ok (.getfield 7, 3) := by decide +kernel
theorem dX11_bringsBack_13 : decode cX11_bringsBack 13 = .ok (.iload_n 1, 1) := by decide +kernel
theorem dX11_bringsBack_14 : decode cX11_bringsBack 14 = .ok (.aload_n 0, 1) := by decide +kernel
theorem dX11_bringsBack_15 : decode cX11_bringsBack 15 = .ok (.getfield 16, 3) := by decide +kernel
theorem dX11_bringsBack_18 : decode cX11_bringsBack 18 = .ok (.iload_n 1, 1) := by decide +kernel
theorem dX11_bringsBack_19 : decode cX11_bringsBack 19 = .ok (.iaload, 1) := by decide +kernel
theorem dX11_bringsBack_20 : decode cX11_bringsBack 20 = .ok (.iastore, 1) := by decide +kernel
theorem dX11_bringsBack_21 : decode cX11_bringsBack 21 = .ok (.iinc 1 1, 3) := by decide +kernel
theorem dX11_bringsBack_24 : decode cX11_bringsBack 24 = .ok (.goto (-22), 3) := by decide +kernel
theorem dX11_bringsBack_27 : decode cX11_bringsBack 27 = .ok (.return_, 1) := by decide +kernel
theorem dX11_setting_0 : decode cX11_setting 0 = .ok (.aload_n 0, 1) := by decide +kernel
theorem dX11_setting_1 : decode cX11_setting 1 = .ok (.getfield 7, 3) := by decide +kernel
theorem dX11_setting_4 : decode cX11_setting 4 = .ok (.bipush 45, 2) := by decide +kernel
theorem dX11_setting_6 : decode cX11_setting 6 = .ok (.iload_n 1, 1) := by decide +kernel
theorem dX11_setting_7 : decode cX11_setting 7 = .ok (.iadd, 1) := by decide +kernel
theorem dX11_setting_8 : decode cX11_setting 8 = .ok (.iaload, 1) := by decide +kernel
theorem dX11_setting_9 : decode cX11_setting 9 = .ok (.ireturn, 1) := by decide +kernel
theorem dX11_weight_0 : decode cX11_weight 0 = .ok (.aload_n 0, 1) := by decide +kernel
theorem dX11_weight_1 : decode cX11_weight 1 = .ok (.getfield 7, 3) := by decide +kernel
theorem dX11_weight_4 : decode cX11_weight 4 = .ok (.iload_n 1, 1) := by decide +kernel
theorem dX11_weight_5 : decode cX11_weight 5 = .ok (.iaload, 1) := by decide +kernel
theorem dX11_weight_6 : decode cX11_weight 6 = .ok (.aload_n 0, 1) := by decide +kernel
theorem dX11_weight_7 : decode cX11_weight 7 = .ok (.getfield 7, 3) := by decide +kernel
theorem dX11_weight_10 : decode cX11_weight 10 = .ok (.iload_n 1, 1) := by decide +kernel
theorem dX11_weight_11 : decode cX11_weight 11 = .ok (.iconst 1, 1) := by decide +kernel
theorem dX11_weight_12 : decode cX11_weight 12 = .ok (.iadd, 1) := by decide +kernel
theorem dX11_weight_13 : decode cX11_weight 13 = .ok (.iaload, 1) := by decide +kernel
theorem dX11_weight_14 : decode cX11_weight 14 = .ok (.iadd, 1) := by decide +kernel
theorem dX11_weight_15 : decode cX11_weight 15 = .ok (.ireturn, 1) := by decide +kernel
theorem dX11_alloyOf_0 : decode cX11_alloyOf 0 = .ok (.iload_n 0, 1) := by decide +kernel
theorem dX11_alloyOf_1 : decode cX11_alloyOf 1 = .ok (.iload_n 1, 1) := by decide +kernel
theorem dX11_alloyOf_2 : decode cX11_alloyOf 2 = .ok (.iadd, 1) := by decide +kernel
theorem dX11_alloyOf_3 : decode cX11_alloyOf 3 = .ok (.ifCond .ne 7, 3) := by decide +kernel
theorem dX11_alloyOf_6 : decode cX11_alloyOf 6 = .ok (.iconst 0, 1) := by decide +kernel
theorem dX11_alloyOf_7 : decode cX11_alloyOf 7 = .ok (.goto 15, 3) := by decide +kernel
theorem dX11_alloyOf_10 : decode cX11_alloyOf 10 = .ok (.ldc2_w 47, 3) := by decide +kernel
theorem dX11_alloyOf_13 : decode cX11_alloyOf 13 = .ok (.iload_n 1, 1) := by decide +kernel
theorem dX11_alloyOf_14 : decode cX11_alloyOf 14 = .ok (.i2l, 1) := by decide +kernel
theorem dX11_alloyOf_15 : decode cX11_alloyOf 15 = .ok (.lmul, 1) := by decide +kernel
theorem dX11_alloyOf_16 : decode cX11_alloyOf 16 = .ok (.iload_n 0, 1) := by decide +kernel
theorem dX11_alloyOf_17 : decode cX11_alloyOf 17 = .ok (.iload_n 1, 1) := by decide +kernel
theorem dX11_alloyOf_18 : decode cX11_alloyOf 18 = .ok (.iadd, 1) := by decide +kernel
theorem dX11_alloyOf_19 : decode cX11_alloyOf 19 = .ok (.i2l, 1) := by decide +kernel
theorem dX11_alloyOf_20 : decode cX11_alloyOf 20 = .ok (.ldiv, 1) := by decide +kernel
theorem dX11_alloyOf_21 : decode cX11_alloyOf 21 = .ok (.l2i, 1) := by decide +kernel
theorem dX11_alloyOf_22 : decode cX11_alloyOf 22 = .ok (.ireturn, 1) := by decide +kernel
theorem dX11_alloy_0 : decode cX11_alloy 0 = .ok (.aload_n 0, 1) := by decide +kernel
theorem dX11_alloy_1 : decode cX11_alloy 1 = .ok (.getfield 7, 3) := by decide +kernel
theorem dX11_alloy_4 : decode cX11_alloy 4 = .ok (.iload_n 1, 1) := by decide +kernel
theorem dX11_alloy_5 : decode cX11_alloy 5 = .ok (.iaload, 1) := by decide +kernel
theorem dX11_alloy_6 : decode cX11_alloy 6 = .ok (.aload_n 0, 1) := by decide +kernel
theorem dX11_alloy_7 : decode cX11_alloy 7 = .ok (.getfield 7, 3) := by decide +kernel
theorem dX11_alloy_10 : decode cX11_alloy 10 = .ok (.iload_n 1, 1) := by decide +kernel
theorem dX11_alloy_11 : decode cX11_alloy 11 = .ok (.iconst 1, 1) := by decide +kernel
theorem dX11_alloy_12 : decode cX11_alloy 12 = .ok (.iadd, 1) := by decide +kernel
theorem dX11_alloy_13 : decode cX11_alloy 13 = .ok (.iaload, 1) := by decide +kernel
theorem dX11_alloy_14 : decode cX11_alloy 14 = .ok (.invokestatic 49, 3) := by decide +kernel
theorem dX11_alloy_17 : decode cX11_alloy 17 = .ok (.ireturn, 1) := by decide +kernel
theorem dX11_copperIn_0 : decode cX11_copperIn 0 = .ok (.iload_n 0, 1) := by decide +kernel
theorem dX11_copperIn_1 : decode cX11_copperIn 1 = .ok (.ifCond .ne 7, 3) := by decide +kernel
theorem dX11_copperIn_4 : decode cX11_copperIn 4 = .ok (.iconst 0, 1) := by decide +kernel
theorem dX11_copperIn_5 : decode cX11_copperIn 5 = .ok (.goto 14, 3) := by decide +kernel
theorem dX11_copperIn_8 : decode cX11_copperIn 8 = .ok (.iload_n 0, 1) := by decide +kernel
theorem dX11_copperIn_9 : decode cX11_copperIn 9 = .ok (.i2l, 1) := by decide +kernel
theorem dX11_copperIn_10 : decode cX11_copperIn 10 = .ok (.iload_n 1, 1) := by decide +kernel
theorem dX11_copperIn_11 : decode cX11_copperIn 11 = .ok (.i2l, 1) := by decide +kernel
theorem dX11_copperIn_12 : decode cX11_copperIn 12 = .ok (.lmul, 1) := by decide +kernel
theorem dX11_copperIn_13 : decode cX11_copperIn 13 = .ok (.iload_n 1, 1) := by decide +kernel
theorem dX11_copperIn_14 : decode cX11_copperIn 14 = .ok (.iload_n 2, 1) := by decide +kernel
theorem dX11_copperIn_15 : decode cX11_copperIn 15 = .ok (.iadd, 1) := by decide +kernel
theorem dX11_copperIn_16 : decode cX11_copperIn 16 = .ok (.i2l, 1) := by decide +kernel
theorem dX11_copperIn_17 : decode cX11_copperIn 17 = .ok (.ldiv, 1) := by decide +kernel
theorem dX11_copperIn_18 : decode cX11_copperIn 18 = .ok (.l2i, 1) := by decide +kernel
theorem dX11_copperIn_19 : decode cX11_copperIn 19 = .ok (.ireturn, 1) := by decide +kernel
theorem dX11_moves_0 : decode cX11_moves 0 = .ok (.aload_n 0, 1) := by decide +kernel
theorem dX11_moves_1 : decode cX11_moves 1 = .ok (.getfield 7, 3) := by decide +kernel
theorem dX11_moves_4 : decode cX11_moves 4 = .ok (.iload_n 1, 1) := by decide +kernel
theorem dX11_moves_5 : decode cX11_moves 5 = .ok (.dup2, 1) := by decide +kernel
theorem dX11_moves_6 : decode cX11_moves 6 = .ok (.iaload, 1) := by decide +kernel
theorem dX11_moves_7 : decode cX11_moves 7 = .ok (.iload_n 3, 1) := by decide +kernel
theorem dX11_moves_8 : decode cX11_moves 8 = .ok (.isub, 1) := by decide +kernel
theorem dX11_moves_9 : decode cX11_moves 9 = .ok (.iastore, 1) := by decide +kernel
theorem dX11_moves_10 : decode cX11_moves 10 = .ok (.aload_n 0, 1) := by decide +kernel
theorem dX11_moves_11 : decode cX11_moves 11 = .ok (.getfield 7, 3) := by decide +kernel
theorem dX11_moves_14 : decode cX11_moves 14 = .ok (.iload_n 1, 1) := by decide +kernel
theorem dX11_moves_15 : decode cX11_moves 15 = .ok (.iconst 1, 1) := by decide +kernel
theorem dX11_moves_16 : decode cX11_moves 16 = .ok (.iadd, 1) := by decide +kernel
theorem dX11_moves_17 : decode cX11_moves 17 = .ok (.dup2, 1) := by decide +kernel
theorem dX11_moves_18 : decode cX11_moves 18 = .ok (.iaload, 1) := by decide +kernel
theorem dX11_moves_19 : decode cX11_moves 19 = .ok (.iload 4, 2) := by decide +kernel
theorem dX11_moves_21 : decode cX11_moves 21 = .ok (.isub, 1) := by decide +kernel
theorem dX11_moves_22 : decode cX11_moves 22 = .ok (.iastore, 1) := by decide +kernel
theorem dX11_moves_23 : decode cX11_moves 23 = .ok (.aload_n 0, 1) := by decide +kernel
theorem dX11_moves_24 : decode cX11_moves 24 = .ok (.getfield 7, 3) := by decide +kernel
theorem dX11_moves_27 : decode cX11_moves 27 = .ok (.iload_n 2, 1) := by decide +kernel
theorem dX11_moves_28 : decode cX11_moves 28 = .ok (.dup2, 1) := by decide +kernel
theorem dX11_moves_29 : decode cX11_moves 29 = .ok (.iaload, 1) := by decide +kernel
theorem dX11_moves_30 : decode cX11_moves 30 = .ok (.iload_n 3, 1) := by decide +kernel
theorem dX11_moves_31 : decode cX11_moves 31 = .ok (.iadd, 1) := by decide +kernel
theorem dX11_moves_32 : decode cX11_moves 32 = .ok (.iastore, 1) := by decide +kernel
theorem dX11_moves_33 : decode cX11_moves 33 = .ok (.aload_n 0, 1) := by decide +kernel
theorem dX11_moves_34 : decode cX11_moves 34 = .ok (.getfield 7, 3) := by decide +kernel
theorem dX11_moves_37 : decode cX11_moves 37 = .ok (.iload_n 2, 1) := by decide +kernel
theorem dX11_moves_38 : decode cX11_moves 38 = .ok (.iconst 1, 1) := by decide +kernel
theorem dX11_moves_39 : decode cX11_moves 39 = .ok (.iadd, 1) := by decide +kernel
theorem dX11_moves_40 : decode cX11_moves 40 = .ok (.dup2, 1) := by decide +kernel
theorem dX11_moves_41 : decode cX11_moves 41 = .ok (.iaload, 1) := by decide +kernel
theorem dX11_moves_42 : decode cX11_moves 42 = .ok (.iload 4, 2) := by decide +kernel
theorem dX11_moves_44 : decode cX11_moves 44 = .ok (.iadd, 1) := by decide +kernel
theorem dX11_moves_45 : decode cX11_moves 45 = .ok (.iastore, 1) := by decide +kernel
theorem dX11_moves_46 : decode cX11_moves 46 = .ok (.return_, 1) := by decide +kernel
theorem dX11_draws_0 : decode cX11_draws 0 = .ok (.iload_n 3, 1) := by decide +kernel
theorem dX11_draws_1 : decode cX11_draws 1 = .ok (.aload_n 0, 1) := by decide +kernel
theorem dX11_draws_2 : decode cX11_draws 2 = .ok (.getfield 7, 3) := by decide +kernel
theorem dX11_draws_5 : decode cX11_draws 5 = .ok (.iload_n 1, 1) := by decide +kernel
theorem dX11_draws_6 : decode cX11_draws 6 = .ok (.iaload, 1) := by decide +kernel
theorem dX11_draws_7 : decode cX11_draws 7 = .ok (.aload_n 0, 1) := by decide +kernel
theorem dX11_draws_8 : decode cX11_draws 8 = .ok (.getfield 7, 3) := by decide +kernel
theorem dX11_draws_11 : decode cX11_draws 11 = .ok (.iload_n 1, 1) := by decide +kernel
theorem dX11_draws_12 : decode cX11_draws 12 = .ok (.iconst 1, 1) := by decide +kernel
theorem dX11_draws_13 : decode cX11_draws 13 = .ok (.iadd, 1) := by decide +kernel
theorem dX11_draws_14 : decode cX11_draws 14 = .ok (.iaload, 1) := by decide +kernel
theorem dX11_draws_15 : decode cX11_draws 15 = .ok (.invokestatic 53, 3) := by decide +kernel
theorem dX11_draws_18 : decode cX11_draws 18 = .ok (.istore 4, 2) := by decide +kernel
theorem dX11_draws_20 : decode cX11_draws 20 = .ok (.aload_n 0, 1) := by decide +kernel
theorem dX11_draws_21 : decode cX11_draws 21 = .ok (.iload_n 1, 1) := by decide +kernel
theorem dX11_draws_22 : decode cX11_draws 22 = .ok (.iload_n 2, 1) := by decide +kernel
theorem dX11_draws_23 : decode cX11_draws 23 = .ok (.iload 4, 2) := by decide +kernel
theorem dX11_draws_25 : decode cX11_draws 25 = .ok (.iload_n 3, 1) := by decide +kernel
theorem dX11_draws_26 : decode cX11_draws 26 = .ok (.iload 4, 2) := by decide +kernel
theorem dX11_draws_28 : decode cX11_draws 28 = .ok (.isub, 1) := by decide +kernel
theorem dX11_draws_29 : decode cX11_draws 29 = .ok (.invokevirtual 57, 3) := by decide +kernel
theorem dX11_draws_32 : decode cX11_draws 32 = .ok (.return_, 1) := by decide +kernel
theorem dX11_burnt_0 : decode cX11_burnt 0 = .ok (.iload_n 1, 1) := by decide +kernel
theorem dX11_burnt_1 : decode cX11_burnt 1 = .ok (.aload_n 0, 1) := by decide +kernel
theorem dX11_burnt_2 : decode cX11_burnt 2 = .ok (.iload_n 2, 1) := by decide +kernel
theorem dX11_burnt_3 : decode cX11_burnt 3 = .ok (.invokevirtual 61, 3) := by decide +kernel
theorem dX11_burnt_6 : decode cX11_burnt 6 = .ok (.imul, 1) := by decide +kernel
theorem dX11_burnt_7 : decode cX11_burnt 7 = .ok (.sipush 999, 3) := by decide +kernel
theorem dX11_burnt_10 : decode cX11_burnt 10 = .ok (.iadd, 1) := by decide +kernel
theorem dX11_burnt_11 : decode cX11_burnt 11 = .ok (.sipush 1000, 3) := by decide +kernel
theorem dX11_burnt_14 : decode cX11_burnt 14 = .ok (.idiv, 1) := by decide +kernel
theorem dX11_burnt_15 : decode cX11_burnt 15 = .ok (.ireturn, 1) := by decide +kernel
theorem dX11_burns_0 : decode cX11_burns 0 = .ok (.aload_n 0, 1) := by decide +kernel
theorem dX11_burns_1 : decode cX11_burns 1 = .ok (.iload_n 1, 1) := by decide +kernel
theorem dX11_burns_2 : decode cX11_burns 2 = .ok (.iconst 4, 1) := by decide +kernel
theorem dX11_burns_3 : decode cX11_burns 3 = .ok (.aload_n 0, 1) := by decide +kernel
theorem dX11_burns_4 : decode cX11_burns 4 = .ok (.aload_n 0, 1) := by decide +kernel
theorem dX11_burns_5 : decode cX11_burns 5 = .ok (.getfield 7, 3) := by decide +kernel
theorem dX11_burns_8 : decode cX11_burns 8 = .ok (.iload_n 1, 1) := by decide +kernel
theorem dX11_burns_9 : decode cX11_burns 9 = .ok (.iaload, 1) := by decide +kernel
theorem dX11_burns_10 : decode cX11_burns 10 = .ok (.iconst 0, 1) := by decide +kernel
theorem dX11_burns_11 : decode cX11_burns 11 = .ok (.invokevirtual 65, 3) := by decide +kernel
theorem dX11_burns_14 : decode cX11_burns 14 = .ok (.aload_n 0, 1) := by decide +kernel
theorem dX11_burns_15 : decode cX11_burns 15 = .ok (.aload_n 0, 1) := by decide +kernel
theorem dX11_burns_16 : decode cX11_burns 16 = .ok (.getfield 7, 3) := by decide +kernel
theorem dX11_burns_19 : decode cX11_burns 19 = .ok (.iload_n 1, 1) := by decide +kernel
theorem dX11_burns_20 : decode cX11_burns 20 = .ok (.iconst 1, 1) := by decide +kernel
theorem dX11_burns_21 : decode cX11_burns 21 = .ok (.iadd, 1) := by decide +kernel
theorem dX11_burns_22 : decode cX11_burns 22 = .ok (.iaload, 1) := by decide +kernel
theorem dX11_burns_23 : decode cX11_burns 23 = .ok (.iconst 1, 1) := by decide +kernel
theorem dX11_burns_24 : decode cX11_burns 24 = .ok (.invokevirtual 65, 3) := by decide +kernel
theorem dX11_burns_27 : decode cX11_burns 27 = .ok (.invokevirtual 57, 3) := by decide +kernel
theorem dX11_burns_30 : decode cX11_burns 30 = .ok (.return_, 1) := by decide +kernel
theorem dX11_isLot_0 : decode cX11_isLot 0 = .ok (.iload_n 1, 1) := by decide +kernel
theorem dX11_isLot_1 : decode cX11_isLot 1 = .ok (.iconst 0, 1) := by decide +kernel
theorem dX11_isLot_2 : decode cX11_isLot 2 = .ok (.aload_n 0, 1) := by decide +kernel
theorem dX11_isLot_3 : decode cX11_isLot 3 = .ok (.getfield 7, 3) := by decide +kernel
theorem dX11_isLot_6 : decode cX11_isLot 6 = .ok (.bipush 8, 2) := by decide +kernel
theorem dX11_isLot_8 : decode cX11_isLot 8 = .ok (.iaload, 1) := by decide +kernel
theorem dX11_isLot_9 : decode cX11_isLot 9 = .ok (.iconst 1, 1) := by decide +kernel
theorem dX11_isLot_10 : decode cX11_isLot 10 = .ok (.isub, 1) := by decide +kernel
theorem dX11_isLot_11 : decode cX11_isLot 11 = .ok (.invokestatic 68, 3) := by decide +kernel
theorem dX11_isLot_14 : decode cX11_isLot 14 = .ok (.ireturn, 1) := by decide +kernel
theorem dX11_comes_0 : decode cX11_comes 0 = .ok (.aload_n 0, 1) := by decide +kernel
theorem dX11_comes_1 : decode cX11_comes 1 = .ok (.getfield 7, 3) := by decide +kernel
theorem dX11_comes_4 : decode cX11_comes 4 = .ok (.bipush 8, 2) := by decide +kernel
theorem dX11_comes_6 : decode cX11_comes 6 = .ok (.iaload, 1) := by decide +kernel
theorem dX11_comes_7 : decode cX11_comes 7 = .ok (.bipush 12, 2) := by decide +kernel
theorem dX11_comes_9 : decode cX11_comes 9 = .ok (.if_icmp .ne 6, 3) := by decide +kernel
theorem dX11_comes_12 : decode cX11_comes 12 = .ok (.bipush 42, 2) := by decide +kernel
theorem dX11_comes_14 : decode cX11_comes 14 = .ok (.ireturn, 1) := by decide +kernel
theorem dX11_comes_15 : decode cX11_comes 15 = .ok (.bipush 9, 2) := by decide +kernel
theorem dX11_comes_17 : decode cX11_comes 17 = .ok (.iconst 3, 1) := by decide +kernel
theorem dX11_comes_18 : decode cX11_comes 18 = .ok (.aload_n 0, 1) := by decide +kernel
theorem dX11_comes_19 : decode cX11_comes 19 = .ok (.getfield 7, 3) := by decide +kernel
theorem dX11_comes_22 : decode cX11_comes 22 = .ok (.bipush 8, 2) := by decide +kernel
theorem dX11_comes_24 : decode cX11_comes 24 = .ok (.iaload, 1) := by decide +kernel
theorem dX11_comes_25 : decode cX11_comes 25 = .ok (.imul, 1) := by decide +kernel
theorem dX11_comes_26 : decode cX11_comes 26 = .ok (.iadd, 1) := by decide +kernel
theorem dX11_comes_27 : decode cX11_comes 27 = .ok (.istore_n 2, 1) := by decide +kernel
theorem dX11_comes_28 : decode cX11_comes 28 = .ok (.aload_n 0, 1) := by decide +kernel
theorem dX11_comes_29 : decode cX11_comes 29 = .ok (.getfield 7, 3) := by decide +kernel
theorem dX11_comes_32 : decode cX11_comes 32 = .ok (.bipush 8, 2) := by decide +kernel
theorem dX11_comes_34 : decode cX11_comes 34 = .ok (.dup2, 1) := by decide +kernel
theorem dX11_comes_35 : decode cX11_comes 35 = .ok (.iaload, 1) := by decide +kernel
theorem dX11_comes_36 : decode cX11_comes 36 = .ok (.iconst 1, 1) := by decide +kernel
theorem dX11_comes_37 : decode cX11_comes 37 = .ok (.iadd, 1) := by decide +kernel
theorem dX11_comes_38 : decode cX11_comes 38 = .ok (.iastore, 1) := by decide +kernel
theorem dX11_comes_39 : decode cX11_comes 39 = .ok (.aload_n 0, 1) := by decide +kernel
theorem dX11_comes_40 : decode cX11_comes 40 = .ok (.getfield 7, 3) := by decide +kernel
theorem dX11_comes_43 : decode cX11_comes 43 = .ok (.iload_n 2, 1) := by decide +kernel
theorem dX11_comes_44 : decode cX11_comes 44 = .ok (.iconst 0, 1) := by decide +kernel
theorem dX11_comes_45 : decode cX11_comes 45 = .ok (.iastore, 1) := by decide +kernel
theorem dX11_comes_46 : decode cX11_comes 46 = .ok (.aload_n 0, 1) := by decide +kernel
theorem dX11_comes_47 : decode cX11_comes 47 = .ok (.getfield 7, 3) := by decide +kernel
theorem dX11_comes_50 : decode cX11_comes 50 = .ok (.iload_n 2, 1) := by decide +kernel
theorem dX11_comes_51 : decode cX11_comes 51 = .ok (.iconst 1, 1) := by decide +kernel
theorem dX11_comes_52 : decode cX11_comes 52 = .ok (.iadd, 1) := by decide +kernel
theorem dX11_comes_53 : decode cX11_comes 53 = .ok (.iconst 0, 1) := by decide +kernel
theorem dX11_comes_54 : decode cX11_comes 54 = .ok (.iastore, 1) := by decide +kernel
theorem dX11_comes_55 : decode cX11_comes 55 = .ok (.aload_n 0, 1) := by decide +kernel
theorem dX11_comes_56 : decode cX11_comes 56 = .ok (.getfield 7, 3) := by decide +kernel
theorem dX11_comes_59 : decode cX11_comes 59 = .ok (.iload_n 2, 1) := by decide +kernel
theorem dX11_comes_60 : decode cX11_comes 60 = .ok (.iconst 2, 1) := by decide +kernel
theorem dX11_comes_61 : decode cX11_comes 61 = .ok (.iadd, 1) := by decide +kernel
theorem dX11_comes_62 : decode cX11_comes 62 = .ok (.iload_n 1, 1) := by decide +kernel
theorem dX11_comes_63 : decode cX11_comes 63 = .ok (.iastore, 1) := by decide +kernel
theorem dX11_comes_64 : decode cX11_comes 64 = .ok (.iload_n 2, 1) := by decide +kernel
theorem dX11_comes_65 : decode cX11_comes 65 = .ok (.ireturn, 1) := by decide +kernel
theorem dX11_scraps_0 : decode cX11_scraps 0 = .ok (.iload_n 2, 1) := by decide +kernel
theorem dX11_scraps_1 : decode cX11_scraps 1 = .ok (.ifCond .le 14, 3) := by decide +kernel
theorem dX11_scraps_4 : decode cX11_scraps 4 = .ok (.aload_n 0, 1) := by decide +kernel
theorem dX11_scraps_5 : decode cX11_scraps 5 = .ok (.iload_n 1, 1) := by decide +kernel
theorem dX11_scraps_6 : decode cX11_scraps 6 = .ok (.aload_n 0, 1) := by decide +kernel
theorem dX11_scraps_7 : decode cX11_scraps 7 = .ok (.iload_n 3, 1) := by decide +kernel
theorem dX11_scraps_8 : decode cX11_scraps 8 = .ok (.invokevirtual 72, 3) := by decide +kernel
theorem dX11_scraps_11 : decode cX11_scraps 11 = .ok (.iload_n 2, 1) := by decide +kernel
theorem dX11_scraps_12 : decode cX11_scraps 12 = .ok (.invokevirtual 75, 3) := by decide +kernel
theorem dX11_scraps_15 : decode cX11_scraps 15 = .ok (.return_, 1) := by decide +kernel
theorem dX11_isMetal_0 : decode cX11_isMetal 0 = .ok (.iload_n 0, 1) := by decide +kernel
theorem dX11_isMetal_1 : decode cX11_isMetal 1 = .ok (.iconst 0, 1) := by decide +kernel
theorem dX11_isMetal_2 : decode cX11_isMetal 2 = .ok (.iconst 1, 1) := by decide +kernel
theorem dX11_isMetal_3 : decode cX11_isMetal 3 = .ok (.invokestatic 68, 3) := by decide +kernel
theorem dX11_isMetal_6 : decode cX11_isMetal 6 = .ok (.ireturn, 1) := by decide +kernel
theorem dX11_buy_0 : decode cX11_buy 0 = .ok (.iload_n 1, 1) := by decide +kernel
theorem dX11_buy_1 : decode cX11_buy 1 = .ok (.invokestatic 79, 3) := by decide +kernel
theorem dX11_buy_4 : decode cX11_buy 4 = .ok (.ifCond .eq 13, 3) := by decide +kernel
theorem dX11_buy_7 : decode cX11_buy 7 = .ok (.iload_n 2, 1) := by decide +kernel
theorem dX11_buy_8 : decode cX11_buy 8 = .ok (.iconst 1, 1) := by decide +kernel
theorem dX11_buy_9 : decode cX11_buy 9 = .ok (.ldc 83, 2) := by decide +kernel
theorem dX11_buy_11 : decode cX11_buy 11 = .ok (.invokestatic 68, 3) := by decide +kernel
theorem dX11_buy_14 : decode cX11_buy 14 = .ok (.ifCond .ne 5, 3) := by decide +kernel
theorem dX11_buy_17 : decode cX11_buy 17 = .ok (.iconst (-1), 1) := by decide +kernel
theorem dX11_buy_18 : decode cX11_buy 18 = .ok (.ireturn, 1) := by decide +kernel
theorem dX11_buy_19 : decode cX11_buy 19 = .ok (.aload_n 0, 1) := by decide +kernel
theorem dX11_buy_20 : decode cX11_buy 20 = .ok (.getfield 7, 3) := by decide +kernel
theorem dX11_buy_23 : decode cX11_buy 23 = .ok (.iconst 0, 1) := by decide +kernel
theorem dX11_buy_24 : decode cX11_buy 24 = .ok (.iload_n 1, 1) := by decide +kernel
theorem dX11_buy_25 : decode cX11_buy 25 = .ok (.iadd, 1) := by decide +kernel
theorem dX11_buy_26 : decode cX11_buy 26 = .ok (.iaload, 1) := by decide +kernel
theorem dX11_buy_27 : decode cX11_buy 27 = .ok (.iload_n 2, 1) := by decide +kernel
theorem dX11_buy_28 : decode cX11_buy 28 = .ok (.iadd, 1) := by decide +kernel
theorem dX11_buy_29 : decode cX11_buy 29 = .ok (.ldc 84, 2) := by decide +kernel
theorem dX11_buy_31 : decode cX11_buy 31 = .ok (.if_icmp .le 6, 3) := by decide +kernel
theorem dX11_buy_34 : decode cX11_buy 34 = .ok (.bipush (-3), 2) := by decide +kernel
theorem dX11_buy_36 : decode cX11_buy 36 = .ok (.ireturn, 1) := by decide +kernel
theorem dX11_buy_37 : decode cX11_buy 37 = .ok (.aload_n 0, 1) := by decide +kernel
theorem dX11_buy_38 : decode cX11_buy 38 = .ok (.invokevirtual 85, 3) := by decide +kernel
theorem dX11_buy_41 : decode cX11_buy 41 = .ok (.aload_n 0, 1) := by decide +kernel
theorem dX11_buy_42 : decode cX11_buy 42 = .ok (.getfield 7, 3) := by decide +kernel
theorem dX11_buy_45 : decode cX11_buy 45 = .ok (.iconst 0, 1) := by decide +kernel
theorem dX11_buy_46 : decode cX11_buy 46 = .ok (.iload_n 1, 1) := by decide +kernel
theorem dX11_buy_47 : decode cX11_buy 47 = .ok (.iadd, 1) := by decide +kernel
theorem dX11_buy_48 : decode cX11_buy 48 = .ok (.dup2, 1) := by decide +kernel
theorem dX11_buy_49 : decode cX11_buy 49 = .ok (.iaload, 1) := by decide +kernel
theorem dX11_buy_50 : decode cX11_buy 50 = .ok (.iload_n 2, 1) := by decide +kernel
theorem dX11_buy_51 : decode cX11_buy 51 = .ok (.iadd, 1) := by decide +kernel
theorem dX11_buy_52 : decode cX11_buy 52 = .ok (.iastore, 1) := by decide +kernel
theorem dX11_buy_53 : decode cX11_buy 53 = .ok (.aload_n 0, 1) := by decide +kernel
theorem dX11_buy_54 : decode cX11_buy 54 = .ok (.getfield 7, 3) := by decide +kernel
theorem dX11_buy_57 : decode cX11_buy 57 = .ok (.iconst 2, 1) := by decide +kernel
theorem dX11_buy_58 : decode cX11_buy 58 = .ok (.iload_n 1, 1) := by decide +kernel
theorem dX11_buy_59 : decode cX11_buy 59 = .ok (.iadd, 1) := by decide +kernel
theorem dX11_buy_60 : decode cX11_buy 60 = .ok (.dup2, 1) := by decide +kernel
theorem dX11_buy_61 : decode cX11_buy 61 = .ok (.iaload, 1) := by decide +kernel
theorem dX11_buy_62 : decode cX11_buy 62 = .ok (.iload_n 2, 1) := by decide +kernel
theorem dX11_buy_63 : decode cX11_buy 63 = .ok (.iadd, 1) := by decide +kernel
theorem dX11_buy_64 : decode cX11_buy 64 = .ok (.iastore, 1) := by decide +kernel
theorem dX11_buy_65 : decode cX11_buy 65 = .ok (.aload_n 0, 1) := by decide +kernel
theorem dX11_buy_66 : decode cX11_buy 66 = .ok (.getfield 7, 3) := by decide +kernel
theorem dX11_buy_69 : decode cX11_buy 69 = .ok (.iconst 0, 1) := by decide +kernel
theorem dX11_buy_70 : decode cX11_buy 70 = .ok (.iload_n 1, 1) := by decide +kernel
theorem dX11_buy_71 : decode cX11_buy 71 = .ok (.iadd, 1) := by decide +kernel
theorem dX11_buy_72 : decode cX11_buy 72 = .ok (.iaload, 1) := by decide +kernel
theorem dX11_buy_73 : decode cX11_buy 73 = .ok (.ireturn, 1) := by decide +kernel
theorem dX11_charge_0 : decode cX11_charge 0 = .ok (.iload_n 1, 1) := by decide +kernel
theorem dX11_charge_1 : decode cX11_charge 1 = .ok (.invokestatic 79, 3) := by decide +kernel
theorem dX11_charge_4 : decode cX11_charge 4 = .ok (.ifCond .eq 14, 3) := by decide +kernel
theorem dX11_charge_7 : decode cX11_charge 7 = .ok (.iload_n 2, 1) := by decide +kernel
theorem dX11_charge_8 : decode cX11_charge 8 = .ok (.iconst 1, 1) := by decide +kernel
theorem dX11_charge_9 : decode cX11_charge 9 = .ok (.sipush 20000, 3) := by decide +kernel
theorem dX11_charge_12 : decode cX11_charge 12 = .ok (.invokestatic 68, 3) := by decide +kernel
theorem dX11_charge_15 : decode cX11_charge 15 = .ok (.ifCond .ne 5, 3) := by decide +kernel
theorem dX11_charge_18 : decode cX11_charge 18 = .ok (.iconst (-1), 1) := by decide +kernel
theorem dX11_charge_19 : decode cX11_charge 19 = .ok (.ireturn, 1) := by decide +kernel
theorem dX11_charge_20 : decode cX11_charge 20 = .ok (.aload_n 0, 1) := by decide +kernel
theorem dX11_charge_21 : decode cX11_charge 21 = .ok (.getfield 7, 3) := by decide +kernel
theorem dX11_charge_24 : decode cX11_charge 24 = .ok (.iconst 0, 1) := by decide +kernel
theorem dX11_charge_25 : decode cX11_charge 25 = .ok (.iload_n 1, 1) := by decide +kernel
theorem dX11_charge_26 : decode cX11_charge 26 = .ok (.iadd, 1) := by decide +kernel
theorem dX11_charge_27 : decode cX11_charge 27 = .ok (.iaload, 1) := by decide +kernel
theorem dX11_charge_28 : decode cX11_charge 28 = .ok (.iload_n 2, 1) := by decide +kernel
theorem dX11_charge_29 : decode cX11_charge 29 = .ok (.if_icmp .ge 6, 3) := by decide +kernel
theorem dX11_charge_32 : decode cX11_charge 32 = .ok (.bipush (-2), 2) := by decide +kernel
theorem dX11_charge_34 : decode cX11_charge 34 = .ok (.ireturn, 1) := by decide +kernel
theorem dX11_charge_35 : decode cX11_charge 35 = .ok (.aload_n 0, 1) := by decide +kernel
theorem dX11_charge_36 : decode cX11_charge 36 = .ok (.bipush 6, 2) := by decide +kernel
theorem dX11_charge_38 : decode cX11_charge 38 = .ok (.invokevirtual 88, 3) := by decide +kernel
theorem dX11_charge_41 : decode cX11_charge 41 = .ok (.iload_n 2, 1) := by decide +kernel
theorem dX11_charge_42 : decode cX11_charge 42 = .ok (.iadd, 1) := by decide +kernel
theorem dX11_charge_43 : decode cX11_charge 43 = .ok (.sipush 20000, 3) := by decide +kernel
theorem dX11_charge_46 : decode cX11_charge 46 = .ok (.if_icmp .le 6, 3) := by decide +kernel
theorem dX11_charge_49 : decode cX11_charge 49 = .ok (.bipush (-3), 2) := by decide +kernel
theorem dX11_charge_51 : decode cX11_charge 51 = .ok (.ireturn, 1) := by decide +kernel
theorem dX11_charge_52 : decode cX11_charge 52 = .ok (.aload_n 0, 1) := by decide +kernel
theorem dX11_charge_53 : decode cX11_charge 53 = .ok (.invokevirtual 85, 3) := by decide +kernel
theorem dX11_charge_56 : decode cX11_charge 56 = .ok (.aload_n 0, 1) := by decide +kernel
theorem dX11_charge_57 : decode cX11_charge 57 = .ok (.getfield 7, 3) := by decide +kernel
theorem dX11_charge_60 : decode cX11_charge 60 = .ok (.iconst 0, 1) := by decide +kernel
theorem dX11_charge_61 : decode cX11_charge 61 = .ok (.iload_n 1, 1) := by decide +kernel
theorem dX11_charge_62 : decode cX11_charge 62 = .ok (.iadd, 1) := by decide +kernel
theorem dX11_charge_63 : decode cX11_charge 63 = .ok (.dup2, 1) := by decide +kernel
theorem dX11_charge_64 : decode cX11_charge 64 = .ok (.iaload, 1) := by decide +kernel
theorem dX11_charge_65 : decode cX11_charge 65 = .ok (.iload_n 2, 1) := by decide +kernel
theorem dX11_charge_66 : decode cX11_charge 66 = .ok (.isub, 1) := by decide +kernel
theorem dX11_charge_67 : decode cX11_charge 67 = .ok (.iastore, 1) := by decide +kernel
theorem dX11_charge_68 : decode cX11_charge 68 = .ok (.aload_n 0, 1) := by decide +kernel
theorem dX11_charge_69 : decode cX11_charge 69 = .ok (.getfield 7, 3) := by decide +kernel
theorem dX11_charge_72 : decode cX11_charge 72 = .ok (.bipush 6, 2) := by decide +kernel
theorem dX11_charge_74 : decode cX11_charge 74 = .ok (.iload_n 1, 1) := by decide +kernel
theorem dX11_charge_75 : decode cX11_charge 75 = .ok (.iadd, 1) := by decide +kernel
theorem dX11_charge_76 : decode cX11_charge 76 = .ok (.dup2, 1) := by decide +kernel
theorem dX11_charge_77 : decode cX11_charge 77 = .ok (.iaload, 1) := by decide +kernel
theorem dX11_charge_78 : decode cX11_charge 78 = .ok (.iload_n 2, 1) := by decide +kernel
theorem dX11_charge_79 : decode cX11_charge 79 = .ok (.iadd, 1) := by decide +kernel
theorem dX11_charge_80 : decode cX11_charge 80 = .ok (.iastore, 1) := by decide +kernel
theorem dX11_charge_81 : decode cX11_charge 81 = .ok (.aload_n 0, 1) := by decide +kernel
theorem dX11_charge_82 : decode cX11_charge 82 = .ok (.bipush 6, 2) := by decide +kernel
theorem dX11_charge_84 : decode cX11_charge 84 = .ok (.invokevirtual 88, 3) := by decide +kernel
theorem dX11_charge_87 : decode cX11_charge 87 = .ok (.ireturn, 1) := by decide +kernel
theorem dX11_scrap_0 : decode cX11_scrap 0 = .ok (.aload_n 0, 1) := by decide +kernel
theorem dX11_scrap_1 : decode cX11_scrap 1 = .ok (.iload_n 1, 1) := by decide +kernel
theorem dX11_scrap_2 : decode cX11_scrap 2 = .ok (.invokevirtual 91, 3) := by decide +kernel
theorem dX11_scrap_5 : decode cX11_scrap 5 = .ok (.ifCond .ne 5, 3) := by decide +kernel
theorem dX11_scrap_8 : decode cX11_scrap 8 = .ok (.iconst (-1), 1) := by decide +kernel
theorem dX11_scrap_9 : decode cX11_scrap 9 = .ok (.ireturn, 1) := by decide +kernel
theorem dX11_scrap_10 : decode cX11_scrap 10 = .ok (.bipush 9, 2) := by decide +kernel
theorem dX11_scrap_12 : decode cX11_scrap 12 = .ok (.iconst 3, 1) := by decide +kernel
theorem dX11_scrap_13 : decode cX11_scrap 13 = .ok (.iload_n 1, 1) := by decide +kernel
theorem dX11_scrap_14 : decode cX11_scrap 14 = .ok (.imul, 1) := by decide +kernel
theorem dX11_scrap_15 : decode cX11_scrap 15 = .ok (.iadd, 1) := by decide +kernel
theorem dX11_scrap_16 : decode cX11_scrap 16 = .ok (.istore_n 2, 1) := by decide +kernel
theorem dX11_scrap_17 : decode cX11_scrap 17 = .ok (.aload_n 0, 1) := by decide +kernel
theorem dX11_scrap_18 : decode cX11_scrap 18 = .ok (.bipush 6, 2) := by decide +kernel
theorem dX11_scrap_20 : decode cX11_scrap 20 = .ok (.invokevirtual 88, 3) := by decide +kernel
theorem dX11_scrap_23 : decode cX11_scrap 23 = .ok (.aload_n 0, 1) := by decide +kernel
theorem dX11_scrap_24 : decode cX11_scrap 24 = .ok (.iload_n 2, 1) := by decide +kernel
theorem dX11_scrap_25 : decode cX11_scrap 25 = .ok (.invokevirtual 88, 3) := by decide +kernel
theorem dX11_scrap_28 : decode cX11_scrap 28 = .ok (.iadd, 1) := by decide +kernel
theorem dX11_scrap_29 : decode cX11_scrap 29 = .ok (.sipush 20000, 3) := by decide +kernel
theorem dX11_scrap_32 : decode cX11_scrap 32 = .ok (.if_icmp .le 6, 3) := by decide +kernel
theorem dX11_scrap_35 : decode cX11_scrap 35 = .ok (.bipush (-3), 2) := by decide +kernel
theorem dX11_scrap_37 : decode cX11_scrap 37 = .ok (.ireturn, 1) := by decide +kernel
theorem dX11_scrap_38 : decode cX11_scrap 38 = .ok (.aload_n 0, 1) := by decide +kernel
theorem dX11_scrap_39 : decode cX11_scrap 39 = .ok (.invokevirtual 85, 3) := by decide +kernel
theorem dX11_scrap_42 : decode cX11_scrap 42 = .ok (.aload_n 0, 1) := by decide +kernel
theorem dX11_scrap_43 : decode cX11_scrap 43 = .ok (.getfield 7, 3) := by decide +kernel
theorem dX11_scrap_46 : decode cX11_scrap 46 = .ok (.iload_n 2, 1) := by decide +kernel
theorem dX11_scrap_47 : decode cX11_scrap 47 = .ok (.iconst 2, 1) := by decide +kernel
theorem dX11_scrap_48 : decode cX11_scrap 48 = .ok (.iadd, 1) := by decide +kernel
theorem dX11_scrap_49 : decode cX11_scrap 49 = .ok (.iaload, 1) := by decide +kernel
theorem dX11_scrap_50 : decode cX11_scrap 50 = .ok (.iconst 1, 1) := by decide +kernel
theorem dX11_scrap_51 : decode cX11_scrap 51 = .ok (.if_icmp .ne 8, 3) := by decide +kernel
theorem dX11_scrap_54 : decode cX11_scrap 54 = .ok (.aload_n 0, 1) := by decide +kernel
theorem dX11_scrap_55 : decode cX11_scrap 55 = .ok (.iload_n 2, 1) := by decide +kernel
theorem dX11_scrap_56 : decode cX11_scrap 56 = .ok (.invokevirtual 94, 3) := by decide +kernel
theorem dX11_scrap_59 : decode cX11_scrap 59 = .ok (.aload_n 0, 1) := by decide +kernel
theorem dX11_scrap_60 : decode cX11_scrap 60 = .ok (.iload_n 2, 1) := by decide +kernel
theorem dX11_scrap_61 : decode cX11_scrap 61 = .ok (.bipush 6, 2) := by decide +kernel
theorem dX11_scrap_63 : decode cX11_scrap 63 = .ok (.aload_n 0, 1) := by decide +kernel
theorem dX11_scrap_64 : decode cX11_scrap 64 = .ok (.getfield 7, 3) := by decide +kernel
theorem dX11_scrap_67 : decode cX11_scrap 67 = .ok (.iload_n 2, 1) := by decide +kernel
theorem dX11_scrap_68 : decode cX11_scrap 68 = .ok (.iaload, 1) := by decide +kernel
theorem dX11_scrap_69 : decode cX11_scrap 69 = .ok (.aload_n 0, 1) := by decide +kernel
theorem dX11_scrap_70 : decode cX11_scrap 70 = .ok (.getfield 7, 3) := by decide +kernel
theorem dX11_scrap_73 : decode cX11_scrap 73 = .ok (.iload_n 2, 1) := by decide +kernel
theorem dX11_scrap_74 : decode cX11_scrap 74 = .ok (.iconst 1, 1) := by decide +kernel
theorem dX11_scrap_75 : decode cX11_scrap 75 = .ok (.iadd, 1) := by decide +kernel
theorem dX11_scrap_76 : decode cX11_scrap 76 = .ok (.iaload, 1) := by decide +kernel
theorem dX11_scrap_77 : decode cX11_scrap 77 = .ok (.invokevirtual 57, 3) := by decide +kernel
theorem dX11_scrap_80 : decode cX11_scrap 80 = .ok (.aload_n 0, 1) := by decide +kernel
theorem dX11_scrap_81 : decode cX11_scrap 81 = .ok (.getfield 7, 3) := by decide +kernel
theorem dX11_scrap_84 : decode cX11_scrap 84 = .ok (.bipush 8, 2) := by decide +kernel
theorem dX11_scrap_86 : decode cX11_scrap 86 = .ok (.dup2, 1) := by decide +kernel
theorem dX11_scrap_87 : decode cX11_scrap 87 = .ok (.iaload, 1) := by decide +kernel
theorem dX11_scrap_88 : decode cX11_scrap 88 = .ok (.iconst 1, 1) := by decide +kernel
theorem dX11_scrap_89 : decode cX11_scrap 89 = .ok (.isub, 1) := by decide +kernel
theorem dX11_scrap_90 : decode cX11_scrap 90 = .ok (.iastore, 1) := by decide +kernel
theorem dX11_scrap_91 : decode cX11_scrap 91 = .ok (.iload_n 2, 1) := by decide +kernel
theorem dX11_scrap_92 : decode cX11_scrap 92 = .ok (.istore_n 3, 1) := by decide +kernel
theorem dX11_scrap_93 : decode cX11_scrap 93 = .ok (.iload_n 3, 1) := by decide +kernel
theorem dX11_scrap_94 : decode cX11_scrap 94 = .ok (.bipush 9, 2) := by decide +kernel
theorem dX11_scrap_96 : decode cX11_scrap 96 = .ok (.iconst 3, 1) := by decide +kernel
theorem dX11_scrap_97 : decode cX11_scrap 97 = .ok (.aload_n 0, 1) := by decide +kernel
theorem dX11_scrap_98 : decode cX11_scrap 98 = .ok (.getfield 7, 3) := by decide +kernel
theorem dX11_scrap_101 : decode cX11_scrap 101 = .ok (.bipush 8, 2) := by decide +kernel
theorem dX11_scrap_103 : decode cX11_scrap 103 = .ok (.iaload, 1) := by decide +kernel
theorem dX11_scrap_104 : decode cX11_scrap 104 = .ok (.imul, 1) := by decide +kernel
theorem dX11_scrap_105 : decode cX11_scrap 105 = .ok (.iadd, 1) := by decide +kernel
theorem dX11_scrap_106 : decode cX11_scrap 106 = .ok (.if_icmp .ge 23, 3) := by decide +kernel
theorem dX11_scrap_109 : decode cX11_scrap 109 = .ok (.aload_n 0, 1) := by decide +kernel
theorem dX11_scrap_110 : decode cX11_scrap 110 = .ok (.getfield 7, 3) := by decide +kernel
theorem dX11_scrap_113 : decode cX11_scrap 113 = .ok (.iload_n 3, 1) := by decide +kernel
theorem dX11_scrap_114 : decode cX11_scrap 114 = .ok (.aload_n 0, 1) := by decide +kernel
theorem dX11_scrap_115 : decode cX11_scrap 115 = .ok (.getfield 7, 3) := by decide +kernel
theorem dX11_scrap_118 : decode cX11_scrap 118 = .ok (.iload_n 3, 1) := by decide +kernel
theorem dX11_scrap_119 : decode cX11_scrap 119 = .ok (.iconst 3, 1) := by decide +kernel
theorem dX11_scrap_120 : decode cX11_scrap 120 = .ok (.iadd, 1) := by decide +kernel
theorem dX11_scrap_121 : decode cX11_scrap 121 = .ok (.iaload, 1) := by decide +kernel
theorem dX11_scrap_122 : decode cX11_scrap 122 = .ok (.iastore, 1) := by decide +kernel
theorem dX11_scrap_123 : decode cX11_scrap 123 = .ok (.iinc 3 1, 3) := by decide +kernel
theorem dX11_scrap_126 : decode cX11_scrap 126 = .ok (.goto (-33), 3) := by decide +kernel
theorem dX11_scrap_129 : decode cX11_scrap 129 = .ok (.aload_n 0, 1) := by decide +kernel
theorem dX11_scrap_130 : decode cX11_scrap 130 = .ok (.bipush 6, 2) := by decide +kernel
theorem dX11_scrap_132 : decode cX11_scrap 132 = .ok (.invokevirtual 88, 3) := by decide +kernel
theorem dX11_scrap_135 : decode cX11_scrap 135 = .ok (.ireturn, 1) := by decide +kernel
theorem dX11_lot_0 : decode cX11_lot 0 = .ok (.aload_n 0, 1) := by decide +kernel
theorem dX11_lot_1 : decode cX11_lot 1 = .ok (.iload_n 1, 1) := by decide +kernel
theorem dX11_lot_2 : decode cX11_lot 2 = .ok (.invokevirtual 91, 3) := by decide +kernel
theorem dX11_lot_5 : decode cX11_lot 5 = .ok (.ifCond .ne 5, 3) := by decide +kernel
theorem dX11_lot_8 : decode cX11_lot 8 = .ok (.iconst (-1), 1) := by decide +kernel
theorem dX11_lot_9 : decode cX11_lot 9 = .ok (.ireturn, 1) := by decide +kernel
theorem dX11_lot_10 : decode cX11_lot 10 = .ok (.bipush 9, 2) := by decide +kernel
theorem dX11_lot_12 : decode cX11_lot 12 = .ok (.iconst 3, 1) := by decide +kernel
theorem dX11_lot_13 : decode cX11_lot 13 = .ok (.iload_n 1, 1) := by decide +kernel
theorem dX11_lot_14 : decode cX11_lot 14 = .ok (.imul, 1) := by decide +kernel
theorem dX11_lot_15 : decode cX11_lot 15 = .ok (.iadd, 1) := by decide +kernel
theorem dX11_lot_16 : decode cX11_lot 16 = .ok (.istore_n 3, 1) := by decide +kernel
theorem dX11_lot_17 : decode cX11_lot 17 = .ok (.iload_n 2, 1) := by decide +kernel
theorem dX11_lot_18 : decode cX11_lot 18 = .ok (.tableswitch 64 0 4 #[34, 34, 43, 49, 55], 34) := by decide +kernel
theorem dX11_lot_52 : decode cX11_lot 52 = .ok (.aload_n 0, 1) := by decide +kernel
theorem dX11_lot_53 : decode cX11_lot 53 = .ok (.getfield 7, 3) := by decide +kernel
theorem dX11_lot_56 : decode cX11_lot 56 = .ok (.iload_n 3, 1) := by decide +kernel
theorem dX11_lot_57 : decode cX11_lot 57 = .ok (.iload_n 2, 1) := by decide +kernel
theorem dX11_lot_58 : decode cX11_lot 58 = .ok (.iadd, 1) := by decide +kernel
theorem dX11_lot_59 : decode cX11_lot 59 = .ok (.iaload, 1) := by decide +kernel
theorem dX11_lot_60 : decode cX11_lot 60 = .ok (.ireturn, 1) := by decide +kernel
theorem dX11_lot_61 : decode cX11_lot 61 = .ok (.aload_n 0, 1) := by decide +kernel
theorem dX11_lot_62 : decode cX11_lot 62 = .ok (.iload_n 3, 1) := by decide +kernel
theorem dX11_lot_63 : decode cX11_lot 63 = .ok (.invokevirtual 88, 3) := by decide +kernel
theorem dX11_lot_66 : decode cX11_lot 66 = .ok (.ireturn, 1) := by decide +kernel
theorem dX11_lot_67 : decode cX11_lot 67 = .ok (.aload_n 0, 1) := by decide +kernel
theorem dX11_lot_68 : decode cX11_lot 68 = .ok (.iload_n 3, 1) := by decide +kernel
theorem dX11_lot_69 : decode cX11_lot 69 = .ok (.invokevirtual 98, 3) := by decide +kernel
theorem dX11_lot_72 : decode cX11_lot 72 = .ok (.ireturn, 1) := by decide +kernel
theorem dX11_lot_73 : decode cX11_lot 73 = .ok (.aload_n 0, 1) := by decide +kernel
theorem dX11_lot_74 : decode cX11_lot 74 = .ok (.getfield 7, 3) := by decide +kernel
theorem dX11_lot_77 : decode cX11_lot 77 = .ok (.iload_n 3, 1) := by decide +kernel
theorem dX11_lot_78 : decode cX11_lot 78 = .ok (.iconst 2, 1) := by decide +kernel
theorem dX11_lot_79 : decode cX11_lot 79 = .ok (.iadd, 1) := by decide +kernel
theorem dX11_lot_80 : decode cX11_lot 80 = .ok (.iaload, 1) := by decide +kernel
theorem dX11_lot_81 : decode cX11_lot 81 = .ok (.ireturn, 1) := by decide +kernel
theorem dX11_lot_82 : decode cX11_lot 82 = .ok (.iconst (-1), 1) := by decide +kernel
theorem dX11_lot_83 : decode cX11_lot 83 = .ok (.ireturn, 1) := by decide +kernel
theorem dX11_melt_0 : decode cX11_melt 0 = .ok (.aload_n 0, 1) := by decide +kernel
theorem dX11_melt_1 : decode cX11_melt 1 = .ok (.getfield 7, 3) := by decide +kernel
theorem dX11_melt_4 : decode cX11_melt 4 = .ok (.bipush 6, 2) := by decide +kernel
theorem dX11_melt_6 : decode cX11_melt 6 = .ok (.iaload, 1) := by decide +kernel
theorem dX11_melt_7 : decode cX11_melt 7 = .ok (.aload_n 0, 1) := by decide +kernel
theorem dX11_melt_8 : decode cX11_melt 8 = .ok (.aload_n 0, 1) := by decide +kernel
theorem dX11_melt_9 : decode cX11_melt 9 = .ok (.getfield 7, 3) := by decide +kernel
theorem dX11_melt_12 : decode cX11_melt 12 = .ok (.bipush 6, 2) := by decide +kernel
theorem dX11_melt_14 : decode cX11_melt 14 = .ok (.iaload, 1) := by decide +kernel
theorem dX11_melt_15 : decode cX11_melt 15 = .ok (.iconst 0, 1) := by decide +kernel
theorem dX11_melt_16 : decode cX11_melt 16 = .ok (.invokevirtual 65, 3) := by decide +kernel
theorem dX11_melt_19 : decode cX11_melt 19 = .ok (.isub, 1) := by decide +kernel
theorem dX11_melt_20 : decode cX11_melt 20 = .ok (.istore_n 2, 1) := by decide +kernel
theorem dX11_melt_21 : decode cX11_melt 21 = .ok (.aload_n 0, 1) := by decide +kernel
theorem dX11_melt_22 : decode cX11_melt 22 = .ok (.getfield 7, 3) := by decide +kernel
theorem dX11_melt_25 : decode cX11_melt 25 = .ok (.bipush 7, 2) := by decide +kernel
theorem dX11_melt_27 : decode cX11_melt 27 = .ok (.iaload, 1) := by decide +kernel
theorem dX11_melt_28 : decode cX11_melt 28 = .ok (.aload_n 0, 1) := by decide +kernel
theorem dX11_melt_29 : decode cX11_melt 29 = .ok (.aload_n 0, 1) := by decide +kernel
theorem dX11_melt_30 : decode cX11_melt 30 = .ok (.getfield 7, 3) := by decide +kernel
theorem dX11_melt_33 : decode cX11_melt 33 = .ok (.bipush 7, 2) := by decide +kernel
theorem dX11_melt_35 : decode cX11_melt 35 = .ok (.iaload, 1) := by decide +kernel
theorem dX11_melt_36 : decode cX11_melt 36 = .ok (.iconst 1, 1) := by decide +kernel
theorem dX11_melt_37 : decode cX11_melt 37 = .ok (.invokevirtual 65, 3) := by decide +kernel
theorem dX11_melt_40 : decode cX11_melt 40 = .ok (.isub, 1) := by decide +kernel
theorem dX11_melt_41 : decode cX11_melt 41 = .ok (.istore_n 3, 1) := by decide +kernel
theorem dX11_melt_42 : decode cX11_melt 42 = .ok (.iload_n 1, 1) := by decide +kernel
theorem dX11_melt_43 : decode cX11_melt 43 = .ok (.tableswitch 71 0 5 #[37, 37, 47, 54, 61, 65], 37) := by decide +kernel
theorem dX11_melt_80 : decode cX11_melt 80 = .ok (.aload_n 0, 1) := by decide +kernel
theorem dX11_melt_81 : decode cX11_melt 81 = .ok (.getfield 7, 3) := by decide +kernel
theorem dX11_melt_84 : decode cX11_melt 84 = .ok (.bipush 6, 2) := by decide +kernel
theorem dX11_melt_86 : decode cX11_melt 86 = .ok (.iload_n 1, 1) := by decide +kernel
theorem dX11_melt_87 : decode cX11_melt 87 = .ok (.iadd, 1) := by decide +kernel
theorem dX11_melt_88 : decode cX11_melt 88 = .ok (.iaload, 1) := by decide +kernel
theorem dX11_melt_89 : decode cX11_melt 89 = .ok (.ireturn, 1) := by decide +kernel
theorem dX11_melt_90 : decode cX11_melt 90 = .ok (.aload_n 0, 1) := by decide +kernel
theorem dX11_melt_91 : decode cX11_melt 91 = .ok (.bipush 6, 2) := by decide +kernel
theorem dX11_melt_93 : decode cX11_melt 93 = .ok (.invokevirtual 88, 3) := by decide +kernel
theorem dX11_melt_96 : decode cX11_melt 96 = .ok (.ireturn, 1) := by decide +kernel
theorem dX11_melt_97 : decode cX11_melt 97 = .ok (.aload_n 0, 1) := by decide +kernel
theorem dX11_melt_98 : decode cX11_melt 98 = .ok (.bipush 6, 2) := by decide +kernel
theorem dX11_melt_100 : decode cX11_melt 100 = .ok (.invokevirtual 98, 3) := by decide +kernel
theorem dX11_melt_103 : decode cX11_melt 103 = .ok (.ireturn, 1) := by decide +kernel
theorem dX11_melt_104 : decode cX11_melt 104 = .ok (.iload_n 2, 1) := by decide +kernel
theorem dX11_melt_105 : decode cX11_melt 105 = .ok (.iload_n 3, 1) := by decide +kernel
theorem dX11_melt_106 : decode cX11_melt 106 = .ok (.iadd, 1) := by decide +kernel
theorem dX11_melt_107 : decode cX11_melt 107 = .ok (.ireturn, 1) := by decide +kernel
theorem dX11_melt_108 : decode cX11_melt 108 = .ok (.iload_n 2, 1) := by decide +kernel
theorem dX11_melt_109 : decode cX11_melt 109 = .ok (.iload_n 3, 1) := by decide +kernel
theorem dX11_melt_110 : decode cX11_melt 110 = .ok (.invokestatic 49, 3) := by decide +kernel
theorem dX11_melt_113 : decode cX11_melt 113 = .ok (.ireturn, 1) := by decide +kernel
theorem dX11_melt_114 : decode cX11_melt 114 = .ok (.iconst (-1), 1) := by decide +kernel
theorem dX11_melt_115 : decode cX11_melt 115 = .ok (.ireturn, 1) := by decide +kernel
theorem dX11_mostOf_0 : decode cX11_mostOf 0 = .ok (.iload_n 0, 1) := by decide +kernel
theorem dX11_mostOf_1 : decode cX11_mostOf 1 = .ok (.ifCond .ne 8, 3) := by decide +kernel
theorem dX11_mostOf_4 : decode cX11_mostOf 4 = .ok (.bipush 50, 2) := by decide +kernel
theorem dX11_mostOf_6 : decode cX11_mostOf 6 = .ok (.goto 48, 3) := by decide +kernel
theorem dX11_mostOf_9 : decode cX11_mostOf 9 = .ok (.iload_n 0, 1) := by decide +kernel
theorem dX11_mostOf_10 : decode cX11_mostOf 10 = .ok (.iconst 1, 1) := by decide +kernel
theorem dX11_mostOf_11 : decode cX11_mostOf 11 = .ok (.if_icmp .ne 8, 3) := by decide +kernel
theorem dX11_mostOf_14 : decode cX11_mostOf 14 = .ok (.bipush 100, 2) := by decide +kernel
theorem dX11_mostOf_16 : decode cX11_mostOf 16 = .ok (.goto 38, 3) := by decide +kernel
theorem dX11_mostOf_19 : decode cX11_mostOf 19 = .ok (.iload_n 0, 1) := by decide +kernel
theorem dX11_mostOf_20 : decode cX11_mostOf 20 = .ok (.iconst 4, 1) := by decide +kernel
theorem dX11_mostOf_21 : decode cX11_mostOf 21 = .ok (.if_icmp .ge 9, 3) := by decide +kernel
theorem dX11_mostOf_24 : decode cX11_mostOf 24 = .ok (.sipush 1000, 3) := by decide +kernel
theorem dX11_mostOf_27 : decode cX11_mostOf 27 = .ok (.goto 27, 3) := by decide +kernel
theorem dX11_mostOf_30 : decode cX11_mostOf 30 = .ok (.iload_n 0, 1) := by decide +kernel
theorem dX11_mostOf_31 : decode cX11_mostOf 31 = .ok (.iconst 4, 1) := by decide +kernel
theorem dX11_mostOf_32 : decode cX11_mostOf 32 = .ok (.if_icmp .ne 9, 3) := by decide +kernel
theorem dX11_mostOf_35 : decode cX11_mostOf 35 = .ok (.sipush 300, 3) := by decide +kernel
theorem dX11_mostOf_38 : decode cX11_mostOf 38 = .ok (.goto 16, 3) := by decide +kernel
theorem dX11_mostOf_41 : decode cX11_mostOf 41 = .ok (.iload_n 0, 1) := by decide +kernel
theorem dX11_mostOf_42 : decode cX11_mostOf 42 = .ok (.iconst 5, 1) := by decide +kernel
theorem dX11_mostOf_43 : decode cX11_mostOf 43 = .ok (.if_icmp .ne 8, 3) := by decide +kernel
theorem dX11_mostOf_46 : decode cX11_mostOf 46 = .ok (.bipush 50, 2) := by decide +kernel
theorem dX11_mostOf_48 : decode cX11_mostOf 48 = .ok (.goto 6, 3) := by decide +kernel
theorem dX11_mostOf_51 : decode cX11_mostOf 51 = .ok (.sipush 20000, 3) := by decide +kernel
theorem dX11_mostOf_54 : decode cX11_mostOf 54 = .ok (.ireturn, 1) := by decide +kernel
theorem dX11_set_0 : decode cX11_set 0 = .ok (.iload_n 1, 1) := by decide +kernel
theorem dX11_set_1 : decode cX11_set 1 = .ok (.iconst 0, 1) := by decide +kernel
theorem dX11_set_2 : decode cX11_set 2 = .ok (.bipush 6, 2) := by decide +kernel
theorem dX11_set_4 : decode cX11_set 4 = .ok (.invokestatic 68, 3) := by decide +kernel
theorem dX11_set_7 : decode cX11_set 7 = .ok (.ifCond .eq 24, 3) := by decide +kernel
theorem dX11_set_10 : decode cX11_set 10 = .ok (.iload_n 2, 1) := by decide +kernel
theorem dX11_set_11 : decode cX11_set 11 = .ok (.iload_n 1, 1) := by decide +kernel
theorem dX11_set_12 : decode cX11_set 12 = .ok (.iconst 5, 1) := by decide +kernel
theorem dX11_set_13 : decode cX11_set 13 = .ok (.if_icmp .ge 7, 3) := by decide +kernel
theorem dX11_set_16 : decode cX11_set 16 = .ok (.iconst 0, 1) := by decide +kernel
theorem dX11_set_17 : decode cX11_set 17 = .ok (.goto 4, 3) := by decide +kernel
theorem dX11_set_20 : decode cX11_set 20 = .ok (.iconst 1, 1) := by decide +kernel
theorem dX11_set_21 : decode cX11_set 21 = .ok (.iload_n 1, 1) := by decide +kernel
theorem dX11_set_22 : decode cX11_set 22 = .ok (.invokestatic 101, 3) := by decide +kernel
theorem dX11_set_25 : decode cX11_set 25 = .ok (.invokestatic 68, 3) := by decide +kernel
theorem dX11_set_28 : decode cX11_set 28 = .ok (.ifCond .ne 5, 3) := by decide +kernel
theorem dX11_set_31 : decode cX11_set 31 = .ok (.iconst (-1), 1) := by decide +kernel
theorem dX11_set_32 : decode cX11_set 32 = .ok (.ireturn, 1) := by decide +kernel
theorem dX11_set_33 : decode cX11_set 33 = .ok (.aload_n 0, 1) := by decide +kernel
theorem dX11_set_34 : decode cX11_set 34 = .ok (.invokevirtual 85, 3) := by decide +kernel
theorem dX11_set_37 : decode cX11_set 37 = .ok (.aload_n 0, 1) := by decide +kernel
theorem dX11_set_38 : decode cX11_set 38 = .ok (.iload_n 1, 1) := by decide +kernel
theorem dX11_set_39 : decode cX11_set 39 = .ok (.invokevirtual 61, 3) := by decide +kernel
theorem dX11_set_42 : decode cX11_set 42 = .ok (.istore_n 3, 1) := by decide +kernel
theorem dX11_set_43 : decode cX11_set 43 = .ok (.aload_n 0, 1) := by decide +kernel
theorem dX11_set_44 : decode cX11_set 44 = .ok (.getfield 7, 3) := by decide +kernel
theorem dX11_set_47 : decode cX11_set 47 = .ok (.bipush 45, 2) := by decide +kernel
theorem dX11_set_49 : decode cX11_set 49 = .ok (.iload_n 1, 1) := by decide +kernel
theorem dX11_set_50 : decode cX11_set 50 = .ok (.iadd, 1) := by decide +kernel
theorem dX11_set_51 : decode cX11_set 51 = .ok (.iload_n 2, 1) := by decide +kernel
theorem dX11_set_52 : decode cX11_set 52 = .ok (.iastore, 1) := by decide +kernel
theorem dX11_set_53 : decode cX11_set 53 = .ok (.iload_n 3, 1) := by decide +kernel
theorem dX11_set_54 : decode cX11_set 54 = .ok (.ireturn, 1) := by decide +kernel
theorem dX11_isBell_0 : decode cX11_isBell 0 = .ok (.iload_n 1, 1) := by decide +kernel
theorem dX11_isBell_1 : decode cX11_isBell 1 = .ok (.iconst 0, 1) := by decide +kernel
theorem dX11_isBell_2 : decode cX11_isBell 2 = .ok (.aload_n 0, 1) := by decide +kernel
theorem dX11_isBell_3 : decode cX11_isBell 3 = .ok (.getfield 7, 3) := by decide +kernel
theorem dX11_isBell_6 : decode cX11_isBell 6 = .ok (.bipush 52, 2) := by decide +kernel
theorem dX11_isBell_8 : decode cX11_isBell 8 = .ok (.iaload, 1) := by decide +kernel
theorem dX11_isBell_9 : decode cX11_isBell 9 = .ok (.iconst 1, 1) := by decide +kernel
theorem dX11_isBell_10 : decode cX11_isBell 10 = .ok (.isub, 1) := by decide +kernel
theorem dX11_isBell_11 : decode cX11_isBell 11 = .ok (.invokestatic 68, 3) := by decide +kernel
theorem dX11_isBell_14 : decode cX11_isBell 14 = .ok (.ireturn, 1) := by decide +kernel
theorem dX11_atBell_0 : decode cX11_atBell 0 = .ok (.bipush 54, 2) := by decide +kernel
theorem dX11_atBell_2 : decode cX11_atBell 2 = .ok (.bipush 8, 2) := by decide +kernel
theorem dX11_atBell_4 : decode cX11_atBell 4 = .ok (.iload_n 0, 1) := by decide +kernel
theorem dX11_atBell_5 : decode cX11_atBell 5 = .ok (.imul, 1) := by decide +kernel
theorem dX11_atBell_6 : decode cX11_atBell 6 = .ok (.iadd, 1) := by decide +kernel
theorem dX11_atBell_7 : decode cX11_atBell 7 = .ok (.ireturn, 1) := by decide +kernel
theorem dX11_of_0 : decode cX11_of 0 = .ok (.aload_n 0, 1) := by decide +kernel
theorem dX11_of_1 : decode cX11_of 1 = .ok (.getfield 7, 3) := by decide +kernel
theorem dX11_of_4 : decode cX11_of 4 = .ok (.bipush 54, 2) := by decide +kernel
theorem dX11_of_6 : decode cX11_of 6 = .ok (.bipush 8, 2) := by decide +kernel
theorem dX11_of_8 : decode cX11_of 8 = .ok (.iload_n 1, 1) := by decide +kernel
theorem dX11_of_9 : decode cX11_of 9 = .ok (.imul, 1) := by decide +kernel
theorem dX11_of_10 : decode cX11_of 10 = .ok (.iadd, 1) := by decide +kernel
theorem dX11_of_11 : decode cX11_of 11 = .ok (.iload_n 2, 1) := by decide +kernel
theorem dX11_of_12 : decode cX11_of 12 = .ok (.iadd, 1) := by decide +kernel
theorem dX11_of_13 : decode cX11_of 13 = .ok (.iaload, 1) := by decide +kernel
theorem dX11_of_14 : decode cX11_of 14 = .ok (.ireturn, 1) := by decide +kernel
theorem dX11_isHere_0 : decode cX11_isHere 0 = .ok (.aload_n 0, 1) := by decide +kernel
theorem dX11_isHere_1 : decode cX11_isHere 1 = .ok (.iload_n 1, 1) := by decide +kernel
theorem dX11_isHere_2 : decode cX11_isHere 2 = .ok (.bipush 6, 2) := by decide +kernel
theorem dX11_isHere_4 : decode cX11_isHere 4 = .ok (.invokevirtual 104, 3) := by decide +kernel
theorem dX11_isHere_7 : decode cX11_isHere 7 = .ok (.iconst 2, 1) := by decide +kernel
theorem dX11_isHere_8 : decode cX11_isHere 8 = .ok (.if_icmp .ge 7, 3) := by decide +kernel
theorem dX11_isHere_11 : decode cX11_isHere 11 = .ok (.iconst 1, 1) := by decide +kernel
theorem dX11_isHere_12 : decode cX11_isHere 12 = .ok (.goto 4, 3) := by decide +kernel
theorem dX11_isHere_15 : decode cX11_isHere 15 = .ok (.iconst 0, 1) := by decide +kernel
theorem dX11_isHere_16 : decode cX11_isHere 16 = .ok (.ireturn, 1) := by decide +kernel
theorem dX11_here_0 : decode cX11_here 0 = .ok (.iconst 0, 1) := by decide +kernel
theorem dX11_here_1 : decode cX11_here 1 = .ok (.istore_n 1, 1) := by decide +kernel
theorem dX11_here_2 : decode cX11_here 2 = .ok (.iconst 0, 1) := by decide +kernel
theorem dX11_here_3 : decode cX11_here 3 = .ok (.istore_n 2, 1) := by decide +kernel
theorem dX11_here_4 : decode cX11_here 4 = .ok (.iload_n 2, 1) := by decide +kernel
theorem dX11_here_5 : decode cX11_here 5 = .ok (.aload_n 0, 1) := by decide +kernel
theorem dX11_here_6 : decode cX11_here 6 = .ok (.getfield 7, 3) := by decide +kernel
theorem dX11_here_9 : decode cX11_here 9 = .ok (.bipush 52, 2) := by decide +kernel
theorem dX11_here_11 : decode cX11_here 11 = .ok (.iaload, 1) := by decide +kernel
theorem dX11_here_12 : decode cX11_here 12 = .ok (.if_icmp .ge 25, 3) := by decide +kernel
theorem dX11_here_15 : decode cX11_here 15 = .ok (.iload_n 1, 1) := by decide +kernel
theorem dX11_here_16 : decode cX11_here 16 = .ok (.aload_n 0, 1) := by decide +kernel
theorem dX11_here_17 : decode cX11_here 17 = .ok (.iload_n 2, 1) := by decide +kernel
theorem dX11_here_18 : decode cX11_here 18 = .ok (.invokevirtual 107, 3) := by decide +kernel
theorem dX11_here_21 : decode cX11_here 21 = .ok (.ifCond .eq 7, 3) := by decide +kernel
theorem dX11_here_24 : decode cX11_here 24 = .ok (.iconst 1, 1) := by decide +kernel
theorem dX11_here_25 : decode cX11_here 25 = .ok (.goto 4, 3) := by decide +kernel
theorem dX11_here_28 : decode cX11_here 28 = .ok (.iconst 0, 1) := by decide +kernel
theorem dX11_here_29 : decode cX11_here 29 = .ok (.iadd, 1) := by decide +kernel
theorem dX11_here_30 : decode cX11_here 30 = .ok (.istore_n 1, 1) := by decide +kernel
theorem dX11_here_31 : decode cX11_here 31 = .ok (.iinc 2 1, 3) := by decide +kernel
theorem dX11_here_34 : decode cX11_here 34 = .ok (.goto (-30), 3) := by decide +kernel
theorem dX11_here_37 : decode cX11_here 37 = .ok (.iload_n 1, 1) := by decide +kernel
theorem dX11_here_38 : decode cX11_here 38 = .ok (.ireturn, 1) := by decide +kernel
theorem dX11_root_0 : decode cX11_root 0 = .ok (.iconst 0, 1) := by decide +kernel
theorem dX11_root_1 : decode cX11_root 1 = .ok (.istore_n 2, 1) := by decide +kernel
theorem dX11_root_2 : decode cX11_root 2 = .ok (.sipush 2048, 3) := by decide +kernel
theorem dX11_root_5 : decode cX11_root 5 = .ok (.istore_n 3, 1) := by decide +kernel
theorem dX11_root_6 : decode cX11_root 6 = .ok (.iload_n 3, 1) := by decide +kernel
theorem dX11_root_7 : decode cX11_root 7 = .ok (.ifCond .le 37, 3) := by decide +kernel
theorem dX11_root_10 : decode cX11_root 10 = .ok (.iload_n 2, 1) := by decide +kernel
theorem dX11_root_11 : decode cX11_root 11 = .ok (.iload_n 3, 1) := by decide +kernel
theorem dX11_root_12 : decode cX11_root 12 = .ok (.iadd, 1) := by decide +kernel
theorem dX11_root_13 : decode cX11_root 13 = .ok (.i2l, 1) := by decide +kernel
theorem dX11_root_14 : decode cX11_root 14 = .ok (.lstore 4, 2) := by decide +kernel
theorem dX11_root_16 : decode cX11_root 16 = .ok (.lload 4, 2) := by decide +kernel
theorem dX11_root_18 : decode cX11_root 18 = .ok (.lload 4, 2) := by decide +kernel
theorem dX11_root_20 : decode cX11_root 20 = .ok (.lmul, 1) := by decide +kernel
theorem dX11_root_21 : decode cX11_root 21 = .ok (.lload 4, 2) := by decide +kernel
theorem dX11_root_23 : decode cX11_root 23 = .ok (.lmul, 1) := by decide +kernel
theorem dX11_root_24 : decode cX11_root 24 = .ok (.lload_n 0, 1) := by decide +kernel
theorem dX11_root_25 : decode cX11_root 25 = .ok (.lcmp, 1) := by decide +kernel
theorem dX11_root_26 : decode cX11_root 26 = .ok (.ifCond .gt 9, 3) := by decide +kernel
theorem dX11_root_29 : decode cX11_root 29 = .ok (.iload_n 2, 1) := by decide +kernel
theorem dX11_root_30 : decode cX11_root 30 = .ok (.iload_n 3, 1) := by decide +kernel
theorem dX11_root_31 : decode cX11_root 31 = .ok (.iadd, 1) := by decide +kernel
theorem dX11_root_32 : decode cX11_root 32 = .ok (.goto 4, 3) := by decide +kernel
theorem dX11_root_35 : decode cX11_root 35 = .ok (.iload_n 2, 1) := by decide +kernel
theorem dX11_root_36 : decode cX11_root 36 = .ok (.istore_n 2, 1) := by decide +kernel
theorem dX11_root_37 : decode cX11_root 37 = .ok (.iload_n 3, 1) := by decide +kernel
theorem dX11_root_38 : decode cX11_root 38 = .ok (.iconst 2, 1) := by decide +kernel
theorem dX11_root_39 : decode cX11_root 39 = .ok (.idiv, 1) := by decide +kernel
theorem dX11_root_40 : decode cX11_root 40 = .ok (.istore_n 3, 1) := by decide +kernel
theorem dX11_root_41 : decode cX11_root 41 = .ok (.goto (-35), 3) := by decide +kernel
theorem dX11_root_44 : decode cX11_root 44 = .ok (.iload_n 2, 1) := by decide +kernel
theorem dX11_root_45 : decode cX11_root 45 = .ok (.ireturn, 1) := by decide +kernel
theorem dX11_factor_0 : decode cX11_factor 0 = .ok (.iload_n 0, 1) := by decide +kernel
theorem dX11_factor_1 : decode cX11_factor 1 = .ok (.ifCond .ne 9, 3) := by decide +kernel
theorem dX11_factor_4 : decode cX11_factor 4 = .ok (.sipush 900, 3) := by decide +kernel
theorem dX11_factor_7 : decode cX11_factor 7 = .ok (.goto 28, 3) := by decide +kernel
theorem dX11_factor_10 : decode cX11_factor 10 = .ok (.iload_n 0, 1) := by decide +kernel
theorem dX11_factor_11 : decode cX11_factor 11 = .ok (.iconst 1, 1) := by decide +kernel
theorem dX11_factor_12 : decode cX11_factor 12 = .ok (.if_icmp .ne 9, 3) := by decide +kernel
theorem dX11_factor_15 : decode cX11_factor 15 = .ok (.sipush 1200, 3) := by decide +kernel
theorem dX11_factor_18 : decode cX11_factor 18 = .ok (.goto 17, 3) := by decide +kernel
theorem dX11_factor_21 : decode cX11_factor 21 = .ok (.iload_n 0, 1) := by decide +kernel
theorem dX11_factor_22 : decode cX11_factor 22 = .ok (.iconst 2, 1) := by decide +kernel
theorem dX11_factor_23 : decode cX11_factor 23 = .ok (.if_icmp .ne 9, 3) := by decide +kernel
theorem dX11_factor_26 : decode cX11_factor 26 = .ok (.sipush 1500, 3) := by decide +kernel
theorem dX11_factor_29 : decode cX11_factor 29 = .ok (.goto 6, 3) := by decide +kernel
theorem dX11_factor_32 : decode cX11_factor 32 = .ok (.sipush 1100, 3) := by decide +kernel
theorem dX11_factor_35 : decode cX11_factor 35 = .ok (.ireturn, 1) := by decide +kernel
theorem dX11_pitchOf_0 : decode cX11_pitchOf 0 = .ok (.iload_n 0, 1) := by decide +kernel
theorem dX11_pitchOf_1 : decode cX11_pitchOf 1 = .ok (.invokestatic 110, 3) := by decide +kernel
theorem dX11_pitchOf_4 : decode cX11_pitchOf 4 = .ok (.sipush 1000, 3) := by decide +kernel
theorem dX11_pitchOf_7 : decode cX11_pitchOf 7 = .ok (.imul, 1) := by decide +kernel
theorem dX11_pitchOf_8 : decode cX11_pitchOf 8 = .ok (.ldc2_w 113, 3) := by decide +kernel
theorem dX11_pitchOf_11 : decode cX11_pitchOf 11 = .ok (.iload_n 1, 1) := by decide +kernel
theorem dX11_pitchOf_12 : decode cX11_pitchOf 12 = .ok (.i2l, 1) := by decide +kernel
theorem dX11_pitchOf_13 : decode cX11_pitchOf 13 = .ok (.lmul, 1) := by decide +kernel
theorem dX11_pitchOf_14 : decode cX11_pitchOf 14 = .ok (.invokestatic 115, 3) := by decide +kernel
theorem dX11_pitchOf_17 : decode cX11_pitchOf 17 = .ok (.idiv, 1) := by decide +kernel
theorem dX11_pitchOf_18 : decode cX11_pitchOf 18 = .ok (.iload_n 2, 1) := by decide +kernel
theorem dX11_pitchOf_19 : decode cX11_pitchOf 19 = .ok (.iconst 4, 1) := by decide +kernel
theorem dX11_pitchOf_20 : decode cX11_pitchOf 20 = .ok (.idiv, 1) := by decide +kernel
theorem dX11_pitchOf_21 : decode cX11_pitchOf 21 = .ok (.iadd, 1) := by decide +kernel
theorem dX11_pitchOf_22 : decode cX11_pitchOf 22 = .ok (.ireturn, 1) := by decide +kernel
theorem dX11_sprueOf_0 : decode cX11_sprueOf 0 = .ok (.iload_n 1, 1) := by decide +kernel
theorem dX11_sprueOf_1 : decode cX11_sprueOf 1 = .ok (.aload_n 0, 1) := by decide +kernel
theorem dX11_sprueOf_2 : decode cX11_sprueOf 2 = .ok (.iconst 4, 1) := by decide +kernel
theorem dX11_sprueOf_3 : decode cX11_sprueOf 3 = .ok (.invokevirtual 61, 3) := by decide +kernel
theorem dX11_sprueOf_6 : decode cX11_sprueOf 6 = .ok (.imul, 1) := by decide +kernel
theorem dX11_sprueOf_7 : decode cX11_sprueOf 7 = .ok (.sipush 999, 3) := by decide +kernel
theorem dX11_sprueOf_10 : decode cX11_sprueOf 10 = .ok (.iadd, 1) := by decide +kernel
theorem dX11_sprueOf_11 : decode cX11_sprueOf 11 = .ok (.sipush 1000, 3) := by decide +kernel
theorem dX11_sprueOf_14 : decode cX11_sprueOf 14 = .ok (.idiv, 1) := by decide +kernel
theorem dX11_sprueOf_15 : decode cX11_sprueOf 15 = .ok (.ireturn, 1) := by decide +kernel
theorem dX11_pour_0 : decode cX11_pour 0 = .ok (.iload_n 1, 1) := by decide +kernel
theorem dX11_pour_1 : decode cX11_pour 1 = .ok (.iconst 0, 1) := by decide +kernel
theorem dX11_pour_2 : decode cX11_pour 2 = .ok (.iconst 3, 1) := by decide +kernel
theorem dX11_pour_3 : decode cX11_pour 3 = .ok (.invokestatic 68, 3) := by decide +kernel
theorem dX11_pour_6 : decode cX11_pour 6 = .ok (.ifCond .eq 14, 3) := by decide +kernel
theorem dX11_pour_9 : decode cX11_pour 9 = .ok (.iload_n 2, 1) := by decide +kernel
theorem dX11_pour_10 : decode cX11_pour 10 = .ok (.iconst 1, 1) := by decide +kernel
theorem dX11_pour_11 : decode cX11_pour 11 = .ok (.sipush 10000, 3) := by decide +kernel
theorem dX11_pour_14 : decode cX11_pour 14 = .ok (.invokestatic 68, 3) := by decide +kernel
theorem dX11_pour_17 : decode cX11_pour 17 = .ok (.ifCond .ne 5, 3) := by decide +kernel
theorem dX11_pour_20 : decode cX11_pour 20 = .ok (.iconst (-1), 1) := by decide +kernel
theorem dX11_pour_21 : decode cX11_pour 21 = .ok (.ireturn, 1) := by decide +kernel
theorem dX11_pour_22 : decode cX11_pour 22 = .ok (.aload_n 0, 1) := by decide +kernel
theorem dX11_pour_23 : decode cX11_pour 23 = .ok (.iconst 4, 1) := by decide +kernel
theorem dX11_pour_24 : decode cX11_pour 24 = .ok (.invokevirtual 119, 3) := by decide +kernel
theorem dX11_pour_27 : decode cX11_pour 27 = .ok (.iload_n 2, 1) := by decide +kernel
theorem dX11_pour_28 : decode cX11_pour 28 = .ok (.aload_n 0, 1) := by decide +kernel
theorem dX11_pour_29 : decode cX11_pour 29 = .ok (.iload_n 2, 1) := by decide +kernel
theorem dX11_pour_30 : decode cX11_pour 30 = .ok (.invokevirtual 122, 3) := by decide +kernel
theorem dX11_pour_33 : decode cX11_pour 33 = .ok (.iadd, 1) := by decide +kernel
theorem dX11_pour_34 : decode cX11_pour 34 = .ok (.if_icmp .ge 6, 3) := by decide +kernel
theorem dX11_pour_37 : decode cX11_pour 37 = .ok (.bipush (-2), 2) := by decide +kernel
theorem dX11_pour_39 : decode cX11_pour 39 = .ok (.ireturn, 1) := by decide +kernel
theorem dX11_pour_40 : decode cX11_pour 40 = .ok (.aload_n 0, 1) := by decide +kernel
theorem dX11_pour_41 : decode cX11_pour 41 = .ok (.invokevirtual 125, 3) := by decide +kernel
theorem dX11_pour_44 : decode cX11_pour 44 = .ok (.bipush 12, 2) := by decide +kernel
theorem dX11_pour_46 : decode cX11_pour 46 = .ok (.if_icmp .eq 15, 3) := by decide +kernel
theorem dX11_pour_49 : decode cX11_pour 49 = .ok (.aload_n 0, 1) := by decide +kernel
theorem dX11_pour_50 : decode cX11_pour 50 = .ok (.getfield 7, 3) := by decide +kernel
theorem dX11_pour_53 : decode cX11_pour 53 = .ok (.bipush 52, 2) := by decide +kernel
theorem dX11_pour_55 : decode cX11_pour 55 = .ok (.iaload, 1) := by decide +kernel
theorem dX11_pour_56 : decode cX11_pour 56 = .ok (.bipush 100, 2) := by decide +kernel
theorem dX11_pour_58 : decode cX11_pour 58 = .ok (.if_icmp .ne 6, 3) := by decide +kernel
theorem dX11_pour_61 : decode cX11_pour 61 = .ok (.bipush (-3), 2) := by decide +kernel
theorem dX11_pour_63 : decode cX11_pour 63 = .ok (.ireturn, 1) := by decide +kernel
theorem dX11_pour_64 : decode cX11_pour 64 = .ok (.aload_n 0, 1) := by decide +kernel
theorem dX11_pour_65 : decode cX11_pour 65 = .ok (.invokevirtual 85, 3) := by decide +kernel
theorem dX11_pour_68 : decode cX11_pour 68 = .ok (.aload_n 0, 1) := by decide +kernel
theorem dX11_pour_69 : decode cX11_pour 69 = .ok (.bipush 6, 2) := by decide +kernel
theorem dX11_pour_71 : decode cX11_pour 71 = .ok (.invokevirtual 94, 3) := by decide +kernel
theorem dX11_pour_74 : decode cX11_pour 74 = .ok (.aload_n 0, 1) := by decide +kernel
theorem dX11_pour_75 : decode cX11_pour 75 = .ok (.getfield 7, 3) := by decide +kernel
theorem dX11_pour_78 : decode cX11_pour 78 = .ok (.bipush 52, 2) := by decide +kernel
theorem dX11_pour_80 : decode cX11_pour 80 = .ok (.iaload, 1) := by decide +kernel
theorem dX11_pour_81 : decode cX11_pour 81 = .ok (.istore_n 3, 1) := by decide +kernel
theorem dX11_pour_82 : decode cX11_pour 82 = .ok (.iload_n 3, 1) := by decide +kernel
theorem dX11_pour_83 : decode cX11_pour 83 = .ok (.invokestatic 129, 3) := by decide +kernel
theorem dX11_pour_86 : decode cX11_pour 86 = .ok (.istore 4, 2) := by decide +kernel
theorem dX11_pour_88 : decode cX11_pour 88 = .ok (.aload_n 0, 1) := by decide +kernel
theorem dX11_pour_89 : decode cX11_pour 89 = .ok (.getfield 7, 3) := by decide +kernel
theorem dX11_pour_92 : decode cX11_pour 92 = .ok (.bipush 52, 2) := by decide +kernel
theorem dX11_pour_94 : decode cX11_pour 94 = .ok (.dup2, 1) := by decide +kernel
theorem dX11_pour_95 : decode cX11_pour 95 = .ok (.iaload, 1) := by decide +kernel
theorem dX11_pour_96 : decode cX11_pour 96 = .ok (.iconst 1, 1) := by decide +kernel
theorem dX11_pour_97 : decode cX11_pour 97 = .ok (.iadd, 1) := by decide +kernel
theorem dX11_pour_98 : decode cX11_pour 98 = .ok (.iastore, 1) := by decide +kernel
theorem dX11_pour_99 : decode cX11_pour 99 = .ok (.aload_n 0, 1) := by decide +kernel
theorem dX11_pour_100 : decode cX11_pour 100 = .ok (.getfield 7, 3) := by decide +kernel
theorem dX11_pour_103 : decode cX11_pour 103 = .ok (.iload 4, 2) := by decide +kernel
theorem dX11_pour_105 : decode cX11_pour 105 = .ok (.iconst 0, 1) := by decide +kernel
theorem dX11_pour_106 : decode cX11_pour 106 = .ok (.iastore, 1) := by decide +kernel
theorem dX11_pour_107 : decode cX11_pour 107 = .ok (.aload_n 0, 1) := by decide +kernel
theorem dX11_pour_108 : decode cX11_pour 108 = .ok (.getfield 7, 3) := by decide +kernel
theorem dX11_pour_111 : decode cX11_pour 111 = .ok (.iload 4, 2) := by decide +kernel
theorem dX11_pour_113 : decode cX11_pour 113 = .ok (.iconst 1, 1) := by decide +kernel
theorem dX11_pour_114 : decode cX11_pour 114 = .ok (.iadd, 1) := by decide +kernel
theorem dX11_pour_115 : decode cX11_pour 115 = .ok (.iconst 0, 1) := by decide +kernel
theorem dX11_pour_116 : decode cX11_pour 116 = .ok (.iastore, 1) := by decide +kernel
theorem dX11_pour_117 : decode cX11_pour 117 = .ok (.aload_n 0, 1) := by decide +kernel
theorem dX11_pour_118 : decode cX11_pour 118 = .ok (.bipush 6, 2) := by decide +kernel
theorem dX11_pour_120 : decode cX11_pour 120 = .ok (.iload 4, 2) := by decide +kernel
theorem dX11_pour_122 : decode cX11_pour 122 = .ok (.iload_n 2, 1) := by decide +kernel
theorem dX11_pour_123 : decode cX11_pour 123 = .ok (.invokevirtual 75, 3) := by decide +kernel
theorem dX11_pour_126 : decode cX11_pour 126 = .ok (.aload_n 0, 1) := by decide +kernel
theorem dX11_pour_127 : decode cX11_pour 127 = .ok (.bipush 6, 2) := by decide +kernel
theorem dX11_pour_129 : decode cX11_pour 129 = .ok (.aload_n 0, 1) := by decide +kernel
theorem dX11_pour_130 : decode cX11_pour 130 = .ok (.iload_n 2, 1) := by decide +kernel
theorem dX11_pour_131 : decode cX11_pour 131 = .ok (.invokevirtual 122, 3) := by decide +kernel
theorem dX11_pour_134 : decode cX11_pour 134 = .ok (.iconst 0, 1) := by decide +kernel
theorem dX11_pour_135 : decode cX11_pour 135 = .ok (.invokevirtual 132, 3) := by decide +kernel
theorem dX11_pour_138 : decode cX11_pour 138 = .ok (.aload_n 0, 1) := by decide +kernel
theorem dX11_pour_139 : decode cX11_pour 139 = .ok (.getfield 7, 3) := by decide +kernel
theorem dX11_pour_142 : decode cX11_pour 142 = .ok (.iload 4, 2) := by decide +kernel
theorem dX11_pour_144 : decode cX11_pour 144 = .ok (.iconst 2, 1) := by decide +kernel
theorem dX11_pour_145 : decode cX11_pour 145 = .ok (.iadd, 1) := by decide +kernel
theorem dX11_pour_146 : decode cX11_pour 146 = .ok (.iload_n 1, 1) := by decide +kernel
theorem dX11_pour_147 : decode cX11_pour 147 = .ok (.iastore, 1) := by decide +kernel
theorem dX11_pour_148 : decode cX11_pour 148 = .ok (.aload_n 0, 1) := by decide +kernel
theorem dX11_pour_149 : decode cX11_pour 149 = .ok (.getfield 7, 3) := by decide +kernel
theorem dX11_pour_152 : decode cX11_pour 152 = .ok (.iload 4, 2) := by decide +kernel
theorem dX11_pour_154 : decode cX11_pour 154 = .ok (.iconst 3, 1) := by decide +kernel
theorem dX11_pour_155 : decode cX11_pour 155 = .ok (.iadd, 1) := by decide +kernel
theorem dX11_pour_156 : decode cX11_pour 156 = .ok (.iload_n 1, 1) := by decide +kernel
theorem dX11_pour_157 : decode cX11_pour 157 = .ok (.iload_n 2, 1) := by decide +kernel
theorem dX11_pour_158 : decode cX11_pour 158 = .ok (.aload_n 0, 1) := by decide +kernel
theorem dX11_pour_159 : decode cX11_pour 159 = .ok (.iload 4, 2) := by decide +kernel
theorem dX11_pour_161 : decode cX11_pour 161 = .ok (.invokevirtual 98, 3) := by decide +kernel
theorem dX11_pour_164 : decode cX11_pour 164 = .ok (.invokestatic 135, 3) := by decide +kernel
theorem dX11_pour_167 : decode cX11_pour 167 = .ok (.iastore, 1) := by decide +kernel
theorem dX11_pour_168 : decode cX11_pour 168 = .ok (.aload_n 0, 1) := by decide +kernel
theorem dX11_pour_169 : decode cX11_pour 169 = .ok (.getfield 7, 3) := by decide +kernel
theorem dX11_pour_172 : decode cX11_pour 172 = .ok (.iload 4, 2) := by decide +kernel
theorem dX11_pour_174 : decode cX11_pour 174 = .ok (.iconst 4, 1) := by decide +kernel
theorem dX11_pour_175 : decode cX11_pour 175 = .ok (.iadd, 1) := by decide +kernel
theorem dX11_pour_176 : decode cX11_pour 176 = .ok (.iload_n 2, 1) := by decide +kernel
theorem dX11_pour_177 : decode cX11_pour 177 = .ok (.iastore, 1) := by decide +kernel
theorem dX11_pour_178 : decode cX11_pour 178 = .ok (.aload_n 0, 1) := by decide +kernel
theorem dX11_pour_179 : decode cX11_pour 179 = .ok (.getfield 7, 3) := by decide +kernel
theorem dX11_pour_182 : decode cX11_pour 182 = .ok (.iload 4, 2) := by decide +kernel
theorem dX11_pour_184 : decode cX11_pour 184 = .ok (.iconst 5, 1) := by decide +kernel
theorem dX11_pour_185 : decode cX11_pour 185 = .ok (.iadd, 1) := by decide +kernel
theorem dX11_pour_186 : decode cX11_pour 186 = .ok (.iconst 0, 1) := by decide +kernel
theorem dX11_pour_187 : decode cX11_pour 187 = .ok (.iastore, 1) := by decide +kernel
theorem dX11_pour_188 : decode cX11_pour 188 = .ok (.aload_n 0, 1) := by decide +kernel
theorem dX11_pour_189 : decode cX11_pour 189 = .ok (.getfield 7, 3) := by decide +kernel
theorem dX11_pour_192 : decode cX11_pour 192 = .ok (.iload 4, 2) := by decide +kernel
theorem dX11_pour_194 : decode cX11_pour 194 = .ok (.bipush 6, 2) := by decide +kernel
theorem dX11_pour_196 : decode cX11_pour 196 = .ok (.iadd, 1) := by decide +kernel
theorem dX11_pour_197 : decode cX11_pour 197 = .ok (.aload_n 0, 1) := by decide +kernel
theorem dX11_pour_198 : decode cX11_pour 198 = .ok (.iload 4, 2) := by decide +kernel
theorem dX11_pour_200 : decode cX11_pour 200 = .ok (.invokevirtual 98, 3) := by decide +kernel
theorem dX11_pour_203 : decode cX11_pour 203 = .ok (.aload_n 0, 1) := by decide +kernel
theorem dX11_pour_204 : decode cX11_pour 204 = .ok (.iconst 2, 1) := by decide +kernel
theorem dX11_pour_205 : decode cX11_pour 205 = .ok (.invokevirtual 61, 3) := by decide +kernel
theorem dX11_pour_208 : decode cX11_pour 208 = .ok (.aload_n 0, 1) := by decide +kernel
theorem dX11_pour_209 : decode cX11_pour 209 = .ok (.iconst 3, 1) := by decide +kernel
theorem dX11_pour_210 : decode cX11_pour 210 = .ok (.invokevirtual 61, 3) := by decide +kernel
theorem dX11_pour_213 : decode cX11_pour 213 = .ok (.invokestatic 68, 3) := by decide +kernel
theorem dX11_pour_216 : decode cX11_pour 216 = .ok (.ifCond .eq 7, 3) := by decide +kernel
theorem dX11_pour_219 : decode cX11_pour 219 = .ok (.iconst 0, 1) := by decide +kernel
theorem dX11_pour_220 : decode cX11_pour 220 = .ok (.goto 4, 3) := by decide +kernel
theorem dX11_pour_223 : decode cX11_pour 223 = .ok (.iconst 1, 1) := by decide +kernel
theorem dX11_pour_224 : decode cX11_pour 224 = .ok (.iastore, 1) := by decide +kernel
theorem dX11_pour_225 : decode cX11_pour 225 = .ok (.aload_n 0, 1) := by decide +kernel
theorem dX11_pour_226 : decode cX11_pour 226 = .ok (.getfield 7, 3) := by decide +kernel
theorem dX11_pour_229 : decode cX11_pour 229 = .ok (.iload 4, 2) := by decide +kernel
theorem dX11_pour_231 : decode cX11_pour 231 = .ok (.bipush 7, 2) := by decide +kernel
theorem dX11_pour_233 : decode cX11_pour 233 = .ok (.iadd, 1) := by decide +kernel
theorem dX11_pour_234 : decode cX11_pour 234 = .ok (.bipush (-4), 2) := by decide +kernel
theorem dX11_pour_236 : decode cX11_pour 236 = .ok (.iastore, 1) := by decide +kernel
theorem dX11_pour_237 : decode cX11_pour 237 = .ok (.iload_n 3, 1) := by decide +kernel
theorem dX11_pour_238 : decode cX11_pour 238 = .ok (.ireturn, 1) := by decide +kernel
theorem dX11_lowered_0 : decode cX11_lowered 0 = .ok (.aload_n 0, 1) := by decide +kernel
theorem dX11_lowered_1 : decode cX11_lowered 1 = .ok (.iload_n 1, 1) := by decide +kernel
theorem dX11_lowered_2 : decode cX11_lowered 2 = .ok (.iconst 3, 1) := by decide +kernel
theorem dX11_lowered_3 : decode cX11_lowered 3 = .ok (.invokevirtual 104, 3) := by decide +kernel
theorem dX11_lowered_6 : decode cX11_lowered 6 = .ok (.aload_n 0, 1) := by decide +kernel
theorem dX11_lowered_7 : decode cX11_lowered 7 = .ok (.iconst 5, 1) := by decide +kernel
theorem dX11_lowered_8 : decode cX11_lowered 8 = .ok (.invokevirtual 61, 3) := by decide +kernel
theorem dX11_lowered_11 : decode cX11_lowered 11 = .ok (.sipush 1000, 3) := by decide +kernel
theorem dX11_lowered_14 : decode cX11_lowered 14 = .ok (.imul, 1) := by decide +kernel
theorem dX11_lowered_15 : decode cX11_lowered 15 = .ok (.iload_n 2, 1) := by decide +kernel
theorem dX11_lowered_16 : decode cX11_lowered 16 = .ok (.imul, 1) := by decide +kernel
theorem dX11_lowered_17 : decode cX11_lowered 17 = .ok (.aload_n 0, 1) := by decide +kernel
theorem dX11_lowered_18 : decode cX11_lowered 18 = .ok (.iload_n 1, 1) := by decide +kernel
theorem dX11_lowered_19 : decode cX11_lowered 19 = .ok (.invokestatic 129, 3) := by decide +kernel
theorem dX11_lowered_22 : decode cX11_lowered 22 = .ok (.invokevirtual 88, 3) := by decide +kernel
theorem dX11_lowered_25 : decode cX11_lowered 25 = .ok (.idiv, 1) := by decide +kernel
theorem dX11_lowered_26 : decode cX11_lowered 26 = .ok (.isub, 1) := by decide +kernel
theorem dX11_lowered_27 : decode cX11_lowered 27 = .ok (.istore_n 3, 1) := by decide +kernel
theorem dX11_lowered_28 : decode cX11_lowered 28 = .ok (.iload_n 3, 1) := by decide +kernel
theorem dX11_lowered_29 : decode cX11_lowered 29 = .ok (.iconst 1, 1) := by decide +kernel
theorem dX11_lowered_30 : decode cX11_lowered 30 = .ok (.if_icmp .ge 7, 3) := by decide +kernel
theorem dX11_lowered_33 : decode cX11_lowered 33 = .ok (.iconst 1, 1) := by decide +kernel
theorem dX11_lowered_34 : decode cX11_lowered 34 = .ok (.goto 4, 3) := by decide +kernel
theorem dX11_lowered_37 : decode cX11_lowered 37 = .ok (.iload_n 3, 1) := by decide +kernel
theorem dX11_lowered_38 : decode cX11_lowered 38 = .ok (.ireturn, 1) := by decide +kernel
theorem dX11_wouldCrack_0 : decode cX11_wouldCrack 0 = .ok (.aload_n 0, 1) := by decide +kernel
theorem dX11_wouldCrack_1 : decode cX11_wouldCrack 1 = .ok (.iload_n 1, 1) := by decide +kernel
theorem dX11_wouldCrack_2 : decode cX11_wouldCrack 2 = .ok (.iconst 5, 1) := by decide +kernel
theorem dX11_wouldCrack_3 : decode cX11_wouldCrack 3 = .ok (.invokevirtual 104, 3) := by decide +kernel
theorem dX11_wouldCrack_6 : decode cX11_wouldCrack 6 = .ok (.iload_n 2, 1) := by decide +kernel
theorem dX11_wouldCrack_7 : decode cX11_wouldCrack 7 = .ok (.iadd, 1) := by decide +kernel
theorem dX11_wouldCrack_8 : decode cX11_wouldCrack 8 = .ok (.aload_n 0, 1) := by decide +kernel
theorem dX11_wouldCrack_9 : decode cX11_wouldCrack 9 = .ok (.iload_n 1, 1) := by decide +kernel
theorem dX11_wouldCrack_10 : decode cX11_wouldCrack 10 = .ok (.iconst 2, 1) := by decide +kernel
theorem dX11_wouldCrack_11 : decode cX11_wouldCrack 11 = .ok (.invokevirtual 104, 3) := by decide +kernel
theorem dX11_wouldCrack_14 : decode cX11_wouldCrack 14 = .ok (.iconst 2, 1) := by decide +kernel
theorem dX11_wouldCrack_15 : decode cX11_wouldCrack 15 = .ok (.if_icmp .ne 8, 3) := by decide +kernel
theorem dX11_wouldCrack_18 : decode cX11_wouldCrack 18 = .ok (.bipush 20, 2) := by decide +kernel
theorem dX11_wouldCrack_20 : decode cX11_wouldCrack 20 = .ok (.goto 5, 3) := by decide +kernel
theorem dX11_wouldCrack_23 : decode cX11_wouldCrack 23 = .ok (.bipush 10, 2) := by decide +kernel
theorem dX11_wouldCrack_25 : decode cX11_wouldCrack 25 = .ok (.imul, 1) := by decide +kernel
theorem dX11_wouldCrack_26 : decode cX11_wouldCrack 26 = .ok (.aload_n 0, 1) := by decide +kernel
theorem dX11_wouldCrack_27 : decode cX11_wouldCrack 27 = .ok (.iload_n 1, 1) := by decide +kernel
theorem dX11_wouldCrack_28 : decode cX11_wouldCrack 28 = .ok (.iconst 4, 1) := by decide +kernel
theorem dX11_wouldCrack_29 : decode cX11_wouldCrack 29 = .ok (.invokevirtual 104, 3) := by decide +kernel
theorem dX11_wouldCrack_32 : decode cX11_wouldCrack 32 = .ok (.if_icmp .le 7, 3) := by decide +kernel
theorem dX11_wouldCrack_35 : decode cX11_wouldCrack 35 = .ok (.iconst 1, 1) := by decide +kernel
theorem dX11_wouldCrack_36 : decode cX11_wouldCrack 36 = .ok (.goto 4, 3) := by decide +kernel
theorem dX11_wouldCrack_39 : decode cX11_wouldCrack 39 = .ok (.iconst 0, 1) := by decide +kernel
theorem dX11_wouldCrack_40 : decode cX11_wouldCrack 40 = .ok (.ireturn, 1) := by decide +kernel
theorem dX11_tune_0 : decode cX11_tune 0 = .ok (.aload_n 0, 1) := by decide +kernel
theorem dX11_tune_1 : decode cX11_tune 1 = .ok (.iload_n 1, 1) := by decide +kernel
theorem dX11_tune_2 : decode cX11_tune 2 = .ok (.invokevirtual 138, 3) := by decide +kernel
theorem dX11_tune_5 : decode cX11_tune 5 = .ok (.ifCond .eq 14, 3) := by decide +kernel
theorem dX11_tune_8 : decode cX11_tune 8 = .ok (.iload_n 2, 1) := by decide +kernel
theorem dX11_tune_9 : decode cX11_tune 9 = .ok (.iconst 1, 1) := by decide +kernel
theorem dX11_tune_10 : decode cX11_tune 10 = .ok (.sipush 1000, 3) := by decide +kernel
theorem dX11_tune_13 : decode cX11_tune 13 = .ok (.invokestatic 68, 3) := by decide +kernel
theorem dX11_tune_16 : decode cX11_tune 16 = .ok (.ifCond .ne 5, 3) := by decide +kernel
theorem dX11_tune_19 : decode cX11_tune 19 = .ok (.iconst (-1), 1) := by decide +kernel
theorem dX11_tune_20 : decode cX11_tune 20 = .ok (.ireturn, 1) := by decide +kernel
theorem dX11_tune_21 : decode cX11_tune 21 = .ok (.aload_n 0, 1) := by decide +kernel
theorem dX11_tune_22 : decode cX11_tune 22 = .ok (.iload_n 1, 1) := by decide +kernel
theorem dX11_tune_23 : decode cX11_tune 23 = .ok (.bipush 6, 2) := by decide +kernel
theorem dX11_tune_25 : decode cX11_tune 25 = .ok (.invokevirtual 104, 3) := by decide +kernel
theorem dX11_tune_28 : decode cX11_tune 28 = .ok (.ifCond .ne 15, 3) := by decide +kernel
theorem dX11_tune_31 : decode cX11_tune 31 = .ok (.aload_n 0, 1) := by decide +kernel
theorem dX11_tune_32 : decode cX11_tune 32 = .ok (.iload_n 1, 1) := by decide +kernel
theorem dX11_tune_33 : decode cX11_tune 33 = .ok (.invokestatic 129, 3) := by decide +kernel
theorem dX11_tune_36 : decode cX11_tune 36 = .ok (.invokevirtual 88, 3) := by decide +kernel
theorem dX11_tune_39 : decode cX11_tune 39 = .ok (.iload_n 2, 1) := by decide +kernel
theorem dX11_tune_40 : decode cX11_tune 40 = .ok (.if_icmp .gt 6, 3) := by decide +kernel
theorem dX11_tune_43 : decode cX11_tune 43 = .ok (.bipush (-2), 2) := by decide +kernel
theorem dX11_tune_45 : decode cX11_tune 45 = .ok (.ireturn, 1) := by decide +kernel
theorem dX11_tune_46 : decode cX11_tune 46 = .ok (.aload_n 0, 1) := by decide +kernel
theorem dX11_tune_47 : decode cX11_tune 47 = .ok (.invokevirtual 85, 3) := by decide +kernel
theorem dX11_tune_50 : decode cX11_tune 50 = .ok (.iload_n 1, 1) := by decide +kernel
theorem dX11_tune_51 : decode cX11_tune 51 = .ok (.invokestatic 129, 3) := by decide +kernel
theorem dX11_tune_54 : decode cX11_tune 54 = .ok (.istore_n 3, 1) := by decide +kernel
theorem dX11_tune_55 : decode cX11_tune 55 = .ok (.aload_n 0, 1) := by decide +kernel
theorem dX11_tune_56 : decode cX11_tune 56 = .ok (.getfield 7, 3) := by decide +kernel
theorem dX11_tune_59 : decode cX11_tune 59 = .ok (.iload_n 3, 1) := by decide +kernel
theorem dX11_tune_60 : decode cX11_tune 60 = .ok (.iconst 3, 1) := by decide +kernel
theorem dX11_tune_61 : decode cX11_tune 61 = .ok (.iadd, 1) := by decide +kernel
theorem dX11_tune_62 : decode cX11_tune 62 = .ok (.aload_n 0, 1) := by decide +kernel
theorem dX11_tune_63 : decode cX11_tune 63 = .ok (.iload_n 1, 1) := by decide +kernel
theorem dX11_tune_64 : decode cX11_tune 64 = .ok (.iload_n 2, 1) := by decide +kernel
theorem dX11_tune_65 : decode cX11_tune 65 = .ok (.invokevirtual 141, 3) := by decide +kernel
theorem dX11_tune_68 : decode cX11_tune 68 = .ok (.iastore, 1) := by decide +kernel
theorem dX11_tune_69 : decode cX11_tune 69 = .ok (.aload_n 0, 1) := by decide +kernel
theorem dX11_tune_70 : decode cX11_tune 70 = .ok (.getfield 7, 3) := by decide +kernel
theorem dX11_tune_73 : decode cX11_tune 73 = .ok (.iload_n 3, 1) := by decide +kernel
theorem dX11_tune_74 : decode cX11_tune 74 = .ok (.bipush 6, 2) := by decide +kernel
theorem dX11_tune_76 : decode cX11_tune 76 = .ok (.iadd, 1) := by decide +kernel
theorem dX11_tune_77 : decode cX11_tune 77 = .ok (.aload_n 0, 1) := by decide +kernel
theorem dX11_tune_78 : decode cX11_tune 78 = .ok (.iload_n 1, 1) := by decide +kernel
theorem dX11_tune_79 : decode cX11_tune 79 = .ok (.iload_n 2, 1) := by decide +kernel
theorem dX11_tune_80 : decode cX11_tune 80 = .ok (.invokevirtual 144, 3) := by decide +kernel
theorem dX11_tune_83 : decode cX11_tune 83 = .ok (.ifCond .eq 7, 3) := by decide +kernel
theorem dX11_tune_86 : decode cX11_tune 86 = .ok (.iconst 1, 1) := by decide +kernel
theorem dX11_tune_87 : decode cX11_tune 87 = .ok (.goto 4, 3) := by decide +kernel
theorem dX11_tune_90 : decode cX11_tune 90 = .ok (.iconst 0, 1) := by decide +kernel
theorem dX11_tune_91 : decode cX11_tune 91 = .ok (.iastore, 1) := by decide +kernel
theorem dX11_tune_92 : decode cX11_tune 92 = .ok (.aload_n 0, 1) := by decide +kernel
theorem dX11_tune_93 : decode cX11_tune 93 = .ok (.getfield 7, 3) := by decide +kernel
theorem dX11_tune_96 : decode cX11_tune 96 = .ok (.iload_n 3, 1) := by decide +kernel
theorem dX11_tune_97 : decode cX11_tune 97 = .ok (.iconst 5, 1) := by decide +kernel
theorem dX11_tune_98 : decode cX11_tune 98 = .ok (.iadd, 1) := by decide +kernel
theorem dX11_tune_99 : decode cX11_tune 99 = .ok (.dup2, 1) := by decide +kernel
theorem dX11_tune_100 : decode cX11_tune 100 = .ok (.iaload, 1) := by decide +kernel
theorem dX11_tune_101 : decode cX11_tune 101 = .ok (.iload_n 2, 1) := by decide +kernel
theorem dX11_tune_102 : decode cX11_tune 102 = .ok (.iadd, 1) := by decide +kernel
theorem dX11_tune_103 : decode cX11_tune 103 = .ok (.iastore, 1) := by decide +kernel
theorem dX11_tune_104 : decode cX11_tune 104 = .ok (.aload_n 0, 1) := by decide +kernel
theorem dX11_tune_105 : decode cX11_tune 105 = .ok (.iload_n 3, 1) := by decide +kernel
theorem dX11_tune_106 : decode cX11_tune 106 = .ok (.iload_n 2, 1) := by decide +kernel
theorem dX11_tune_107 : decode cX11_tune 107 = .ok (.iconst 1, 1) := by decide +kernel
theorem dX11_tune_108 : decode cX11_tune 108 = .ok (.invokevirtual 132, 3) := by decide +kernel
theorem dX11_tune_111 : decode cX11_tune 111 = .ok (.aload_n 0, 1) := by decide +kernel
theorem dX11_tune_112 : decode cX11_tune 112 = .ok (.getfield 7, 3) := by decide +kernel
theorem dX11_tune_115 : decode cX11_tune 115 = .ok (.iload_n 3, 1) := by decide +kernel
theorem dX11_tune_116 : decode cX11_tune 116 = .ok (.iconst 3, 1) := by decide +kernel
theorem dX11_tune_117 : decode cX11_tune 117 = .ok (.iadd, 1) := by decide +kernel
theorem dX11_tune_118 : decode cX11_tune 118 = .ok (.iaload, 1) := by decide +kernel
theorem dX11_tune_119 : decode cX11_tune 119 = .ok (.ireturn, 1) := by decide +kernel
theorem dX11_smash_0 : decode cX11_smash 0 = .ok (.aload_n 0, 1) := by decide +kernel
theorem dX11_smash_1 : decode cX11_smash 1 = .ok (.iload_n 1, 1) := by decide +kernel
theorem dX11_smash_2 : decode cX11_smash 2 = .ok (.invokevirtual 138, 3) := by decide +kernel
theorem dX11_smash_5 : decode cX11_smash 5 = .ok (.ifCond .ne 5, 3) := by decide +kernel
theorem dX11_smash_8 : decode cX11_smash 8 = .ok (.iconst (-1), 1) := by decide +kernel
theorem dX11_smash_9 : decode cX11_smash 9 = .ok (.ireturn, 1) := by decide +kernel
theorem dX11_smash_10 : decode cX11_smash 10 = .ok (.aload_n 0, 1) := by decide +kernel
theorem dX11_smash_11 : decode cX11_smash 11 = .ok (.iload_n 1, 1) := by decide +kernel
theorem dX11_smash_12 : decode cX11_smash 12 = .ok (.invokevirtual 107, 3) := by decide +kernel
theorem dX11_smash_15 : decode cX11_smash 15 = .ok (.ifCond .ne 6, 3) := by decide +kernel
theorem dX11_smash_18 : decode cX11_smash 18 = .ok (.bipush (-2), 2) := by decide +kernel
theorem dX11_smash_20 : decode cX11_smash 20 = .ok (.ireturn, 1) := by decide +kernel
theorem dX11_smash_21 : decode cX11_smash 21 = .ok (.aload_n 0, 1) := by decide +kernel
theorem dX11_smash_22 : decode cX11_smash 22 = .ok (.invokevirtual 85, 3) := by decide +kernel
theorem dX11_smash_25 : decode cX11_smash 25 = .ok (.aload_n 0, 1) := by decide +kernel
theorem dX11_smash_26 : decode cX11_smash 26 = .ok (.iload_n 1, 1) := by decide +kernel
theorem dX11_smash_27 : decode cX11_smash 27 = .ok (.invokestatic 129, 3) := by decide +kernel
theorem dX11_smash_30 : decode cX11_smash 30 = .ok (.invokevirtual 88, 3) := by decide +kernel
theorem dX11_smash_33 : decode cX11_smash 33 = .ok (.istore_n 2, 1) := by decide +kernel
theorem dX11_smash_34 : decode cX11_smash 34 = .ok (.aload_n 0, 1) := by decide +kernel
theorem dX11_smash_35 : decode cX11_smash 35 = .ok (.iload_n 1, 1) := by decide +kernel
theorem dX11_smash_36 : decode cX11_smash 36 = .ok (.invokestatic 129, 3) := by decide +kernel
theorem dX11_smash_39 : decode cX11_smash 39 = .ok (.iload_n 2, 1) := by decide +kernel
theorem dX11_smash_40 : decode cX11_smash 40 = .ok (.iconst 2, 1) := by decide +kernel
theorem dX11_smash_41 : decode cX11_smash 41 = .ok (.invokevirtual 132, 3) := by decide +kernel
theorem dX11_smash_44 : decode cX11_smash 44 = .ok (.aload_n 0, 1) := by decide +kernel
theorem dX11_smash_45 : decode cX11_smash 45 = .ok (.getfield 7, 3) := by decide +kernel
theorem dX11_smash_48 : decode cX11_smash 48 = .ok (.iload_n 1, 1) := by decide +kernel
theorem dX11_smash_49 : decode cX11_smash 49 = .ok (.invokestatic 129, 3) := by decide +kernel
theorem dX11_smash_52 : decode cX11_smash 52 = .ok (.bipush 6, 2) := by decide +kernel
theorem dX11_smash_54 : decode cX11_smash 54 = .ok (.iadd, 1) := by decide +kernel
theorem dX11_smash_55 : decode cX11_smash 55 = .ok (.iconst 3, 1) := by decide +kernel
theorem dX11_smash_56 : decode cX11_smash 56 = .ok (.iastore, 1) := by decide +kernel
theorem dX11_smash_57 : decode cX11_smash 57 = .ok (.iload_n 2, 1) := by decide +kernel
theorem dX11_smash_58 : decode cX11_smash 58 = .ok (.ireturn, 1) := by decide +kernel
theorem dX11_bell_0 : decode cX11_bell 0 = .ok (.aload_n 0, 1) := by decide +kernel
theorem dX11_bell_1 : decode cX11_bell 1 = .ok (.iload_n 1, 1) := by decide +kernel
theorem dX11_bell_2 : decode cX11_bell 2 = .ok (.invokevirtual 138, 3) := by decide +kernel
theorem dX11_bell_5 : decode cX11_bell 5 = .ok (.ifCond .eq 13, 3) := by decide +kernel
theorem dX11_bell_8 : decode cX11_bell 8 = .ok (.iload_n 2, 1) := by decide +kernel
theorem dX11_bell_9 : decode cX11_bell 9 = .ok (.iconst 0, 1) := by decide +kernel
theorem dX11_bell_10 : decode cX11_bell 10 = .ok (.bipush 9, 2) := by decide +kernel
theorem dX11_bell_12 : decode cX11_bell 12 = .ok (.invokestatic 68, 3) := by decide +kernel
theorem dX11_bell_15 : decode cX11_bell 15 = .ok (.ifCond .ne 5, 3) := by decide +kernel
theorem dX11_bell_18 : decode cX11_bell 18 = .ok (.iconst (-1), 1) := by decide +kernel
theorem dX11_bell_19 : decode cX11_bell 19 = .ok (.ireturn, 1) := by decide +kernel
theorem dX11_bell_20 : decode cX11_bell 20 = .ok (.iload_n 2, 1) := by decide +kernel
theorem dX11_bell_21 : decode cX11_bell 21 = .ok (.iconst 4, 1) := by decide +kernel
theorem dX11_bell_22 : decode cX11_bell 22 = .ok (.if_icmp .ge 17, 3) := by decide +kernel
theorem dX11_bell_25 : decode cX11_bell 25 = .ok (.aload_n 0, 1) := by decide +kernel
theorem dX11_bell_26 : decode cX11_bell 26 = .ok (.iload_n 1, 1) := by decide +kernel
theorem dX11_bell_27 : decode cX11_bell 27 = .ok (.bipush 6, 2) := by decide +kernel
theorem dX11_bell_29 : decode cX11_bell 29 = .ok (.invokevirtual 104, 3) := by decide +kernel
theorem dX11_bell_32 : decode cX11_bell 32 = .ok (.iconst 3, 1) := by decide +kernel
theorem dX11_bell_33 : decode cX11_bell 33 = .ok (.if_icmp .ne 6, 3) := by decide +kernel
theorem dX11_bell_36 : decode cX11_bell 36 = .ok (.bipush (-4), 2) := by decide +kernel
theorem dX11_bell_38 : decode cX11_bell 38 = .ok (.ireturn, 1) := by decide +kernel
theorem dX11_bell_39 : decode cX11_bell 39 = .ok (.iload_n 2, 1) := by decide +kernel
theorem dX11_bell_40 : decode cX11_bell 40 = .ok (.iconst 2, 1) := by decide +kernel
theorem dX11_bell_41 : decode cX11_bell 41 = .ok (.if_icmp .eq 8, 3) := by decide +kernel
theorem dX11_bell_44 : decode cX11_bell 44 = .ok (.iload_n 2, 1) := by decide +kernel
theorem dX11_bell_45 : decode cX11_bell 45 = .ok (.iconst 3, 1) := by decide +kernel
theorem dX11_bell_46 : decode cX11_bell 46 = .ok (.if_icmp .ne 28, 3) := by decide +kernel
theorem dX11_bell_49 : decode cX11_bell 49 = .ok (.iload_n 2, 1) := by decide +kernel
theorem dX11_bell_50 : decode cX11_bell 50 = .ok (.iconst 2, 1) := by decide +kernel
theorem dX11_bell_51 : decode cX11_bell 51 = .ok (.if_icmp .ne 14, 3) := by decide +kernel
theorem dX11_bell_54 : decode cX11_bell 54 = .ok (.aload_n 0, 1) := by decide +kernel
theorem dX11_bell_55 : decode cX11_bell 55 = .ok (.iload_n 1, 1) := by decide +kernel
theorem dX11_bell_56 : decode cX11_bell 56 = .ok (.invokestatic 129, 3) := by decide +kernel
theorem dX11_bell_59 : decode cX11_bell 59 = .ok (.invokevirtual 88, 3) := by decide +kernel
theorem dX11_bell_62 : decode cX11_bell 62 = .ok (.goto 11, 3) := by decide +kernel
theorem dX11_bell_65 : decode cX11_bell 65 = .ok (.aload_n 0, 1) := by decide +kernel
theorem dX11_bell_66 : decode cX11_bell 66 = .ok (.iload_n 1, 1) := by decide +kernel
theorem dX11_bell_67 : decode cX11_bell 67 = .ok (.invokestatic 129, 3) := by decide +kernel
theorem dX11_bell_70 : decode cX11_bell 70 = .ok (.invokevirtual 98, 3) := by decide +kernel
theorem dX11_bell_73 : decode cX11_bell 73 = .ok (.ireturn, 1) := by decide +kernel
theorem dX11_bell_74 : decode cX11_bell 74 = .ok (.aload_n 0, 1) := by decide +kernel
theorem dX11_bell_75 : decode cX11_bell 75 = .ok (.iload_n 1, 1) := by decide +kernel
theorem dX11_bell_76 : decode cX11_bell 76 = .ok (.iload_n 2, 1) := by decide +kernel
theorem dX11_bell_77 : decode cX11_bell 77 = .ok (.iconst 2, 1) := by decide +kernel
theorem dX11_bell_78 : decode cX11_bell 78 = .ok (.if_icmp .ge 7, 3) := by decide +kernel
theorem dX11_bell_81 : decode cX11_bell 81 = .ok (.iload_n 2, 1) := by decide +kernel
theorem dX11_bell_82 : decode cX11_bell 82 = .ok (.goto 6, 3) := by decide +kernel
theorem dX11_bell_85 : decode cX11_bell 85 = .ok (.iload_n 2, 1) := by decide +kernel
theorem dX11_bell_86 : decode cX11_bell 86 = .ok (.iconst 2, 1) := by decide +kernel
theorem dX11_bell_87 : decode cX11_bell 87 = .ok (.isub, 1) := by decide +kernel
theorem dX11_bell_88 : decode cX11_bell 88 = .ok (.invokevirtual 104, 3) := by decide +kernel
theorem dX11_bell_91 : decode cX11_bell 91 = .ok (.ireturn, 1) := by decide +kernel
theorem dX11_isOrder_0 : decode cX11_isOrder 0 = .ok (.iload_n 1, 1) := by decide +kernel
theorem dX11_isOrder_1 : decode cX11_isOrder 1 = .ok (.iconst 0, 1) := by decide +kernel
theorem dX11_isOrder_2 : decode cX11_isOrder 2 = .ok (.aload_n 0, 1) := by decide +kernel
theorem dX11_isOrder_3 : decode cX11_isOrder 3 = .ok (.getfield 7, 3) := by decide +kernel
theorem dX11_isOrder_6 : decode cX11_isOrder 6 = .ok (.bipush 53, 2) := by decide +kernel
theorem dX11_isOrder_8 : decode cX11_isOrder 8 = .ok (.iaload, 1) := by decide +kernel
theorem dX11_isOrder_9 : decode cX11_isOrder 9 = .ok (.iconst 1, 1) := by decide +kernel
theorem dX11_isOrder_10 : decode cX11_isOrder 10 = .ok (.isub, 1) := by decide +kernel
theorem dX11_isOrder_11 : decode cX11_isOrder 11 = .ok (.invokestatic 68, 3) := by decide +kernel
theorem dX11_isOrder_14 : decode cX11_isOrder 14 = .ok (.ireturn, 1) := by decide +kernel
theorem dX11_ofOrder_0 : decode cX11_ofOrder 0 = .ok (.aload_n 0, 1) := by decide +kernel
theorem dX11_ofOrder_1 : decode cX11_ofOrder 1 = .ok (.getfield 7, 3) := by decide +kernel
theorem dX11_ofOrder_4 : decode cX11_ofOrder 4 = .ok (.sipush 854, 3) := by decide +kernel
theorem dX11_ofOrder_7 : decode cX11_ofOrder 7 = .ok (.iconst 4, 1) := by decide +kernel
theorem dX11_ofOrder_8 : decode cX11_ofOrder 8 = .ok (.iload_n 1, 1) := by decide +kernel
theorem dX11_ofOrder_9 : decode cX11_ofOrder 9 = .ok (.imul, 1) := by decide +kernel
theorem dX11_ofOrder_10 : decode cX11_ofOrder 10 = .ok (.iadd, 1) := by decide +kernel
theorem dX11_ofOrder_11 : decode cX11_ofOrder 11 = .ok (.iload_n 2, 1) := by decide +kernel
theorem dX11_ofOrder_12 : decode cX11_ofOrder 12 = .ok (.iadd, 1) := by decide +kernel
theorem dX11_ofOrder_13 : decode cX11_ofOrder 13 = .ok (.iaload, 1) := by decide +kernel
theorem dX11_ofOrder_14 : decode cX11_ofOrder 14 = .ok (.ireturn, 1) := by decide +kernel
theorem dX11_ordersThatAre_0 : decode cX11_ordersThatAre 0 = .ok (.iconst 0, 1) := by decide +kernel
theorem dX11_ordersThatAre_1 : decode cX11_ordersThatAre 1 = .ok (.istore_n 2, 1) := by decide +kernel
theorem dX11_ordersThatAre_2 : decode cX11_ordersThatAre 2 = .ok (.iconst 0, 1) := by decide +kernel
theorem dX11_ordersThatAre_3 : decode cX11_ordersThatAre 3 = .ok (.istore_n 3, 1) := by decide +kernel
theorem dX11_ordersThatAre_4 : decode cX11_ordersThatAre 4 = .ok (.iload_n 3, 1) := by decide +kernel
theorem dX11_ordersThatAre_5 : decode cX11_ordersThatAre 5 = .ok (.aload_n 0, 1) := by decide +kernel
theorem dX11_ordersThatAre_6 : decode cX11_ordersThatAre 6 = .ok (.getfield 7, 3) := by decide +kernel
theorem dX11_ordersThatAre_9 : decode cX11_ordersThatAre 9 = .ok (.bipush 53, 2) := by decide +kernel
theorem dX11_ordersThatAre_11 : decode cX11_ordersThatAre 11 = .ok (.iaload, 1) := by decide +kernel
theorem dX11_ordersThatAre_12 : decode cX11_ordersThatAre 12 = .ok (.if_icmp .ge 27, 3) := by decide +kernel
theorem dX11_ordersThatAre_15 : decode cX11_ordersThatAre 15 = .ok (.iload_n 2, 1) := by decide +kernel
theorem dX11_ordersThatAre_16 : decode cX11_ordersThatAre 16 = .ok (.aload_n 0, 1) := by decide +kernel
theorem dX11_ordersThatAre_17 : decode cX11_ordersThatAre 17 = .ok (.iload_n 3, 1) := by decide +kernel
theorem dX11_ordersThatAre_18 : decode cX11_ordersThatAre 18 = .ok (.iconst 3, 1) := by decide +kernel
theorem dX11_ordersThatAre_19 : decode cX11_ordersThatAre 19 = .ok (.invokevirtual 148, 3) := by decide +kernel
theorem dX11_ordersThatAre_22 : decode cX11_ordersThatAre 22 = .ok (.iload_n 1, 1) := by decide +kernel
theorem dX11_ordersThatAre_23 : decode cX11_ordersThatAre 23 = .ok (.if_icmp .ne 7, 3) := by decide +kernel
theorem dX11_ordersThatAre_26 : decode cX11_ordersThatAre 26 = .ok (.iconst 1, 1) := by decide +kernel
theorem dX11_ordersThatAre_27 : decode cX11_ordersThatAre 27 = .ok (.goto 4, 3) := by decide +kernel
theorem dX11_ordersThatAre_30 : decode cX11_ordersThatAre 30 = .ok (.iconst 0, 1) := by decide +kernel
theorem dX11_ordersThatAre_31 : decode cX11_ordersThatAre 31 = .ok (.iadd, 1) := by decide +kernel
theorem dX11_ordersThatAre_32 : decode cX11_ordersThatAre 32 = .ok (.istore_n 2, 1) := by decide +kernel
theorem dX11_ordersThatAre_33 : decode cX11_ordersThatAre 33 = .ok (.iinc 3 1, 3) := by decide +kernel
theorem dX11_ordersThatAre_36 : decode cX11_ordersThatAre 36 = .ok (.goto (-32), 3) := by decide +kernel
theorem dX11_ordersThatAre_39 : decode cX11_ordersThatAre 39 = .ok (.iload_n 2, 1) := by decide +kernel
theorem dX11_ordersThatAre_40 : decode cX11_ordersThatAre 40 = .ok (.ireturn, 1) := by decide +kernel
theorem dX11_bellsThatAre_0 : decode cX11_bellsThatAre 0 = .ok (.iconst 0, 1) := by decide +kernel
theorem dX11_bellsThatAre_1 : decode cX11_bellsThatAre 1 = .ok (.istore_n 2, 1) := by decide +kernel
theorem dX11_bellsThatAre_2 : decode cX11_bellsThatAre 2 = .ok (.iconst 0, 1) := by decide +kernel
theorem dX11_bellsThatAre_3 : decode cX11_bellsThatAre 3 = .ok (.istore_n 3, 1) := by decide +kernel
theorem dX11_bellsThatAre_4 : decode cX11_bellsThatAre 4 = .ok (.iload_n 3, 1) := by decide +kernel
theorem dX11_bellsThatAre_5 : decode cX11_bellsThatAre 5 = .ok (.aload_n 0, 1) := by decide +kernel
theorem dX11_bellsThatAre_6 : decode cX11_bellsThatAre 6 = .ok (.getfield 7, 3) := by decide +kernel
theorem dX11_bellsThatAre_9 : decode cX11_bellsThatAre 9 = .ok (.bipush 52, 2) := by decide +kernel
theorem dX11_bellsThatAre_11 : decode cX11_bellsThatAre 11 = .ok (.iaload, 1) := by decide +kernel
theorem dX11_bellsThatAre_12 : decode cX11_bellsThatAre 12 = .ok (.if_icmp .ge 28, 3) := by decide +kernel
theorem dX11_bellsThatAre_15 : decode cX11_bellsThatAre 15 = .ok (.iload_n 2, 1) := by decide +kernel
theorem dX11_bellsThatAre_16 : decode cX11_bellsThatAre 16 = .ok (.aload_n 0, 1) := by decide +kernel
theorem dX11_bellsThatAre_17 : decode cX11_bellsThatAre 17 = .ok (.iload_n 3, 1) := by decide +kernel
theorem dX11_bellsThatAre_18 : decode cX11_bellsThatAre 18 = .ok (.bipush 6, 2) := by decide +kernel
theorem dX11_bellsThatAre_20 : decode cX11_bellsThatAre 20 = .ok (.invokevirtual 104, 3) := by decide +kernel
theorem dX11_bellsThatAre_23 : decode cX11_bellsThatAre 23 = .ok (.iload_n 1, 1) := by decide +kernel
theorem dX11_bellsThatAre_24 : decode cX11_bellsThatAre 24 = .ok (.if_icmp .ne 7, 3) := by decide +kernel
theorem dX11_bellsThatAre_27 : decode cX11_bellsThatAre 27 = .ok (.iconst 1, 1) := by decide +kernel
theorem dX11_bellsThatAre_28 : decode cX11_bellsThatAre 28 = .ok (.goto 4, 3) := by decide +kernel
theorem dX11_bellsThatAre_31 : decode cX11_bellsThatAre 31 = .ok (.iconst 0, 1) := by decide +kernel
theorem dX11_bellsThatAre_32 : decode cX11_bellsThatAre 32 = .ok (.iadd, 1) := by decide +kernel
theorem dX11_bellsThatAre_33 : decode cX11_bellsThatAre 33 = .ok (.istore_n 2, 1) := by decide +kernel
theorem dX11_bellsThatAre_34 : decode cX11_bellsThatAre 34 = .ok (.iinc 3 1, 3) := by decide +kernel
theorem dX11_bellsThatAre_37 : decode cX11_bellsThatAre 37 = .ok (.goto (-33), 3) := by decide +kernel
theorem dX11_bellsThatAre_40 : decode cX11_bellsThatAre 40 = .ok (.iload_n 2, 1) := by decide +kernel
theorem dX11_bellsThatAre_41 : decode cX11_bellsThatAre 41 = .ok (.ireturn, 1) := by decide +kernel
theorem dX11_isPitch_0 : decode cX11_isPitch 0 = .ok (.iload_n 1, 1) := by decide +kernel
theorem dX11_isPitch_1 : decode cX11_isPitch 1 = .ok (.aload_n 0, 1) := by decide +kernel
theorem dX11_isPitch_2 : decode cX11_isPitch 2 = .ok (.iload_n 2, 1) := by decide +kernel
theorem dX11_isPitch_3 : decode cX11_isPitch 3 = .ok (.iconst 1, 1) := by decide +kernel
theorem dX11_isPitch_4 : decode cX11_isPitch 4 = .ok (.invokevirtual 148, 3) := by decide +kernel
theorem dX11_isPitch_7 : decode cX11_isPitch 7 = .ok (.isub, 1) := by decide +kernel
theorem dX11_isPitch_8 : decode cX11_isPitch 8 = .ok (.istore_n 3, 1) := by decide +kernel
theorem dX11_isPitch_9 : decode cX11_isPitch 9 = .ok (.iload_n 3, 1) := by decide +kernel
theorem dX11_isPitch_10 : decode cX11_isPitch 10 = .ok (.aload_n 0, 1) := by decide +kernel
theorem dX11_isPitch_11 : decode cX11_isPitch 11 = .ok (.iload_n 2, 1) := by decide +kernel
theorem dX11_isPitch_12 : decode cX11_isPitch 12 = .ok (.iconst 2, 1) := by decide +kernel
theorem dX11_isPitch_13 : decode cX11_isPitch 13 = .ok (.invokevirtual 148, 3) := by decide +kernel
theorem dX11_isPitch_16 : decode cX11_isPitch 16 = .ok (.ineg, 1) := by decide +kernel
theorem dX11_isPitch_17 : decode cX11_isPitch 17 = .ok (.aload_n 0, 1) := by decide +kernel
theorem dX11_isPitch_18 : decode cX11_isPitch 18 = .ok (.iload_n 2, 1) := by decide +kernel
theorem dX11_isPitch_19 : decode cX11_isPitch 19 = .ok (.iconst 2, 1) := by decide +kernel
theorem dX11_isPitch_20 : decode cX11_isPitch 20 = .ok (.invokevirtual 148, 3) := by decide +kernel
theorem dX11_isPitch_23 : decode cX11_isPitch 23 = .ok (.invokestatic 68, 3) := by decide +kernel
theorem dX11_isPitch_26 : decode cX11_isPitch 26 = .ok (.ireturn, 1) := by decide +kernel
theorem dX11_fits_0 : decode cX11_fits 0 = .ok (.aload_n 0, 1) := by decide +kernel
theorem dX11_fits_1 : decode cX11_fits 1 = .ok (.iload_n 1, 1) := by decide +kernel
theorem dX11_fits_2 : decode cX11_fits 2 = .ok (.bipush 6, 2) := by decide +kernel
theorem dX11_fits_4 : decode cX11_fits 4 = .ok (.invokevirtual 104, 3) := by decide +kernel
theorem dX11_fits_7 : decode cX11_fits 7 = .ok (.ifCond .ne 36, 3) := by decide +kernel
theorem dX11_fits_10 : decode cX11_fits 10 = .ok (.aload_n 0, 1) := by decide +kernel
theorem dX11_fits_11 : decode cX11_fits 11 = .ok (.iload_n 1, 1) := by decide +kernel
theorem dX11_fits_12 : decode cX11_fits 12 = .ok (.iconst 2, 1) := by decide +kernel
theorem dX11_fits_13 : decode cX11_fits 13 = .ok (.invokevirtual 104, 3) := by decide +kernel
theorem dX11_fits_16 : decode cX11_fits 16 = .ok (.aload_n 0, 1) := by decide +kernel
theorem dX11_fits_17 : decode cX11_fits 17 = .ok (.iload_n 2, 1) := by decide +kernel
theorem dX11_fits_18 : decode cX11_fits 18 = .ok (.iconst 0, 1) := by decide +kernel
theorem dX11_fits_19 : decode cX11_fits 19 = .ok (.invokevirtual 148, 3) := by decide +kernel
theorem dX11_fits_22 : decode cX11_fits 22 = .ok (.if_icmp .ne 21, 3) := by decide +kernel
theorem dX11_fits_25 : decode cX11_fits 25 = .ok (.aload_n 0, 1) := by decide +kernel
theorem dX11_fits_26 : decode cX11_fits 26 = .ok (.aload_n 0, 1) := by decide +kernel
theorem dX11_fits_27 : decode cX11_fits 27 = .ok (.iload_n 1, 1) := by decide +kernel
theorem dX11_fits_28 : decode cX11_fits 28 = .ok (.iconst 3, 1) := by decide +kernel
theorem dX11_fits_29 : decode cX11_fits 29 = .ok (.invokevirtual 104, 3) := by decide +kernel
theorem dX11_fits_32 : decode cX11_fits 32 = .ok (.iload_n 2, 1) := by decide +kernel
theorem dX11_fits_33 : decode cX11_fits 33 = .ok (.invokevirtual 151, 3) := by decide +kernel
theorem dX11_fits_36 : decode cX11_fits 36 = .ok (.ifCond .eq 7, 3) := by decide +kernel
theorem dX11_fits_39 : decode cX11_fits 39 = .ok (.iconst 1, 1) := by decide +kernel
theorem dX11_fits_40 : decode cX11_fits 40 = .ok (.goto 4, 3) := by decide +kernel
theorem dX11_fits_43 : decode cX11_fits 43 = .ok (.iconst 0, 1) := by decide +kernel
theorem dX11_fits_44 : decode cX11_fits 44 = .ok (.ireturn, 1) := by decide +kernel
theorem dX11_order_0 : decode cX11_order 0 = .ok (.iload_n 1, 1) := by decide +kernel
theorem dX11_order_1 : decode cX11_order 1 = .ok (.iconst 0, 1) := by decide +kernel
theorem dX11_order_2 : decode cX11_order 2 = .ok (.iconst 3, 1) := by decide +kernel
theorem dX11_order_3 : decode cX11_order 3 = .ok (.invokestatic 68, 3) := by decide +kernel
theorem dX11_order_6 : decode cX11_order 6 = .ok (.ifCond .eq 25, 3) := by decide +kernel
theorem dX11_order_9 : decode cX11_order 9 = .ok (.iload_n 2, 1) := by decide +kernel
theorem dX11_order_10 : decode cX11_order 10 = .ok (.iconst 1, 1) := by decide +kernel
theorem dX11_order_11 : decode cX11_order 11 = .ok (.sipush 20000, 3) := by decide +kernel
theorem dX11_order_14 : decode cX11_order 14 = .ok (.invokestatic 68, 3) := by decide +kernel
theorem dX11_order_17 : decode cX11_order 17 = .ok (.ifCond .eq 14, 3) := by decide +kernel
theorem dX11_order_20 : decode cX11_order 20 = .ok (.iload_n 3, 1) := by decide +kernel
theorem dX11_order_21 : decode cX11_order 21 = .ok (.iconst 0, 1) := by decide +kernel
theorem dX11_order_22 : decode cX11_order 22 = .ok (.sipush 500, 3) := by decide +kernel
theorem dX11_order_25 : decode cX11_order 25 = .ok (.invokestatic 68, 3) := by decide +kernel
theorem dX11_order_28 : decode cX11_order 28 = .ok (.ifCond .ne 5, 3) := by decide +kernel
theorem dX11_order_31 : decode cX11_order 31 = .ok (.iconst (-1), 1) := by decide +kernel
theorem dX11_order_32 : decode cX11_order 32 = .ok (.ireturn, 1) := by decide +kernel
theorem dX11_order_33 : decode cX11_order 33 = .ok (.aload_n 0, 1) := by decide +kernel
theorem dX11_order_34 : decode cX11_order 34 = .ok (.iconst 0, 1) := by decide +kernel
theorem dX11_order_35 : decode cX11_order 35 = .ok (.invokevirtual 154, 3) := by decide +kernel
theorem dX11_order_38 : decode cX11_order 38 = .ok (.bipush 8, 2) := by decide +kernel
theorem dX11_order_40 : decode cX11_order 40 = .ok (.if_icmp .eq 15, 3) := by decide +kernel
theorem dX11_order_43 : decode cX11_order 43 = .ok (.aload_n 0, 1) := by decide +kernel
theorem dX11_order_44 : decode cX11_order 44 = .ok (.getfield 7, 3) := by decide +kernel
theorem dX11_order_47 : decode cX11_order 47 = .ok (.bipush 53, 2) := by decide +kernel
theorem dX11_order_49 : decode cX11_order 49 = .ok (.iaload, 1) := by decide +kernel
theorem dX11_order_50 : decode cX11_order 50 = .ok (.bipush 100, 2) := by decide +kernel
theorem dX11_order_52 : decode cX11_order 52 = .ok (.if_icmp .ne 6, 3) := by decide +kernel
theorem dX11_order_55 : decode cX11_order 55 = .ok (.bipush (-3), 2) := by decide +kernel
theorem dX11_order_57 : decode cX11_order 57 = .ok (.ireturn, 1) := by decide +kernel
theorem dX11_order_58 : decode cX11_order 58 = .ok (.aload_n 0, 1) := by decide +kernel
theorem dX11_order_59 : decode cX11_order 59 = .ok (.invokevirtual 85, 3) := by decide +kernel
theorem dX11_order_62 : decode cX11_order 62 = .ok (.sipush 854, 3) := by decide +kernel
theorem dX11_order_65 : decode cX11_order 65 = .ok (.iconst 4, 1) := by decide +kernel
theorem dX11_order_66 : decode cX11_order 66 = .ok (.aload_n 0, 1) := by decide +kernel
theorem dX11_order_67 : decode cX11_order 67 = .ok (.getfield 7, 3) := by decide +kernel
theorem dX11_order_70 : decode cX11_order 70 = .ok (.bipush 53, 2) := by decide +kernel
theorem dX11_order_72 : decode cX11_order 72 = .ok (.iaload, 1) := by decide +kernel
theorem dX11_order_73 : decode cX11_order 73 = .ok (.imul, 1) := by decide +kernel
theorem dX11_order_74 : decode cX11_order 74 = .ok (.iadd, 1) := by decide +kernel
theorem dX11_order_75 : decode cX11_order 75 = .ok (.istore 4, 2) := by decide +kernel
theorem dX11_order_77 : decode cX11_order 77 = .ok (.aload_n 0, 1) := by decide +kernel
theorem dX11_order_78 : decode cX11_order 78 = .ok (.getfield 7, 3) := by decide +kernel
theorem dX11_order_81 : decode cX11_order 81 = .ok (.iload 4, 2) := by decide +kernel
theorem dX11_order_83 : decode cX11_order 83 = .ok (.iload_n 1, 1) := by decide +kernel
theorem dX11_order_84 : decode cX11_order 84 = .ok (.iastore, 1) := by decide +kernel
theorem dX11_order_85 : decode cX11_order 85 = .ok (.aload_n 0, 1) := by decide +kernel
theorem dX11_order_86 : decode cX11_order 86 = .ok (.getfield 7, 3) := by decide +kernel
theorem dX11_order_89 : decode cX11_order 89 = .ok (.iload 4, 2) := by decide +kernel
theorem dX11_order_91 : decode cX11_order 91 = .ok (.iconst 1, 1) := by decide +kernel
theorem dX11_order_92 : decode cX11_order 92 = .ok (.iadd, 1) := by decide +kernel
theorem dX11_order_93 : decode cX11_order 93 = .ok (.iload_n 2, 1) := by decide +kernel
theorem dX11_order_94 : decode cX11_order 94 = .ok (.iastore, 1) := by decide +kernel
theorem dX11_order_95 : decode cX11_order 95 = .ok (.aload_n 0, 1) := by decide +kernel
theorem dX11_order_96 : decode cX11_order 96 = .ok (.getfield 7, 3) := by decide +kernel
theorem dX11_order_99 : decode cX11_order 99 = .ok (.iload 4, 2) := by decide +kernel
theorem dX11_order_101 : decode cX11_order 101 = .ok (.iconst 2, 1) := by decide +kernel
theorem dX11_order_102 : decode cX11_order 102 = .ok (.iadd, 1) := by decide +kernel
theorem dX11_order_103 : decode cX11_order 103 = .ok (.iload_n 3, 1) := by decide +kernel
theorem dX11_order_104 : decode cX11_order 104 = .ok (.iastore, 1) := by decide +kernel
theorem dX11_order_105 : decode cX11_order 105 = .ok (.aload_n 0, 1) := by decide +kernel
theorem dX11_order_106 : decode cX11_order 106 = .ok (.getfield 7, 3) := by decide +kernel
theorem dX11_order_109 : decode cX11_order 109 = .ok (.iload 4, 2) := by decide +kernel
theorem dX11_order_111 : decode cX11_order 111 = .ok (.iconst 3, 1) := by decide +kernel
theorem dX11_order_112 : decode cX11_order 112 = .ok (.iadd, 1) := by decide +kernel
theorem dX11_order_113 : decode cX11_order 113 = .ok (.iconst 0, 1) := by decide +kernel
theorem dX11_order_114 : decode cX11_order 114 = .ok (.iastore, 1) := by decide +kernel
theorem dX11_order_115 : decode cX11_order 115 = .ok (.aload_n 0, 1) := by decide +kernel
theorem dX11_order_116 : decode cX11_order 116 = .ok (.getfield 7, 3) := by decide +kernel
theorem dX11_order_119 : decode cX11_order 119 = .ok (.bipush 53, 2) := by decide +kernel
theorem dX11_order_121 : decode cX11_order 121 = .ok (.dup2, 1) := by decide +kernel
theorem dX11_order_122 : decode cX11_order 122 = .ok (.iaload, 1) := by decide +kernel
theorem dX11_order_123 : decode cX11_order 123 = .ok (.iconst 1, 1) := by decide +kernel
theorem dX11_order_124 : decode cX11_order 124 = .ok (.iadd, 1) := by decide +kernel
theorem dX11_order_125 : decode cX11_order 125 = .ok (.iastore, 1) := by decide +kernel
theorem dX11_order_126 : decode cX11_order 126 = .ok (.aload_n 0, 1) := by decide +kernel
theorem dX11_order_127 : decode cX11_order 127 = .ok (.getfield 7, 3) := by decide +kernel
theorem dX11_order_130 : decode cX11_order 130 = .ok (.bipush 53, 2) := by decide +kernel
theorem dX11_order_132 : decode cX11_order 132 = .ok (.iaload, 1) := by decide +kernel
theorem dX11_order_133 : decode cX11_order 133 = .ok (.iconst 1, 1) := by decide +kernel
theorem dX11_order_134 : decode cX11_order 134 = .ok (.isub, 1) := by decide +kernel
theorem dX11_order_135 : decode cX11_order 135 = .ok (.ireturn, 1) := by decide +kernel
theorem dX11_cancel_0 : decode cX11_cancel 0 = .ok (.aload_n 0, 1) := by decide +kernel
theorem dX11_cancel_1 : decode cX11_cancel 1 = .ok (.iload_n 1, 1) := by decide +kernel
theorem dX11_cancel_2 : decode cX11_cancel 2 = .ok (.invokevirtual 157, 3) := by decide +kernel
theorem dX11_cancel_5 : decode cX11_cancel 5 = .ok (.ifCond .ne 5, 3) := by decide +kernel
theorem dX11_cancel_8 : decode cX11_cancel 8 = .ok (.iconst (-1), 1) := by decide +kernel
theorem dX11_cancel_9 : decode cX11_cancel 9 = .ok (.ireturn, 1) := by decide +kernel
theorem dX11_cancel_10 : decode cX11_cancel 10 = .ok (.aload_n 0, 1) := by decide +kernel
theorem dX11_cancel_11 : decode cX11_cancel 11 = .ok (.iload_n 1, 1) := by decide +kernel
theorem dX11_cancel_12 : decode cX11_cancel 12 = .ok (.iconst 3, 1) := by decide +kernel
theorem dX11_cancel_13 : decode cX11_cancel 13 = .ok (.invokevirtual 148, 3) := by decide +kernel
theorem dX11_cancel_16 : decode cX11_cancel 16 = .ok (.ifCond .eq 6, 3) := by decide +kernel
theorem dX11_cancel_19 : decode cX11_cancel 19 = .ok (.bipush (-2), 2) := by decide +kernel
theorem dX11_cancel_21 : decode cX11_cancel 21 = .ok (.ireturn, 1) := by decide +kernel
theorem dX11_cancel_22 : decode cX11_cancel 22 = .ok (.aload_n 0, 1) := by decide +kernel
theorem dX11_cancel_23 : decode cX11_cancel 23 = .ok (.invokevirtual 85, 3) := by decide +kernel
theorem dX11_cancel_26 : decode cX11_cancel 26 = .ok (.aload_n 0, 1) := by decide +kernel
theorem dX11_cancel_27 : decode cX11_cancel 27 = .ok (.getfield 7, 3) := by decide +kernel
theorem dX11_cancel_30 : decode cX11_cancel 30 = .ok (.sipush 854, 3) := by decide +kernel
theorem dX11_cancel_33 : decode cX11_cancel 33 = .ok (.iconst 4, 1) := by decide +kernel
theorem dX11_cancel_34 : decode cX11_cancel 34 = .ok (.iload_n 1, 1) := by decide +kernel
theorem dX11_cancel_35 : decode cX11_cancel 35 = .ok (.imul, 1) := by decide +kernel
theorem dX11_cancel_36 : decode cX11_cancel 36 = .ok (.iadd, 1) := by decide +kernel
theorem dX11_cancel_37 : decode cX11_cancel 37 = .ok (.iconst 3, 1) := by decide +kernel
theorem dX11_cancel_38 : decode cX11_cancel 38 = .ok (.iadd, 1) := by decide +kernel
theorem dX11_cancel_39 : decode cX11_cancel 39 = .ok (.iconst 2, 1) := by decide +kernel
theorem dX11_cancel_40 : decode cX11_cancel 40 = .ok (.iastore, 1) := by decide +kernel
theorem dX11_cancel_41 : decode cX11_cancel 41 = .ok (.aload_n 0, 1) := by decide +kernel
theorem dX11_cancel_42 : decode cX11_cancel 42 = .ok (.iconst 0, 1) := by decide +kernel
theorem dX11_cancel_43 : decode cX11_cancel 43 = .ok (.invokevirtual 154, 3) := by decide +kernel
theorem dX11_cancel_46 : decode cX11_cancel 46 = .ok (.ireturn, 1) := by decide +kernel
theorem dX11_send_0 : decode cX11_send 0 = .ok (.aload_n 0, 1) := by decide +kernel
theorem dX11_send_1 : decode cX11_send 1 = .ok (.iload_n 1, 1) := by decide +kernel
theorem dX11_send_2 : decode cX11_send 2 = .ok (.invokevirtual 138, 3) := by decide +kernel
theorem dX11_send_5 : decode cX11_send 5 = .ok (.ifCond .eq 11, 3) := by decide +kernel
theorem dX11_send_8 : decode cX11_send 8 = .ok (.aload_n 0, 1) := by decide +kernel
theorem dX11_send_9 : decode cX11_send 9 = .ok (.iload_n 2, 1) := by decide +kernel
theorem dX11_send_10 : decode cX11_send 10 = .ok (.invokevirtual 157, 3) := by decide +kernel
theorem dX11_send_13 : decode cX11_send 13 = .ok (.ifCond .ne 5, 3) := by decide +kernel
theorem dX11_send_16 : decode cX11_send 16 = .ok (.iconst (-1), 1) := by decide +kernel
theorem dX11_send_17 : decode cX11_send 17 = .ok (.ireturn, 1) := by decide +kernel
theorem dX11_send_18 : decode cX11_send 18 = .ok (.aload_n 0, 1) := by decide +kernel
theorem dX11_send_19 : decode cX11_send 19 = .ok (.iload_n 1, 1) := by decide +kernel
theorem dX11_send_20 : decode cX11_send 20 = .ok (.invokestatic 129, 3) := by decide +kernel
theorem dX11_send_23 : decode cX11_send 23 = .ok (.invokevirtual 88, 3) := by decide +kernel
theorem dX11_send_26 : decode cX11_send 26 = .ok (.istore_n 3, 1) := by decide +kernel
theorem dX11_send_27 : decode cX11_send 27 = .ok (.aload_n 0, 1) := by decide +kernel
theorem dX11_send_28 : decode cX11_send 28 = .ok (.iload_n 1, 1) := by decide +kernel
theorem dX11_send_29 : decode cX11_send 29 = .ok (.iload_n 2, 1) := by decide +kernel
theorem dX11_send_30 : decode cX11_send 30 = .ok (.invokevirtual 160, 3) := by decide +kernel
theorem dX11_send_33 : decode cX11_send 33 = .ok (.ifCond .eq 22, 3) := by decide +kernel
theorem dX11_send_36 : decode cX11_send 36 = .ok (.aload_n 0, 1) := by decide +kernel
theorem dX11_send_37 : decode cX11_send 37 = .ok (.iload_n 2, 1) := by decide +kernel
theorem dX11_send_38 : decode cX11_send 38 = .ok (.iconst 3, 1) := by decide +kernel
theorem dX11_send_39 : decode cX11_send 39 = .ok (.invokevirtual 148, 3) := by decide +kernel
theorem dX11_send_42 : decode cX11_send 42 = .ok (.ifCond .ne 13, 3) := by decide +kernel
theorem dX11_send_45 : decode cX11_send 45 = .ok (.iload_n 3, 1) := by decide +kernel
theorem dX11_send_46 : decode cX11_send 46 = .ok (.aload_n 0, 1) := by decide +kernel
theorem dX11_send_47 : decode cX11_send 47 = .ok (.bipush 6, 2) := by decide +kernel
theorem dX11_send_49 : decode cX11_send 49 = .ok (.invokevirtual 61, 3) := by decide +kernel
theorem dX11_send_52 : decode cX11_send 52 = .ok (.if_icmp .le 6, 3) := by decide +kernel
theorem dX11_send_55 : decode cX11_send 55 = .ok (.bipush (-2), 2) := by decide +kernel
theorem dX11_send_57 : decode cX11_send 57 = .ok (.ireturn, 1) := by decide +kernel
theorem dX11_send_58 : decode cX11_send 58 = .ok (.aload_n 0, 1) := by decide +kernel
theorem dX11_send_59 : decode cX11_send 59 = .ok (.invokevirtual 85, 3) := by decide +kernel
theorem dX11_send_62 : decode cX11_send 62 = .ok (.aload_n 0, 1) := by decide +kernel
theorem dX11_send_63 : decode cX11_send 63 = .ok (.getfield 7, 3) := by decide +kernel
theorem dX11_send_66 : decode cX11_send 66 = .ok (.iload_n 1, 1) := by decide +kernel
theorem dX11_send_67 : decode cX11_send 67 = .ok (.invokestatic 129, 3) := by decide +kernel
theorem dX11_send_70 : decode cX11_send 70 = .ok (.bipush 6, 2) := by decide +kernel
theorem dX11_send_72 : decode cX11_send 72 = .ok (.iadd, 1) := by decide +kernel
theorem dX11_send_73 : decode cX11_send 73 = .ok (.iconst 2, 1) := by decide +kernel
theorem dX11_send_74 : decode cX11_send 74 = .ok (.iastore, 1) := by decide +kernel
theorem dX11_send_75 : decode cX11_send 75 = .ok (.aload_n 0, 1) := by decide +kernel
theorem dX11_send_76 : decode cX11_send 76 = .ok (.getfield 7, 3) := by decide +kernel
theorem dX11_send_79 : decode cX11_send 79 = .ok (.iload_n 1, 1) := by decide +kernel
theorem dX11_send_80 : decode cX11_send 80 = .ok (.invokestatic 129, 3) := by decide +kernel
theorem dX11_send_83 : decode cX11_send 83 = .ok (.bipush 7, 2) := by decide +kernel
theorem dX11_send_85 : decode cX11_send 85 = .ok (.iadd, 1) := by decide +kernel
theorem dX11_send_86 : decode cX11_send 86 = .ok (.iload_n 2, 1) := by decide +kernel
theorem dX11_send_87 : decode cX11_send 87 = .ok (.iastore, 1) := by decide +kernel
theorem dX11_send_88 : decode cX11_send 88 = .ok (.aload_n 0, 1) := by decide +kernel
theorem dX11_send_89 : decode cX11_send 89 = .ok (.getfield 7, 3) := by decide +kernel
theorem dX11_send_92 : decode cX11_send 92 = .ok (.sipush 854, 3) := by decide +kernel
theorem dX11_send_95 : decode cX11_send 95 = .ok (.iconst 4, 1) := by decide +kernel
theorem dX11_send_96 : decode cX11_send 96 = .ok (.iload_n 2, 1) := by decide +kernel
theorem dX11_send_97 : decode cX11_send 97 = .ok (.imul, 1) := by decide +kernel
theorem dX11_send_98 : decode cX11_send 98 = .ok (.iadd, 1) := by decide +kernel
theorem dX11_send_99 : decode cX11_send 99 = .ok (.iconst 3, 1) := by decide +kernel
theorem dX11_send_100 : decode cX11_send 100 = .ok (.iadd, 1) := by decide +kernel
theorem dX11_send_101 : decode cX11_send 101 = .ok (.iconst 1, 1) := by decide +kernel
theorem dX11_send_102 : decode cX11_send 102 = .ok (.iastore, 1) := by decide +kernel
theorem dX11_send_103 : decode cX11_send 103 = .ok (.iload_n 3, 1) := by decide +kernel
theorem dX11_send_104 : decode cX11_send 104 = .ok (.ireturn, 1) := by decide +kernel
theorem dX11_orderOf_0 : decode cX11_orderOf 0 = .ok (.aload_n 0, 1) := by decide +kernel
theorem dX11_orderOf_1 : decode cX11_orderOf 1 = .ok (.iload_n 1, 1) := by decide +kernel
theorem dX11_orderOf_2 : decode cX11_orderOf 2 = .ok (.invokevirtual 157, 3) := by decide +kernel
theorem dX11_orderOf_5 : decode cX11_orderOf 5 = .ok (.ifCond .eq 12, 3) := by decide +kernel
theorem dX11_orderOf_8 : decode cX11_orderOf 8 = .ok (.iload_n 2, 1) := by decide +kernel
theorem dX11_orderOf_9 : decode cX11_orderOf 9 = .ok (.iconst 0, 1) := by decide +kernel
theorem dX11_orderOf_10 : decode cX11_orderOf 10 = .ok (.iconst 5, 1) := by decide +kernel
theorem dX11_orderOf_11 : decode cX11_orderOf 11 = .ok (.invokestatic 68, 3) := by decide +kernel
theorem dX11_orderOf_14 : decode cX11_orderOf 14 = .ok (.ifCond .ne 5, 3) := by decide +kernel
theorem dX11_orderOf_17 : decode cX11_orderOf 17 = .ok (.iconst (-1), 1) := by decide +kernel
theorem dX11_orderOf_18 : decode cX11_orderOf 18 = .ok (.ireturn, 1) := by decide +kernel
theorem dX11_orderOf_19 : decode cX11_orderOf 19 = .ok (.iload_n 2, 1) := by decide +kernel
theorem dX11_orderOf_20 : decode cX11_orderOf 20 = .ok (.iconst 4, 1) := by decide +kernel
theorem dX11_orderOf_21 : decode cX11_orderOf 21 = .ok (.if_icmp .ge 10, 3) := by decide +kernel
theorem dX11_orderOf_24 : decode cX11_orderOf 24 = .ok (.aload_n 0, 1) := by decide +kernel
theorem dX11_orderOf_25 : decode cX11_orderOf 25 = .ok (.iload_n 1, 1) := by decide +kernel
theorem dX11_orderOf_26 : decode cX11_orderOf 26 = .ok (.iload_n 2, 1) := by decide +kernel
theorem dX11_orderOf_27 : decode cX11_orderOf 27 = .ok (.invokevirtual 148, 3) := by decide +kernel
theorem dX11_orderOf_30 : decode cX11_orderOf 30 = .ok (.ireturn, 1) := by decide +kernel
theorem dX11_orderOf_31 : decode cX11_orderOf 31 = .ok (.bipush (-4), 2) := by decide +kernel
theorem dX11_orderOf_33 : decode cX11_orderOf 33 = .ok (.istore_n 3, 1) := by decide +kernel
theorem dX11_orderOf_34 : decode cX11_orderOf 34 = .ok (.iconst 0, 1) := by decide +kernel
theorem dX11_orderOf_35 : decode cX11_orderOf 35 = .ok (.istore 4, 2) := by decide +kernel
theorem dX11_orderOf_37 : decode cX11_orderOf 37 = .ok (.aload_n 0, 1) := by decide +kernel
theorem dX11_orderOf_38 : decode cX11_orderOf 38 = .ok (.getfield 7, 3) := by decide +kernel
theorem dX11_orderOf_41 : decode cX11_orderOf 41 = .ok (.bipush 52, 2) := by decide +kernel
theorem dX11_orderOf_43 : decode cX11_orderOf 43 = .ok (.iaload, 1) := by decide +kernel
theorem dX11_orderOf_44 : decode cX11_orderOf 44 = .ok (.iconst 1, 1) := by decide +kernel
theorem dX11_orderOf_45 : decode cX11_orderOf 45 = .ok (.isub, 1) := by decide +kernel
theorem dX11_orderOf_46 : decode cX11_orderOf 46 = .ok (.istore 5, 2) := by decide +kernel
theorem dX11_orderOf_48 : decode cX11_orderOf 48 = .ok (.iload 5, 2) := by decide +kernel
theorem dX11_orderOf_50 : decode cX11_orderOf 50 = .ok (.ifCond .lt 46, 3) := by decide +kernel
theorem dX11_orderOf_53 : decode cX11_orderOf 53 = .ok (.aload_n 0, 1) := by decide +kernel
theorem dX11_orderOf_54 : decode cX11_orderOf 54 = .ok (.iload 5, 2) := by decide +kernel
theorem dX11_orderOf_56 : decode cX11_orderOf 56 = .ok (.iload_n 1, 1) := by decide +kernel
theorem dX11_orderOf_57 : decode cX11_orderOf 57 = .ok (.invokevirtual 160, 3) := by decide +kernel
theorem dX11_orderOf_60 : decode cX11_orderOf 60 = .ok (.ifCond .eq 8, 3) := by decide +kernel
theorem dX11_orderOf_63 : decode cX11_orderOf 63 = .ok (.iload 5, 2) := by decide +kernel
theorem dX11_orderOf_65 : decode cX11_orderOf 65 = .ok (.goto 4, 3) := by decide +kernel
theorem dX11_orderOf_68 : decode cX11_orderOf 68 = .ok (.iload_n 3, 1) := by decide +kernel
theorem dX11_orderOf_69 : decode cX11_orderOf 69 = .ok (.istore_n 3, 1) := by decide +kernel
theorem dX11_orderOf_70 : decode cX11_orderOf 70 = .ok (.iload 4, 2) := by decide +kernel
theorem dX11_orderOf_72 : decode cX11_orderOf 72 = .ok (.aload_n 0, 1) := by decide +kernel
theorem dX11_orderOf_73 : decode cX11_orderOf 73 = .ok (.iload 5, 2) := by decide +kernel
theorem dX11_orderOf_75 : decode cX11_orderOf 75 = .ok (.iload_n 1, 1) := by decide +kernel
theorem dX11_orderOf_76 : decode cX11_orderOf 76 = .ok (.invokevirtual 160, 3) := by decide +kernel
theorem dX11_orderOf_79 : decode cX11_orderOf 79 = .ok (.ifCond .eq 7, 3) := by decide +kernel
theorem dX11_orderOf_82 : decode cX11_orderOf 82 = .ok (.iconst 1, 1) := by decide +kernel
theorem dX11_orderOf_83 : decode cX11_orderOf 83 = .ok (.goto 4, 3) := by decide +kernel
theorem dX11_orderOf_86 : decode cX11_orderOf 86 = .ok (.iconst 0, 1) := by decide +kernel
theorem dX11_orderOf_87 : decode cX11_orderOf 87 = .ok (.iadd, 1) := by decide +kernel
theorem dX11_orderOf_88 : decode cX11_orderOf 88 = .ok (.istore 4, 2) := by decide +kernel
theorem dX11_orderOf_90 : decode cX11_orderOf 90 = .ok (.iinc 5 (-1), 3) := by decide +kernel
theorem dX11_orderOf_93 : decode cX11_orderOf 93 = .ok (.goto (-45), 3) := by decide +kernel
theorem dX11_orderOf_96 : decode cX11_orderOf 96 = .ok (.iload_n 2, 1) := by decide +kernel
theorem dX11_orderOf_97 : decode cX11_orderOf 97 = .ok (.iconst 4, 1) := by decide +kernel
theorem dX11_orderOf_98 : decode cX11_orderOf 98 = .ok (.if_icmp .ne 7, 3) := by decide +kernel
theorem dX11_orderOf_101 : decode cX11_orderOf 101 = .ok (.iload_n 3, 1) := by decide +kernel
theorem dX11_orderOf_102 : decode cX11_orderOf 102 = .ok (.goto 5, 3) := by decide +kernel
theorem dX11_orderOf_105 : decode cX11_orderOf 105 = .ok (.iload 4, 2) := by decide +kernel
theorem dX11_orderOf_107 : decode cX11_orderOf 107 = .ok (.ireturn, 1) := by decide +kernel
theorem dX11_tuneFor_0 : decode cX11_tuneFor 0 = .ok (.aload_n 0, 1) := by decide +kernel
theorem dX11_tuneFor_1 : decode cX11_tuneFor 1 = .ok (.iload_n 1, 1) := by decide +kernel
theorem dX11_tuneFor_2 : decode cX11_tuneFor 2 = .ok (.invokevirtual 138, 3) := by decide +kernel
theorem dX11_tuneFor_5 : decode cX11_tuneFor 5 = .ok (.ifCond .eq 11, 3) := by decide +kernel
theorem dX11_tuneFor_8 : decode cX11_tuneFor 8 = .ok (.aload_n 0, 1) := by decide +kernel
theorem dX11_tuneFor_9 : decode cX11_tuneFor 9 = .ok (.iload_n 2, 1) := by decide +kernel
theorem dX11_tuneFor_10 : decode cX11_tuneFor 10 = .ok (.invokevirtual 157, 3) := by decide +kernel
theorem dX11_tuneFor_13 : decode cX11_tuneFor 13 = .ok (.ifCond .ne 5, 3) := by decide +kernel
theorem dX11_tuneFor_16 : decode cX11_tuneFor 16 = .ok (.iconst (-1), 1) := by decide +kernel
theorem dX11_tuneFor_17 : decode cX11_tuneFor 17 = .ok (.ireturn, 1) := by decide +kernel
theorem dX11_tuneFor_18 : decode cX11_tuneFor 18 = .ok (.aload_n 0, 1) := by decide +kernel
theorem dX11_tuneFor_19 : decode cX11_tuneFor 19 = .ok (.iload_n 1, 1) := by decide +kernel
theorem dX11_tuneFor_20 : decode cX11_tuneFor 20 = .ok (.bipush 6, 2) := by decide +kernel
theorem dX11_tuneFor_22 : decode cX11_tuneFor 22 = .ok (.invokevirtual 104, 3) := by decide +kernel
theorem dX11_tuneFor_25 : decode cX11_tuneFor 25 = .ok (.ifCond .eq 6, 3) := by decide +kernel
theorem dX11_tuneFor_28 : decode cX11_tuneFor 28 = .ok (.bipush (-2), 2) := by decide +kernel
theorem dX11_tuneFor_30 : decode cX11_tuneFor 30 = .ok (.ireturn, 1) := by decide +kernel
theorem dX11_tuneFor_31 : decode cX11_tuneFor 31 = .ok (.aload_n 0, 1) := by decide +kernel
theorem dX11_tuneFor_32 : decode cX11_tuneFor 32 = .ok (.iload_n 1, 1) := by decide +kernel
theorem dX11_tuneFor_33 : decode cX11_tuneFor 33 = .ok (.iload_n 2, 1) := by decide +kernel
theorem dX11_tuneFor_34 : decode cX11_tuneFor 34 = .ok (.invokevirtual 160, 3) := by decide +kernel
theorem dX11_tuneFor_37 : decode cX11_tuneFor 37 = .ok (.ifCond .eq 5, 3) := by decide +kernel
theorem dX11_tuneFor_40 : decode cX11_tuneFor 40 = .ok (.iconst 0, 1) := by decide +kernel
theorem dX11_tuneFor_41 : decode cX11_tuneFor 41 = .ok (.ireturn, 1) := by decide +kernel
theorem dX11_tuneFor_42 : decode cX11_tuneFor 42 = .ok (.aload_n 0, 1) := by decide +kernel
theorem dX11_tuneFor_43 : decode cX11_tuneFor 43 = .ok (.iload_n 1, 1) := by decide +kernel
theorem dX11_tuneFor_44 : decode cX11_tuneFor 44 = .ok (.iconst 2, 1) := by decide +kernel
theorem dX11_tuneFor_45 : decode cX11_tuneFor 45 = .ok (.invokevirtual 104, 3) := by decide +kernel
theorem dX11_tuneFor_48 : decode cX11_tuneFor 48 = .ok (.aload_n 0, 1) := by decide +kernel
theorem dX11_tuneFor_49 : decode cX11_tuneFor 49 = .ok (.iload_n 2, 1) := by decide +kernel
theorem dX11_tuneFor_50 : decode cX11_tuneFor 50 = .ok (.iconst 0, 1) := by decide +kernel
theorem dX11_tuneFor_51 : decode cX11_tuneFor 51 = .ok (.invokevirtual 148, 3) := by decide +kernel
theorem dX11_tuneFor_54 : decode cX11_tuneFor 54 = .ok (.if_icmp .ne 7, 3) := by decide +kernel
theorem dX11_tuneFor_57 : decode cX11_tuneFor 57 = .ok (.iconst 1, 1) := by decide +kernel
theorem dX11_tuneFor_58 : decode cX11_tuneFor 58 = .ok (.goto 4, 3) := by decide +kernel
theorem dX11_tuneFor_61 : decode cX11_tuneFor 61 = .ok (.iconst 0, 1) := by decide +kernel
theorem dX11_tuneFor_62 : decode cX11_tuneFor 62 = .ok (.istore_n 3, 1) := by decide +kernel
theorem dX11_tuneFor_63 : decode cX11_tuneFor 63 = .ok (.iconst 1, 1) := by decide +kernel
theorem dX11_tuneFor_64 : decode cX11_tuneFor 64 = .ok (.istore 4, 2) := by decide +kernel
theorem dX11_tuneFor_66 : decode cX11_tuneFor 66 = .ok (.iload 4, 2) := by decide +kernel
theorem dX11_tuneFor_68 : decode cX11_tuneFor 68 = .ok (.sipush 1000, 3) := by decide +kernel
theorem dX11_tuneFor_71 : decode cX11_tuneFor 71 = .ok (.if_icmp .gt 64, 3) := by decide +kernel
theorem dX11_tuneFor_74 : decode cX11_tuneFor 74 = .ok (.iload_n 3, 1) := by decide +kernel
theorem dX11_tuneFor_75 : decode cX11_tuneFor 75 = .ok (.ifCond .eq 60, 3) := by decide +kernel
theorem dX11_tuneFor_78 : decode cX11_tuneFor 78 = .ok (.iload 4, 2) := by decide +kernel
theorem dX11_tuneFor_80 : decode cX11_tuneFor 80 = .ok (.aload_n 0, 1) := by decide +kernel
theorem dX11_tuneFor_81 : decode cX11_tuneFor 81 = .ok (.iload_n 1, 1) := by decide +kernel
theorem dX11_tuneFor_82 : decode cX11_tuneFor 82 = .ok (.invokestatic 129, 3) := by decide +kernel
theorem dX11_tuneFor_85 : decode cX11_tuneFor 85 = .ok (.invokevirtual 88, 3) := by decide +kernel
theorem dX11_tuneFor_88 : decode cX11_tuneFor 88 = .ok (.if_icmp .ge 17, 3) := by decide +kernel
theorem dX11_tuneFor_91 : decode cX11_tuneFor 91 = .ok (.aload_n 0, 1) := by decide +kernel
theorem dX11_tuneFor_92 : decode cX11_tuneFor 92 = .ok (.iload_n 1, 1) := by decide +kernel
theorem dX11_tuneFor_93 : decode cX11_tuneFor 93 = .ok (.iload 4, 2) := by decide +kernel
theorem dX11_tuneFor_95 : decode cX11_tuneFor 95 = .ok (.invokevirtual 144, 3) := by decide +kernel
theorem dX11_tuneFor_98 : decode cX11_tuneFor 98 = .ok (.ifCond .ne 7, 3) := by decide +kernel
theorem dX11_tuneFor_101 : decode cX11_tuneFor 101 = .ok (.iconst 1, 1) := by decide +kernel
theorem dX11_tuneFor_102 : decode cX11_tuneFor 102 = .ok (.goto 4, 3) := by decide +kernel
theorem dX11_tuneFor_105 : decode cX11_tuneFor 105 = .ok (.iconst 0, 1) := by decide +kernel
theorem dX11_tuneFor_106 : decode cX11_tuneFor 106 = .ok (.istore_n 3, 1) := by decide +kernel
theorem dX11_tuneFor_107 : decode cX11_tuneFor 107 = .ok (.iload_n 3, 1) := by decide +kernel
theorem dX11_tuneFor_108 : decode cX11_tuneFor 108 = .ok (.ifCond .eq 21, 3) := by decide +kernel
theorem dX11_tuneFor_111 : decode cX11_tuneFor 111 = .ok (.aload_n 0, 1) := by decide +kernel
theorem dX11_tuneFor_112 : decode cX11_tuneFor 112 = .ok (.aload_n 0, 1) := by decide +kernel
theorem dX11_tuneFor_113 : decode cX11_tuneFor 113 = .ok (.iload_n 1, 1) := by decide +kernel
theorem dX11_tuneFor_114 : decode cX11_tuneFor 114 = .ok (.iload 4, 2) := by decide +kernel
theorem dX11_tuneFor_116 : decode cX11_tuneFor 116 = .ok (.invokevirtual 141, 3) := by decide +kernel
theorem dX11_tuneFor_119 : decode cX11_tuneFor 119 = .ok (.iload_n 2, 1) := by decide +kernel
theorem dX11_tuneFor_120 : decode cX11_tuneFor 120 = .ok (.invokevirtual 151, 3) := by decide +kernel
theorem dX11_tuneFor_123 : decode cX11_tuneFor 123 = .ok (.ifCond .eq 6, 3) := by decide +kernel
theorem dX11_tuneFor_126 : decode cX11_tuneFor 126 = .ok (.iload 4, 2) := by decide +kernel
theorem dX11_tuneFor_128 : decode cX11_tuneFor 128 = .ok (.ireturn, 1) := by decide +kernel
theorem dX11_tuneFor_129 : decode cX11_tuneFor 129 = .ok (.iinc 4 1, 3) := by decide +kernel
theorem dX11_tuneFor_132 : decode cX11_tuneFor 132 = .ok (.goto (-66), 3) := by decide +kernel
theorem dX11_tuneFor_135 : decode cX11_tuneFor 135 = .ok (.bipush (-4), 2) := by decide +kernel
theorem dX11_tuneFor_137 : decode cX11_tuneFor 137 = .ok (.ireturn, 1) := by decide +kernel
theorem dX11_pourFor_0 : decode cX11_pourFor 0 = .ok (.aload_n 0, 1) := by decide +kernel
theorem dX11_pourFor_1 : decode cX11_pourFor 1 = .ok (.iload_n 1, 1) := by decide +kernel
theorem dX11_pourFor_2 : decode cX11_pourFor 2 = .ok (.invokevirtual 157, 3) := by decide +kernel
theorem dX11_pourFor_5 : decode cX11_pourFor 5 = .ok (.ifCond .ne 5, 3) := by decide +kernel
theorem dX11_pourFor_8 : decode cX11_pourFor 8 = .ok (.iconst (-1), 1) := by decide +kernel
theorem dX11_pourFor_9 : decode cX11_pourFor 9 = .ok (.ireturn, 1) := by decide +kernel
theorem dX11_pourFor_10 : decode cX11_pourFor 10 = .ok (.aload_n 0, 1) := by decide +kernel
theorem dX11_pourFor_11 : decode cX11_pourFor 11 = .ok (.invokevirtual 163, 3) := by decide +kernel
theorem dX11_pourFor_14 : decode cX11_pourFor 14 = .ok (.aload_n 0, 1) := by decide +kernel
theorem dX11_pourFor_15 : decode cX11_pourFor 15 = .ok (.bipush 6, 2) := by decide +kernel
theorem dX11_pourFor_17 : decode cX11_pourFor 17 = .ok (.invokevirtual 94, 3) := by decide +kernel
theorem dX11_pourFor_20 : decode cX11_pourFor 20 = .ok (.aload_n 0, 1) := by decide +kernel
theorem dX11_pourFor_21 : decode cX11_pourFor 21 = .ok (.getfield 7, 3) := by decide +kernel
theorem dX11_pourFor_24 : decode cX11_pourFor 24 = .ok (.bipush 6, 2) := by decide +kernel
theorem dX11_pourFor_26 : decode cX11_pourFor 26 = .ok (.iaload, 1) := by decide +kernel
theorem dX11_pourFor_27 : decode cX11_pourFor 27 = .ok (.istore_n 2, 1) := by decide +kernel
theorem dX11_pourFor_28 : decode cX11_pourFor 28 = .ok (.aload_n 0, 1) := by decide +kernel
theorem dX11_pourFor_29 : decode cX11_pourFor 29 = .ok (.getfield 7, 3) := by decide +kernel
theorem dX11_pourFor_32 : decode cX11_pourFor 32 = .ok (.bipush 7, 2) := by decide +kernel
theorem dX11_pourFor_34 : decode cX11_pourFor 34 = .ok (.iaload, 1) := by decide +kernel
theorem dX11_pourFor_35 : decode cX11_pourFor 35 = .ok (.istore_n 3, 1) := by decide +kernel
theorem dX11_pourFor_36 : decode cX11_pourFor 36 = .ok (.aload_n 0, 1) := by decide +kernel
theorem dX11_pourFor_37 : decode cX11_pourFor 37 = .ok (.invokevirtual 166, 3) := by decide +kernel
theorem dX11_pourFor_40 : decode cX11_pourFor 40 = .ok (.sipush 10000, 3) := by decide +kernel
theorem dX11_pourFor_43 : decode cX11_pourFor 43 = .ok (.istore 4, 2) := by decide +kernel
theorem dX11_pourFor_45 : decode cX11_pourFor 45 = .ok (.iload 4, 2) := by decide +kernel
theorem dX11_pourFor_47 : decode cX11_pourFor 47 = .ok (.ifCond .le 66, 3) := by decide +kernel
theorem dX11_pourFor_50 : decode cX11_pourFor 50 = .ok (.iload 4, 2) := by decide +kernel
theorem dX11_pourFor_52 : decode cX11_pourFor 52 = .ok (.aload_n 0, 1) := by decide +kernel
theorem dX11_pourFor_53 : decode cX11_pourFor 53 = .ok (.iload 4, 2) := by decide +kernel
theorem dX11_pourFor_55 : decode cX11_pourFor 55 = .ok (.invokevirtual 122, 3) := by decide +kernel
theorem dX11_pourFor_58 : decode cX11_pourFor 58 = .ok (.iadd, 1) := by decide +kernel
theorem dX11_pourFor_59 : decode cX11_pourFor 59 = .ok (.iload_n 2, 1) := by decide +kernel
theorem dX11_pourFor_60 : decode cX11_pourFor 60 = .ok (.iload_n 3, 1) := by decide +kernel
theorem dX11_pourFor_61 : decode cX11_pourFor 61 = .ok (.iadd, 1) := by decide +kernel
theorem dX11_pourFor_62 : decode cX11_pourFor 62 = .ok (.if_icmp .gt 45, 3) := by decide +kernel
theorem dX11_pourFor_65 : decode cX11_pourFor 65 = .ok (.iload 4, 2) := by decide +kernel
