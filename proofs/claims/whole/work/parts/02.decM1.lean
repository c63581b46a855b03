theorem dX12_init_0 : decode cX12_init 0 = .ok (.aload_n 0, 1) := by decide +kernel
theorem dX12_init_1 : decode cX12_init 1 = .ok (.invokespecial 1, 3) := by decide +kernel
theorem dX12_init_4 : decode cX12_init 4 = .ok (.aload_n 0, 1) := by decide +kernel
theorem dX12_init_5 : decode cX12_init 5 = .ok (.sipush 320, 3) := by decide +kernel
theorem dX12_init_8 : decode cX12_init 8 = .ok (.newarray .int, 2) := by decide +kernel
theorem dX12_init_10 : decode cX12_init 10 = .ok (.putfield 7, 3) := by decide +kernel
theorem dX12_init_13 : decode cX12_init 13 = .ok (.aload_n 0, 1) := by decide +kernel
theorem dX12_init_14 : decode cX12_init 14 = .ok (.iconst 2, 1) := by decide +kernel
theorem dX12_init_15 : decode cX12_init 15 = .ok (.newarray .boolean, 2) := by decide +kernel
theorem dX12_init_17 : decode cX12_init 17 = .ok (.putfield 13, 3) := by decide +kernel
theorem dX12_init_20 : decode cX12_init 20 = .ok (.aload_n 0, 1) := by decide +kernel
theorem dX12_init_21 : decode cX12_init 21 = .ok (.sipush 150, 3) := by decide +kernel
theorem dX12_init_24 : decode cX12_init 24 = .ok (.newarray .int, 2) := by decide +kernel
theorem dX12_init_26 : decode cX12_init 26 = .ok (.putfield 17, 3) := by decide +kernel
theorem dX12_init_29 : decode cX12_init 29 = .ok (.aload_n 0, 1) := by decide +kernel
theorem dX12_init_30 : decode cX12_init 30 = .ok (.iconst 3, 1) := by decide +kernel
theorem dX12_init_31 : decode cX12_init 31 = .ok (.newarray .int, 2) := by decide +kernel
theorem dX12_init_33 : decode cX12_init 33 = .ok (.putfield 20, 3) := by decide +kernel
theorem dX12_init_36 : decode cX12_init 36 = .ok (.aload_n 0, 1) := by decide +kernel
theorem dX12_init_37 : decode cX12_init 37 = .ok (.lconst 1, 1) := by decide +kernel
theorem dX12_init_38 : decode cX12_init 38 = .ok (.putfield 23, 3) := by decide +kernel
theorem dX12_init_41 : decode cX12_init 41 = .ok (.aload_n 0, 1) := by decide +kernel
theorem dX12_init_42 : decode cX12_init 42 = .ok (.bipush 6, 2) := by decide +kernel
theorem dX12_init_44 : decode cX12_init 44 = .ok (.newarray .int, 2) := by decide +kernel
theorem dX12_init_46 : decode cX12_init 46 = .ok (.putfield 27, 3) := by decide +kernel
theorem dX12_init_49 : decode cX12_init 49 = .ok (.aload_n 0, 1) := by decide +kernel
theorem dX12_init_50 : decode cX12_init 50 = .ok (.iconst 0, 1) := by decide +kernel
theorem dX12_init_51 : decode cX12_init 51 = .ok (.bipush 20, 2) := by decide +kernel
theorem dX12_init_53 : decode cX12_init 53 = .ok (.bipush 60, 2) := by decide +kernel
theorem dX12_init_55 : decode cX12_init 55 = .ok (.invokevirtual 30, 3) := by decide +kernel
theorem dX12_init_58 : decode cX12_init 58 = .ok (.return_, 1) := by decide +kernel
theorem dX12_in_0 : decode cX12_in 0 = .ok (.lload_n 0, 1) := by decide +kernel
theorem dX12_in_1 : decode cX12_in 1 = .ok (.lload_n 2, 1) := by decide +kernel
theorem dX12_in_2 : decode cX12_in 2 = .ok (.lcmp, 1) := by decide +kernel
theorem dX12_in_3 : decode cX12_in 3 = .ok (.ifCond .lt 14, 3) := by decide +kernel
theorem dX12_in_6 : decode cX12_in 6 = .ok (.lload_n 0, 1) := by decide +kernel
theorem dX12_in_7 : decode cX12_in 7 = .ok (.lload 4, 2) := by decide +kernel
theorem dX12_in_9 : decode cX12_in 9 = .ok (.lcmp, 1) := by decide +kernel
theorem dX12_in_10 : decode cX12_in 10 = .ok (.ifCond .gt 7, 3) := by decide +kernel
theorem dX12_in_13 : decode cX12_in 13 = .ok (.iconst 1, 1) := by decide +kernel
theorem dX12_in_14 : decode cX12_in 14 = .ok (.goto 4, 3) := by decide +kernel
theorem dX12_in_17 : decode cX12_in 17 = .ok (.iconst 0, 1) := by decide +kernel
theorem dX12_in_18 : decode cX12_in 18 = .ok (.ireturn, 1) := by decide +kernel
theorem dX12_has_0 : decode cX12_has 0 = .ok (.iload_n 0, 1) := by decide +kernel
theorem dX12_has_1 : decode cX12_has 1 = .ok (.iload_n 1, 1) := by decide +kernel
theorem dX12_has_2 : decode cX12_has 2 = .ok (.ishr, 1) := by decide +kernel
theorem dX12_has_3 : decode cX12_has 3 = .ok (.iconst 1, 1) := by decide +kernel
theorem dX12_has_4 : decode cX12_has 4 = .ok (.iand, 1) := by decide +kernel
theorem dX12_has_5 : decode cX12_has 5 = .ok (.iconst 1, 1) := by decide +kernel
theorem dX12_has_6 : decode cX12_has 6 = .ok (.if_icmp .ne 7, 3) := by decide +kernel
theorem dX12_has_9 : decode cX12_has 9 = .ok (.iconst 1, 1) := by decide +kernel
theorem dX12_has_10 : decode cX12_has 10 = .ok (.goto 4, 3) := by decide +kernel
theorem dX12_has_13 : decode cX12_has 13 = .ok (.iconst 0, 1) := by decide +kernel
theorem dX12_has_14 : decode cX12_has 14 = .ok (.ireturn, 1) := by decide +kernel
theorem dX12_ones_0 : decode cX12_ones 0 = .ok (.iconst 0, 1) := by decide +kernel
theorem dX12_ones_1 : decode cX12_ones 1 = .ok (.istore_n 1, 1) := by decide +kernel
theorem dX12_ones_2 : decode cX12_ones 2 = .ok (.iconst 0, 1) := by decide +kernel
theorem dX12_ones_3 : decode cX12_ones 3 = .ok (.istore_n 2, 1) := by decide +kernel
theorem dX12_ones_4 : decode cX12_ones 4 = .ok (.iload_n 2, 1) := by decide +kernel
theorem dX12_ones_5 : decode cX12_ones 5 = .ok (.bipush 8, 2) := by decide +kernel
theorem dX12_ones_7 : decode cX12_ones 7 = .ok (.if_icmp .ge 17, 3) := by decide +kernel
theorem dX12_ones_10 : decode cX12_ones 10 = .ok (.iload_n 1, 1) := by decide +kernel
theorem dX12_ones_11 : decode cX12_ones 11 = .ok (.iload_n 0, 1) := by decide +kernel
theorem dX12_ones_12 : decode cX12_ones 12 = .ok (.iload_n 2, 1) := by decide +kernel
theorem dX12_ones_13 : decode cX12_ones 13 = .ok (.ishr, 1) := by decide +kernel
theorem dX12_ones_14 : decode cX12_ones 14 = .ok (.iconst 1, 1) := by decide +kernel
theorem dX12_ones_15 : decode cX12_ones 15 = .ok (.iand, 1) := by decide +kernel
theorem dX12_ones_16 : decode cX12_ones 16 = .ok (.iadd, 1) := by decide +kernel
theorem dX12_ones_17 : decode cX12_ones 17 = .ok (.istore_n 1, 1) := by decide +kernel
theorem dX12_ones_18 : decode cX12_ones 18 = .ok (.iinc 2 1, 3) := by decide +kernel
theorem dX12_ones_21 : decode cX12_ones 21 = .ok (.goto (-17), 3) := by decide +kernel
theorem dX12_ones_24 : decode cX12_ones 24 = .ok (.iload_n 1, 1) := by decide +kernel
theorem dX12_ones_25 : decode cX12_ones 25 = .ok (.ireturn, 1) := by decide +kernel
theorem dX12_bad_0 : decode cX12_bad 0 = .ok (.aload_n 0, 1) := by decide +kernel
theorem dX12_bad_1 : decode cX12_bad 1 = .ok (.getfield 20, 3) := by decide +kernel
theorem dX12_bad_4 : decode cX12_bad 4 = .ok (.iconst 0, 1) := by decide +kernel
theorem dX12_bad_5 : decode cX12_bad 5 = .ok (.dup2, 1) := by decide +kernel
theorem dX12_bad_6 : decode cX12_bad 6 = .ok (.iaload, 1) := by decide +kernel
theorem dX12_bad_7 : decode cX12_bad 7 = .ok (.iconst 1, 1) := by decide +kernel
theorem dX12_bad_8 : decode cX12_bad 8 = .ok (.iadd, 1) := by decide +kernel
theorem dX12_bad_9 : decode cX12_bad 9 = .ok (.iastore, 1) := by decide +kernel
theorem dX12_bad_10 : decode cX12_bad 10 = .ok (.bipush (-2), 2) := by decide +kernel
theorem dX12_bad_12 : decode cX12_bad 12 = .ok (.ireturn, 1) := by decide +kernel
theorem dX12_badAs_0 : decode cX12_badAs 0 = .ok (.aload_n 0, 1) := by decide +kernel
theorem dX12_badAs_1 : decode cX12_badAs 1 = .ok (.getfield 20, 3) := by decide +kernel
theorem dX12_badAs_4 : decode cX12_badAs 4 = .ok (.iconst 0, 1) := by decide +kernel
theorem dX12_badAs_5 : decode cX12_badAs 5 = .ok (.dup2, 1) := by decide +kernel
theorem dX12_badAs_6 : decode cX12_badAs 6 = .ok (.iaload, 1) := by decide +kernel
theorem dX12_badAs_7 : decode cX12_badAs 7 = .ok (.iconst 1, 1) := by decide +kernel
theorem dX12_badAs_8 : decode cX12_badAs 8 = .ok (.iadd, 1) := by decide +kernel
theorem dX12_badAs_9 : decode cX12_badAs 9 = .ok (.iastore, 1) := by decide +kernel
theorem dX12_badAs_10 : decode cX12_badAs 10 = .ok (.iload_n 1, 1) := by decide +kernel
theorem dX12_badAs_11 : decode cX12_badAs 11 = .ok (.ireturn, 1) := by decide +kernel
theorem dX12_no_0 : decode cX12_no 0 = .ok (.aload_n 0, 1) := by decide +kernel
theorem dX12_no_1 : decode cX12_no 1 = .ok (.getfield 20, 3) := by decide +kernel
theorem dX12_no_4 : decode cX12_no 4 = .ok (.iconst 1, 1) := by decide +kernel
theorem dX12_no_5 : decode cX12_no 5 = .ok (.dup2, 1) := by decide +kernel
theorem dX12_no_6 : decode cX12_no 6 = .ok (.iaload, 1) := by decide +kernel
theorem dX12_no_7 : decode cX12_no 7 = .ok (.iconst 1, 1) := by decide +kernel
theorem dX12_no_8 : decode cX12_no 8 = .ok (.iadd, 1) := by decide +kernel
theorem dX12_no_9 : decode cX12_no 9 = .ok (.iastore, 1) := by decide +kernel
theorem dX12_no_10 : decode cX12_no 10 = .ok (.bipush (-3), 2) := by decide +kernel
theorem dX12_no_12 : decode cX12_no 12 = .ok (.ireturn, 1) := by decide +kernel
theorem dX12_full_0 : decode cX12_full 0 = .ok (.aload_n 0, 1) := by decide +kernel
theorem dX12_full_1 : decode cX12_full 1 = .ok (.getfield 20, 3) := by decide +kernel
theorem dX12_full_4 : decode cX12_full 4 = .ok (.iconst 2, 1) := by decide +kernel
theorem dX12_full_5 : decode cX12_full 5 = .ok (.dup2, 1) := by decide +kernel
theorem dX12_full_6 : decode cX12_full 6 = .ok (.iaload, 1) := by decide +kernel
theorem dX12_full_7 : decode cX12_full 7 = .ok (.iconst 1, 1) := by decide +kernel
theorem dX12_full_8 : decode cX12_full 8 = .ok (.iadd, 1) := by decide +kernel
theorem dX12_full_9 : decode cX12_full 9 = .ok (.iastore, 1) := by decide +kernel
theorem dX12_full_10 : decode cX12_full 10 = .ok (.bipush (-4), 2) := by decide +kernel
theorem dX12_full_12 : decode cX12_full 12 = .ok (.ireturn, 1) := by decide +kernel
theorem dX12_copy_0 : decode cX12_copy 0 = .ok (.iconst 0, 1) := by decide +kernel
theorem dX12_copy_1 : decode cX12_copy 1 = .ok (.istore_n 3, 1) := by decide +kernel
theorem dX12_copy_2 : decode cX12_copy 2 = .ok (.iload_n 3, 1) := by decide +kernel
theorem dX12_copy_3 : decode cX12_copy 3 = .ok (.bipush 80, 2) := by decide +kernel
theorem dX12_copy_5 : decode cX12_copy 5 = .ok (.if_icmp .ge 25, 3) := by decide +kernel
theorem dX12_copy_8 : decode cX12_copy 8 = .ok (.aload_n 0, 1) := by decide +kernel
theorem dX12_copy_9 : decode cX12_copy 9 = .ok (.getfield 7, 3) := by decide +kernel
theorem dX12_copy_12 : decode cX12_copy 12 = .ok (.iload_n 2, 1) := by decide +kernel
theorem dX12_copy_13 : decode cX12_copy 13 = .ok (.iload_n 3, 1) := by decide +kernel
theorem dX12_copy_14 : decode cX12_copy 14 = .ok (.iadd, 1) := by decide +kernel
theorem dX12_copy_15 : decode cX12_copy 15 = .ok (.aload_n 0, 1) := by decide +kernel
theorem dX12_copy_16 : decode cX12_copy 16 = .ok (.getfield 7, 3) := by decide +kernel
theorem dX12_copy_19 : decode cX12_copy 19 = .ok (.iload_n 1, 1) := by decide +kernel
theorem dX12_copy_20 : decode cX12_copy 20 = .ok (.iload_n 3, 1) := by decide +kernel
theorem dX12_copy_21 : decode cX12_copy 21 = .ok (.iadd, 1) := by decide +kernel
theorem dX12_copy_22 : decode cX12_copy 22 = .ok (.iaload, 1) := by decide +kernel
theorem dX12_copy_23 : decode cX12_copy 23 = .ok (.iastore, 1) := by decide +kernel
theorem dX12_copy_24 : decode cX12_copy 24 = .ok (.iinc 3 1, 3) := by decide +kernel
theorem dX12_copy_27 : decode cX12_copy 27 = .ok (.goto (-25), 3) := by decide +kernel
theorem dX12_copy_30 : decode cX12_copy 30 = .ok (.return_, 1) := by decide +kernel
theorem dX12_begins_0 : decode cX12_begins 0 = .ok (.iconst 0, 1) := by decide +kernel
theorem dX12_begins_1 : decode cX12_begins 1 = .ok (.istore 4, 2) := by decide +kernel
theorem dX12_begins_3 : decode cX12_begins 3 = .ok (.iload 4, 2) := by decide +kernel
theorem dX12_begins_5 : decode cX12_begins 5 = .ok (.bipush 80, 2) := by decide +kernel
theorem dX12_begins_7 : decode cX12_begins 7 = .ok (.if_icmp .ge 19, 3) := by decide +kernel
theorem dX12_begins_10 : decode cX12_begins 10 = .ok (.aload_n 0, 1) := by decide +kernel
theorem dX12_begins_11 : decode cX12_begins 11 = .ok (.getfield 7, 3) := by decide +kernel
theorem dX12_begins_14 : decode cX12_begins 14 = .ok (.iload_n 1, 1) := by decide +kernel
theorem dX12_begins_15 : decode cX12_begins 15 = .ok (.iload 4, 2) := by decide +kernel
theorem dX12_begins_17 : decode cX12_begins 17 = .ok (.iadd, 1) := by decide +kernel
theorem dX12_begins_18 : decode cX12_begins 18 = .ok (.iconst 0, 1) := by decide +kernel
theorem dX12_begins_19 : decode cX12_begins 19 = .ok (.iastore, 1) := by decide +kernel
theorem dX12_begins_20 : decode cX12_begins 20 = .ok (.iinc 4 1, 3) := by decide +kernel
theorem dX12_begins_23 : decode cX12_begins 23 = .ok (.goto (-20), 3) := by decide +kernel
theorem dX12_begins_26 : decode cX12_begins 26 = .ok (.aload_n 0, 1) := by decide +kernel
theorem dX12_begins_27 : decode cX12_begins 27 = .ok (.getfield 7, 3) := by decide +kernel
theorem dX12_begins_30 : decode cX12_begins 30 = .ok (.iload_n 1, 1) := by decide +kernel
theorem dX12_begins_31 : decode cX12_begins 31 = .ok (.iconst 1, 1) := by decide +kernel
theorem dX12_begins_32 : decode cX12_begins 32 = .ok (.iadd, 1) := by decide +kernel
theorem dX12_begins_33 : decode cX12_begins 33 = .ok (.iload_n 2, 1) := by decide +kernel
theorem dX12_begins_34 : decode cX12_begins 34 = .ok (.iastore, 1) := by decide +kernel
theorem dX12_begins_35 : decode cX12_begins 35 = .ok (.aload_n 0, 1) := by decide +kernel
theorem dX12_begins_36 : decode cX12_begins 36 = .ok (.getfield 7, 3) := by decide +kernel
theorem dX12_begins_39 : decode cX12_begins 39 = .ok (.iload_n 1, 1) := by decide +kernel
theorem dX12_begins_40 : decode cX12_begins 40 = .ok (.iconst 2, 1) := by decide +kernel
theorem dX12_begins_41 : decode cX12_begins 41 = .ok (.iadd, 1) := by decide +kernel
theorem dX12_begins_42 : decode cX12_begins 42 = .ok (.iload_n 3, 1) := by decide +kernel
theorem dX12_begins_43 : decode cX12_begins 43 = .ok (.iastore, 1) := by decide +kernel
theorem dX12_begins_44 : decode cX12_begins 44 = .ok (.return_, 1) := by decide +kernel
theorem dX12_isGoods_0 : decode cX12_isGoods 0 = .ok (.iload_n 1, 1) := by decide +kernel
theorem dX12_isGoods_1 : decode cX12_isGoods 1 = .ok (.i2l, 1) := by decide +kernel
theorem dX12_isGoods_2 : decode cX12_isGoods 2 = .ok (.lconst 0, 1) := by decide +kernel
theorem dX12_isGoods_3 : decode cX12_isGoods 3 = .ok (.aload_n 0, 1) := by decide +kernel
theorem dX12_isGoods_4 : decode cX12_isGoods 4 = .ok (.getfield 7, 3) := by decide +kernel
theorem dX12_isGoods_7 : decode cX12_isGoods 7 = .ok (.iconst 0, 1) := by decide +kernel
theorem dX12_isGoods_8 : decode cX12_isGoods 8 = .ok (.iaload, 1) := by decide +kernel
theorem dX12_isGoods_9 : decode cX12_isGoods 9 = .ok (.iconst 1, 1) := by decide +kernel
theorem dX12_isGoods_10 : decode cX12_isGoods 10 = .ok (.isub, 1) := by decide +kernel
theorem dX12_isGoods_11 : decode cX12_isGoods 11 = .ok (.i2l, 1) := by decide +kernel
theorem dX12_isGoods_12 : decode cX12_isGoods 12 = .ok (.invokestatic 34, 3) := by decide +kernel
theorem dX12_isGoods_15 : decode cX12_isGoods 15 = .ok (.ireturn, 1) := by decide +kernel
theorem dX12_isOwner_0 : decode cX12_isOwner 0 = .ok (.iload_n 0, 1) := by decide +kernel
theorem dX12_isOwner_1 : decode cX12_isOwner 1 = .ok (.i2l, 1) := by decide +kernel
theorem dX12_isOwner_2 : decode cX12_isOwner 2 = .ok (.lconst 0, 1) := by decide +kernel
theorem dX12_isOwner_3 : decode cX12_isOwner 3 = .ok (.ldc2_w 38, 3) := by decide +kernel
theorem dX12_isOwner_6 : decode cX12_isOwner 6 = .ok (.invokestatic 34, 3) := by decide +kernel
theorem dX12_isOwner_9 : decode cX12_isOwner 9 = .ok (.ireturn, 1) := by decide +kernel
theorem dX12_isStorm_0 : decode cX12_isStorm 0 = .ok (.iload_n 0, 1) := by decide +kernel
theorem dX12_isStorm_1 : decode cX12_isStorm 1 = .ok (.i2l, 1) := by decide +kernel
theorem dX12_isStorm_2 : decode cX12_isStorm 2 = .ok (.lconst 0, 1) := by decide +kernel
theorem dX12_isStorm_3 : decode cX12_isStorm 3 = .ok (.ldc2_w 40, 3) := by decide +kernel
theorem dX12_isStorm_6 : decode cX12_isStorm 6 = .ok (.invokestatic 34, 3) := by decide +kernel
theorem dX12_isStorm_9 : decode cX12_isStorm 9 = .ok (.ireturn, 1) := by decide +kernel
theorem dX12_ship_0 : decode cX12_ship 0 = .ok (.iload_n 1, 1) := by decide +kernel
theorem dX12_ship_1 : decode cX12_ship 1 = .ok (.i2l, 1) := by decide +kernel
theorem dX12_ship_2 : decode cX12_ship 2 = .ok (.lconst 0, 1) := by decide +kernel
theorem dX12_ship_3 : decode cX12_ship 3 = .ok (.ldc2_w 42, 3) := by decide +kernel
theorem dX12_ship_6 : decode cX12_ship 6 = .ok (.invokestatic 34, 3) := by decide +kernel
theorem dX12_ship_9 : decode cX12_ship 9 = .ok (.ifCond .eq 15, 3) := by decide +kernel
theorem dX12_ship_12 : decode cX12_ship 12 = .ok (.iload_n 2, 1) := by decide +kernel
theorem dX12_ship_13 : decode cX12_ship 13 = .ok (.i2l, 1) := by decide +kernel
theorem dX12_ship_14 : decode cX12_ship 14 = .ok (.lconst 0, 1) := by decide +kernel
theorem dX12_ship_15 : decode cX12_ship 15 = .ok (.ldc2_w 40, 3) := by decide +kernel
theorem dX12_ship_18 : decode cX12_ship 18 = .ok (.invokestatic 34, 3) := by decide +kernel
theorem dX12_ship_21 : decode cX12_ship 21 = .ok (.ifCond .ne 8, 3) := by decide +kernel
theorem dX12_ship_24 : decode cX12_ship 24 = .ok (.aload_n 0, 1) := by decide +kernel
theorem dX12_ship_25 : decode cX12_ship 25 = .ok (.invokevirtual 44, 3) := by decide +kernel
theorem dX12_ship_28 : decode cX12_ship 28 = .ok (.ireturn, 1) := by decide +kernel
theorem dX12_ship_29 : decode cX12_ship 29 = .ok (.aload_n 0, 1) := by decide +kernel
theorem dX12_ship_30 : decode cX12_ship 30 = .ok (.getfield 7, 3) := by decide +kernel
theorem dX12_ship_33 : decode cX12_ship 33 = .ok (.iconst 0, 1) := by decide +kernel
theorem dX12_ship_34 : decode cX12_ship 34 = .ok (.iaload, 1) := by decide +kernel
theorem dX12_ship_35 : decode cX12_ship 35 = .ok (.istore_n 3, 1) := by decide +kernel
theorem dX12_ship_36 : decode cX12_ship 36 = .ok (.aload_n 0, 1) := by decide +kernel
theorem dX12_ship_37 : decode cX12_ship 37 = .ok (.iconst 0, 1) := by decide +kernel
theorem dX12_ship_38 : decode cX12_ship 38 = .ok (.iload_n 1, 1) := by decide +kernel
theorem dX12_ship_39 : decode cX12_ship 39 = .ok (.iload_n 2, 1) := by decide +kernel
theorem dX12_ship_40 : decode cX12_ship 40 = .ok (.invokevirtual 30, 3) := by decide +kernel
theorem dX12_ship_43 : decode cX12_ship 43 = .ok (.iload_n 3, 1) := by decide +kernel
theorem dX12_ship_44 : decode cX12_ship 44 = .ok (.ireturn, 1) := by decide +kernel
theorem dX12_adds_0 : decode cX12_adds 0 = .ok (.aload_n 0, 1) := by decide +kernel
theorem dX12_adds_1 : decode cX12_adds 1 = .ok (.getfield 7, 3) := by decide +kernel
theorem dX12_adds_4 : decode cX12_adds 4 = .ok (.iload_n 1, 1) := by decide +kernel
theorem dX12_adds_5 : decode cX12_adds 5 = .ok (.iconst 0, 1) := by decide +kernel
theorem dX12_adds_6 : decode cX12_adds 6 = .ok (.iadd, 1) := by decide +kernel
theorem dX12_adds_7 : decode cX12_adds 7 = .ok (.iaload, 1) := by decide +kernel
theorem dX12_adds_8 : decode cX12_adds 8 = .ok (.istore 8, 2) := by decide +kernel
theorem dX12_adds_10 : decode cX12_adds 10 = .ok (.aload_n 0, 1) := by decide +kernel
theorem dX12_adds_11 : decode cX12_adds 11 = .ok (.getfield 7, 3) := by decide +kernel
theorem dX12_adds_14 : decode cX12_adds 14 = .ok (.iload_n 1, 1) := by decide +kernel
theorem dX12_adds_15 : decode cX12_adds 15 = .ok (.bipush 6, 2) := by decide +kernel
theorem dX12_adds_17 : decode cX12_adds 17 = .ok (.iadd, 1) := by decide +kernel
theorem dX12_adds_18 : decode cX12_adds 18 = .ok (.iload 8, 2) := by decide +kernel
theorem dX12_adds_20 : decode cX12_adds 20 = .ok (.iadd, 1) := by decide +kernel
theorem dX12_adds_21 : decode cX12_adds 21 = .ok (.iload_n 2, 1) := by decide +kernel
theorem dX12_adds_22 : decode cX12_adds 22 = .ok (.iastore, 1) := by decide +kernel
theorem dX12_adds_23 : decode cX12_adds 23 = .ok (.aload_n 0, 1) := by decide +kernel
theorem dX12_adds_24 : decode cX12_adds 24 = .ok (.getfield 7, 3) := by decide +kernel
theorem dX12_adds_27 : decode cX12_adds 27 = .ok (.iload_n 1, 1) := by decide +kernel
theorem dX12_adds_28 : decode cX12_adds 28 = .ok (.bipush 14, 2) := by decide +kernel
theorem dX12_adds_30 : decode cX12_adds 30 = .ok (.iadd, 1) := by decide +kernel
theorem dX12_adds_31 : decode cX12_adds 31 = .ok (.iload 8, 2) := by decide +kernel
theorem dX12_adds_33 : decode cX12_adds 33 = .ok (.iadd, 1) := by decide +kernel
theorem dX12_adds_34 : decode cX12_adds 34 = .ok (.iload_n 3, 1) := by decide +kernel
theorem dX12_adds_35 : decode cX12_adds 35 = .ok (.iastore, 1) := by decide +kernel
theorem dX12_adds_36 : decode cX12_adds 36 = .ok (.aload_n 0, 1) := by decide +kernel
theorem dX12_adds_37 : decode cX12_adds 37 = .ok (.getfield 7, 3) := by decide +kernel
theorem dX12_adds_40 : decode cX12_adds 40 = .ok (.iload_n 1, 1) := by decide +kernel
theorem dX12_adds_41 : decode cX12_adds 41 = .ok (.bipush 22, 2) := by decide +kernel
theorem dX12_adds_43 : decode cX12_adds 43 = .ok (.iadd, 1) := by decide +kernel
theorem dX12_adds_44 : decode cX12_adds 44 = .ok (.iload 8, 2) := by decide +kernel
theorem dX12_adds_46 : decode cX12_adds 46 = .ok (.iadd, 1) := by decide +kernel
theorem dX12_adds_47 : decode cX12_adds 47 = .ok (.iload 4, 2) := by decide +kernel
theorem dX12_adds_49 : decode cX12_adds 49 = .ok (.iastore, 1) := by decide +kernel
theorem dX12_adds_50 : decode cX12_adds 50 = .ok (.aload_n 0, 1) := by decide +kernel
theorem dX12_adds_51 : decode cX12_adds 51 = .ok (.getfield 7, 3) := by decide +kernel
theorem dX12_adds_54 : decode cX12_adds 54 = .ok (.iload_n 1, 1) := by decide +kernel
theorem dX12_adds_55 : decode cX12_adds 55 = .ok (.bipush 30, 2) := by decide +kernel
theorem dX12_adds_57 : decode cX12_adds 57 = .ok (.iadd, 1) := by decide +kernel
theorem dX12_adds_58 : decode cX12_adds 58 = .ok (.iload 8, 2) := by decide +kernel
theorem dX12_adds_60 : decode cX12_adds 60 = .ok (.iadd, 1) := by decide +kernel
theorem dX12_adds_61 : decode cX12_adds 61 = .ok (.iload 5, 2) := by decide +kernel
theorem dX12_adds_63 : decode cX12_adds 63 = .ok (.iastore, 1) := by decide +kernel
theorem dX12_adds_64 : decode cX12_adds 64 = .ok (.aload_n 0, 1) := by decide +kernel
theorem dX12_adds_65 : decode cX12_adds 65 = .ok (.getfield 7, 3) := by decide +kernel
theorem dX12_adds_68 : decode cX12_adds 68 = .ok (.iload_n 1, 1) := by decide +kernel
theorem dX12_adds_69 : decode cX12_adds 69 = .ok (.bipush 38, 2) := by decide +kernel
theorem dX12_adds_71 : decode cX12_adds 71 = .ok (.iadd, 1) := by decide +kernel
theorem dX12_adds_72 : decode cX12_adds 72 = .ok (.iload 8, 2) := by decide +kernel
theorem dX12_adds_74 : decode cX12_adds 74 = .ok (.iadd, 1) := by decide +kernel
theorem dX12_adds_75 : decode cX12_adds 75 = .ok (.iload 6, 2) := by decide +kernel
theorem dX12_adds_77 : decode cX12_adds 77 = .ok (.iastore, 1) := by decide +kernel
theorem dX12_adds_78 : decode cX12_adds 78 = .ok (.aload_n 0, 1) := by decide +kernel
theorem dX12_adds_79 : decode cX12_adds 79 = .ok (.getfield 7, 3) := by decide +kernel
theorem dX12_adds_82 : decode cX12_adds 82 = .ok (.iload_n 1, 1) := by decide +kernel
theorem dX12_adds_83 : decode cX12_adds 83 = .ok (.bipush 46, 2) := by decide +kernel
theorem dX12_adds_85 : decode cX12_adds 85 = .ok (.iadd, 1) := by decide +kernel
theorem dX12_adds_86 : decode cX12_adds 86 = .ok (.iload 8, 2) := by decide +kernel
theorem dX12_adds_88 : decode cX12_adds 88 = .ok (.iadd, 1) := by decide +kernel
theorem dX12_adds_89 : decode cX12_adds 89 = .ok (.iload 7, 2) := by decide +kernel
theorem dX12_adds_91 : decode cX12_adds 91 = .ok (.iastore, 1) := by decide +kernel
theorem dX12_adds_92 : decode cX12_adds 92 = .ok (.aload_n 0, 1) := by decide +kernel
theorem dX12_adds_93 : decode cX12_adds 93 = .ok (.getfield 7, 3) := by decide +kernel
theorem dX12_adds_96 : decode cX12_adds 96 = .ok (.iload_n 1, 1) := by decide +kernel
theorem dX12_adds_97 : decode cX12_adds 97 = .ok (.iconst 5, 1) := by decide +kernel
theorem dX12_adds_98 : decode cX12_adds 98 = .ok (.iadd, 1) := by decide +kernel
theorem dX12_adds_99 : decode cX12_adds 99 = .ok (.dup2, 1) := by decide +kernel
theorem dX12_adds_100 : decode cX12_adds 100 = .ok (.iaload, 1) := by decide +kernel
theorem dX12_adds_101 : decode cX12_adds 101 = .ok (.iconst 1, 1) := by decide +kernel
theorem dX12_adds_102 : decode cX12_adds 102 = .ok (.iload 8, 2) := by decide +kernel
theorem dX12_adds_104 : decode cX12_adds 104 = .ok (.ishl, 1) := by decide +kernel
theorem dX12_adds_105 : decode cX12_adds 105 = .ok (.ior, 1) := by decide +kernel
theorem dX12_adds_106 : decode cX12_adds 106 = .ok (.iastore, 1) := by decide +kernel
theorem dX12_adds_107 : decode cX12_adds 107 = .ok (.aload_n 0, 1) := by decide +kernel
theorem dX12_adds_108 : decode cX12_adds 108 = .ok (.getfield 7, 3) := by decide +kernel
theorem dX12_adds_111 : decode cX12_adds 111 = .ok (.iload_n 1, 1) := by decide +kernel
theorem dX12_adds_112 : decode cX12_adds 112 = .ok (.iconst 0, 1) := by decide +kernel
theorem dX12_adds_113 : decode cX12_adds 113 = .ok (.iadd, 1) := by decide +kernel
theorem dX12_adds_114 : decode cX12_adds 114 = .ok (.dup2, 1) := by decide +kernel
theorem dX12_adds_115 : decode cX12_adds 115 = .ok (.iaload, 1) := by decide +kernel
theorem dX12_adds_116 : decode cX12_adds 116 = .ok (.iconst 1, 1) := by decide +kernel
theorem dX12_adds_117 : decode cX12_adds 117 = .ok (.iadd, 1) := by decide +kernel
theorem dX12_adds_118 : decode cX12_adds 118 = .ok (.iastore, 1) := by decide +kernel
theorem dX12_adds_119 : decode cX12_adds 119 = .ok (.iload 8, 2) := by decide +kernel
theorem dX12_adds_121 : decode cX12_adds 121 = .ok (.ireturn, 1) := by decide +kernel
theorem dX12_goods_0 : decode cX12_goods 0 = .ok (.iload_n 1, 1) := by decide +kernel
theorem dX12_goods_1 : decode cX12_goods 1 = .ok (.i2l, 1) := by decide +kernel
theorem dX12_goods_2 : decode cX12_goods 2 = .ok (.lconst 0, 1) := by decide +kernel
theorem dX12_goods_3 : decode cX12_goods 3 = .ok (.ldc2_w 48, 3) := by decide +kernel
theorem dX12_goods_6 : decode cX12_goods 6 = .ok (.invokestatic 34, 3) := by decide +kernel
theorem dX12_goods_9 : decode cX12_goods 9 = .ok (.ifCond .eq 61, 3) := by decide +kernel
theorem dX12_goods_12 : decode cX12_goods 12 = .ok (.iload_n 2, 1) := by decide +kernel
theorem dX12_goods_13 : decode cX12_goods 13 = .ok (.invokestatic 50, 3) := by decide +kernel
theorem dX12_goods_16 : decode cX12_goods 16 = .ok (.ifCond .eq 54, 3) := by decide +kernel
theorem dX12_goods_19 : decode cX12_goods 19 = .ok (.iload_n 3, 1) := by decide +kernel
theorem dX12_goods_20 : decode cX12_goods 20 = .ok (.i2l, 1) := by decide +kernel
theorem dX12_goods_21 : decode cX12_goods 21 = .ok (.lconst 0, 1) := by decide +kernel
theorem dX12_goods_22 : decode cX12_goods 22 = .ok (.ldc2_w 54, 3) := by decide +kernel
theorem dX12_goods_25 : decode cX12_goods 25 = .ok (.invokestatic 34, 3) := by decide +kernel
theorem dX12_goods_28 : decode cX12_goods 28 = .ok (.ifCond .eq 42, 3) := by decide +kernel
theorem dX12_goods_31 : decode cX12_goods 31 = .ok (.iload 4, 2) := by decide +kernel
theorem dX12_goods_33 : decode cX12_goods 33 = .ok (.i2l, 1) := by decide +kernel
theorem dX12_goods_34 : decode cX12_goods 34 = .ok (.lconst 1, 1) := by decide +kernel
theorem dX12_goods_35 : decode cX12_goods 35 = .ok (.ldc2_w 56, 3) := by decide +kernel
theorem dX12_goods_38 : decode cX12_goods 38 = .ok (.invokestatic 34, 3) := by decide +kernel
theorem dX12_goods_41 : decode cX12_goods 41 = .ok (.ifCond .eq 29, 3) := by decide +kernel
theorem dX12_goods_44 : decode cX12_goods 44 = .ok (.iload 5, 2) := by decide +kernel
theorem dX12_goods_46 : decode cX12_goods 46 = .ok (.i2l, 1) := by decide +kernel
theorem dX12_goods_47 : decode cX12_goods 47 = .ok (.lconst 0, 1) := by decide +kernel
theorem dX12_goods_48 : decode cX12_goods 48 = .ok (.ldc2_w 58, 3) := by decide +kernel
theorem dX12_goods_51 : decode cX12_goods 51 = .ok (.invokestatic 34, 3) := by decide +kernel
theorem dX12_goods_54 : decode cX12_goods 54 = .ok (.ifCond .eq 16, 3) := by decide +kernel
theorem dX12_goods_57 : decode cX12_goods 57 = .ok (.iload 6, 2) := by decide +kernel
theorem dX12_goods_59 : decode cX12_goods 59 = .ok (.i2l, 1) := by decide +kernel
theorem dX12_goods_60 : decode cX12_goods 60 = .ok (.lconst 0, 1) := by decide +kernel
theorem dX12_goods_61 : decode cX12_goods 61 = .ok (.ldc2_w 58, 3) := by decide +kernel
theorem dX12_goods_64 : decode cX12_goods 64 = .ok (.invokestatic 34, 3) := by decide +kernel
theorem dX12_goods_67 : decode cX12_goods 67 = .ok (.ifCond .ne 8, 3) := by decide +kernel
theorem dX12_goods_70 : decode cX12_goods 70 = .ok (.aload_n 0, 1) := by decide +kernel
theorem dX12_goods_71 : decode cX12_goods 71 = .ok (.invokevirtual 44, 3) := by decide +kernel
theorem dX12_goods_74 : decode cX12_goods 74 = .ok (.ireturn, 1) := by decide +kernel
theorem dX12_goods_75 : decode cX12_goods 75 = .ok (.aload_n 0, 1) := by decide +kernel
theorem dX12_goods_76 : decode cX12_goods 76 = .ok (.getfield 7, 3) := by decide +kernel
theorem dX12_goods_79 : decode cX12_goods 79 = .ok (.iconst 0, 1) := by decide +kernel
theorem dX12_goods_80 : decode cX12_goods 80 = .ok (.iaload, 1) := by decide +kernel
theorem dX12_goods_81 : decode cX12_goods 81 = .ok (.bipush 8, 2) := by decide +kernel
theorem dX12_goods_83 : decode cX12_goods 83 = .ok (.if_icmp .ne 8, 3) := by decide +kernel
theorem dX12_goods_86 : decode cX12_goods 86 = .ok (.aload_n 0, 1) := by decide +kernel
theorem dX12_goods_87 : decode cX12_goods 87 = .ok (.invokevirtual 60, 3) := by decide +kernel
theorem dX12_goods_90 : decode cX12_goods 90 = .ok (.ireturn, 1) := by decide +kernel
theorem dX12_goods_91 : decode cX12_goods 91 = .ok (.aload_n 0, 1) := by decide +kernel
theorem dX12_goods_92 : decode cX12_goods 92 = .ok (.getfield 7, 3) := by decide +kernel
theorem dX12_goods_95 : decode cX12_goods 95 = .ok (.iconst 4, 1) := by decide +kernel
theorem dX12_goods_96 : decode cX12_goods 96 = .ok (.iconst 0, 1) := by decide +kernel
theorem dX12_goods_97 : decode cX12_goods 97 = .ok (.iastore, 1) := by decide +kernel
theorem dX12_goods_98 : decode cX12_goods 98 = .ok (.aload_n 0, 1) := by decide +kernel
theorem dX12_goods_99 : decode cX12_goods 99 = .ok (.iconst 0, 1) := by decide +kernel
theorem dX12_goods_100 : decode cX12_goods 100 = .ok (.iload_n 1, 1) := by decide +kernel
theorem dX12_goods_101 : decode cX12_goods 101 = .ok (.iload_n 2, 1) := by decide +kernel
theorem dX12_goods_102 : decode cX12_goods 102 = .ok (.iload_n 3, 1) := by decide +kernel
theorem dX12_goods_103 : decode cX12_goods 103 = .ok (.iload 4, 2) := by decide +kernel
theorem dX12_goods_105 : decode cX12_goods 105 = .ok (.iload 5, 2) := by decide +kernel
theorem dX12_goods_107 : decode cX12_goods 107 = .ok (.iload 6, 2) := by decide +kernel
theorem dX12_goods_109 : decode cX12_goods 109 = .ok (.invokevirtual 63, 3) := by decide +kernel
theorem dX12_goods_112 : decode cX12_goods 112 = .ok (.ireturn, 1) := by decide +kernel
theorem dX12_tells_0 : decode cX12_tells 0 = .ok (.aload_n 0, 1) := by decide +kernel
theorem dX12_tells_1 : decode cX12_tells 1 = .ok (.iload_n 1, 1) := by decide +kernel
theorem dX12_tells_2 : decode cX12_tells 2 = .ok (.invokevirtual 67, 3) := by decide +kernel
theorem dX12_tells_5 : decode cX12_tells 5 = .ok (.ifCond .eq 15, 3) := by decide +kernel
theorem dX12_tells_8 : decode cX12_tells 8 = .ok (.iload_n 2, 1) := by decide +kernel
theorem dX12_tells_9 : decode cX12_tells 9 = .ok (.i2l, 1) := by decide +kernel
theorem dX12_tells_10 : decode cX12_tells 10 = .ok (.lconst 0, 1) := by decide +kernel
theorem dX12_tells_11 : decode cX12_tells 11 = .ok (.ldc2_w 58, 3) := by decide +kernel
theorem dX12_tells_14 : decode cX12_tells 14 = .ok (.invokestatic 34, 3) := by decide +kernel
theorem dX12_tells_17 : decode cX12_tells 17 = .ok (.ifCond .ne 8, 3) := by decide +kernel
theorem dX12_tells_20 : decode cX12_tells 20 = .ok (.aload_n 0, 1) := by decide +kernel
theorem dX12_tells_21 : decode cX12_tells 21 = .ok (.invokevirtual 44, 3) := by decide +kernel
theorem dX12_tells_24 : decode cX12_tells 24 = .ok (.ireturn, 1) := by decide +kernel
theorem dX12_tells_25 : decode cX12_tells 25 = .ok (.aload_n 0, 1) := by decide +kernel
theorem dX12_tells_26 : decode cX12_tells 26 = .ok (.getfield 7, 3) := by decide +kernel
theorem dX12_tells_29 : decode cX12_tells 29 = .ok (.bipush 46, 2) := by decide +kernel
theorem dX12_tells_31 : decode cX12_tells 31 = .ok (.iload_n 1, 1) := by decide +kernel
theorem dX12_tells_32 : decode cX12_tells 32 = .ok (.iadd, 1) := by decide +kernel
theorem dX12_tells_33 : decode cX12_tells 33 = .ok (.iaload, 1) := by decide +kernel
theorem dX12_tells_34 : decode cX12_tells 34 = .ok (.istore_n 3, 1) := by decide +kernel
theorem dX12_tells_35 : decode cX12_tells 35 = .ok (.aload_n 0, 1) := by decide +kernel
theorem dX12_tells_36 : decode cX12_tells 36 = .ok (.getfield 7, 3) := by decide +kernel
theorem dX12_tells_39 : decode cX12_tells 39 = .ok (.bipush 46, 2) := by decide +kernel
theorem dX12_tells_41 : decode cX12_tells 41 = .ok (.iload_n 1, 1) := by decide +kernel
theorem dX12_tells_42 : decode cX12_tells 42 = .ok (.iadd, 1) := by decide +kernel
theorem dX12_tells_43 : decode cX12_tells 43 = .ok (.iload_n 2, 1) := by decide +kernel
theorem dX12_tells_44 : decode cX12_tells 44 = .ok (.iastore, 1) := by decide +kernel
theorem dX12_tells_45 : decode cX12_tells 45 = .ok (.iload_n 3, 1) := by decide +kernel
theorem dX12_tells_46 : decode cX12_tells 46 = .ok (.ireturn, 1) := by decide +kernel
theorem dX12_isTop_0 : decode cX12_isTop 0 = .ok (.iload_n 3, 1) := by decide +kernel
theorem dX12_isTop_1 : decode cX12_isTop 1 = .ok (.iload 4, 2) := by decide +kernel
theorem dX12_isTop_3 : decode cX12_isTop 3 = .ok (.if_icmp .ne 8, 3) := by decide +kernel
theorem dX12_isTop_6 : decode cX12_isTop 6 = .ok (.iload 5, 2) := by decide +kernel
theorem dX12_isTop_8 : decode cX12_isTop 8 = .ok (.goto 14, 3) := by decide +kernel
theorem dX12_isTop_11 : decode cX12_isTop 11 = .ok (.aload_n 0, 1) := by decide +kernel
theorem dX12_isTop_12 : decode cX12_isTop 12 = .ok (.getfield 7, 3) := by decide +kernel
theorem dX12_isTop_15 : decode cX12_isTop 15 = .ok (.iload_n 1, 1) := by decide +kernel
theorem dX12_isTop_16 : decode cX12_isTop 16 = .ok (.bipush 22, 2) := by decide +kernel
theorem dX12_isTop_18 : decode cX12_isTop 18 = .ok (.iadd, 1) := by decide +kernel
theorem dX12_isTop_19 : decode cX12_isTop 19 = .ok (.iload_n 3, 1) := by decide +kernel
theorem dX12_isTop_20 : decode cX12_isTop 20 = .ok (.iadd, 1) := by decide +kernel
theorem dX12_isTop_21 : decode cX12_isTop 21 = .ok (.iaload, 1) := by decide +kernel
theorem dX12_isTop_22 : decode cX12_isTop 22 = .ok (.istore 6, 2) := by decide +kernel
theorem dX12_isTop_24 : decode cX12_isTop 24 = .ok (.iload_n 2, 1) := by decide +kernel
theorem dX12_isTop_25 : decode cX12_isTop 25 = .ok (.iload_n 3, 1) := by decide +kernel
theorem dX12_isTop_26 : decode cX12_isTop 26 = .ok (.invokestatic 70, 3) := by decide +kernel
theorem dX12_isTop_29 : decode cX12_isTop 29 = .ok (.istore 7, 2) := by decide +kernel
theorem dX12_isTop_31 : decode cX12_isTop 31 = .ok (.iconst 0, 1) := by decide +kernel
theorem dX12_isTop_32 : decode cX12_isTop 32 = .ok (.istore 8, 2) := by decide +kernel
theorem dX12_isTop_34 : decode cX12_isTop 34 = .ok (.iload 8, 2) := by decide +kernel
theorem dX12_isTop_36 : decode cX12_isTop 36 = .ok (.aload_n 0, 1) := by decide +kernel
theorem dX12_isTop_37 : decode cX12_isTop 37 = .ok (.getfield 7, 3) := by decide +kernel
theorem dX12_isTop_40 : decode cX12_isTop 40 = .ok (.iload_n 1, 1) := by decide +kernel
theorem dX12_isTop_41 : decode cX12_isTop 41 = .ok (.iconst 0, 1) := by decide +kernel
theorem dX12_isTop_42 : decode cX12_isTop 42 = .ok (.iadd, 1) := by decide +kernel
theorem dX12_isTop_43 : decode cX12_isTop 43 = .ok (.iaload, 1) := by decide +kernel
theorem dX12_isTop_44 : decode cX12_isTop 44 = .ok (.if_icmp .ge 100, 3) := by decide +kernel
theorem dX12_isTop_47 : decode cX12_isTop 47 = .ok (.iload 8, 2) := by decide +kernel
theorem dX12_isTop_49 : decode cX12_isTop 49 = .ok (.iload 4, 2) := by decide +kernel
theorem dX12_isTop_51 : decode cX12_isTop 51 = .ok (.if_icmp .ne 8, 3) := by decide +kernel
theorem dX12_isTop_54 : decode cX12_isTop 54 = .ok (.iload 5, 2) := by decide +kernel
theorem dX12_isTop_56 : decode cX12_isTop 56 = .ok (.goto 15, 3) := by decide +kernel
theorem dX12_isTop_59 : decode cX12_isTop 59 = .ok (.aload_n 0, 1) := by decide +kernel
theorem dX12_isTop_60 : decode cX12_isTop 60 = .ok (.getfield 7, 3) := by decide +kernel
theorem dX12_isTop_63 : decode cX12_isTop 63 = .ok (.iload_n 1, 1) := by decide +kernel
theorem dX12_isTop_64 : decode cX12_isTop 64 = .ok (.bipush 22, 2) := by decide +kernel
theorem dX12_isTop_66 : decode cX12_isTop 66 = .ok (.iadd, 1) := by decide +kernel
theorem dX12_isTop_67 : decode cX12_isTop 67 = .ok (.iload 8, 2) := by decide +kernel
theorem dX12_isTop_69 : decode cX12_isTop 69 = .ok (.iadd, 1) := by decide +kernel
theorem dX12_isTop_70 : decode cX12_isTop 70 = .ok (.iaload, 1) := by decide +kernel
theorem dX12_isTop_71 : decode cX12_isTop 71 = .ok (.istore 9, 2) := by decide +kernel
theorem dX12_isTop_73 : decode cX12_isTop 73 = .ok (.iload 8, 2) := by decide +kernel
theorem dX12_isTop_75 : decode cX12_isTop 75 = .ok (.iload 4, 2) := by decide +kernel
theorem dX12_isTop_77 : decode cX12_isTop 77 = .ok (.if_icmp .eq 15, 3) := by decide +kernel
theorem dX12_isTop_80 : decode cX12_isTop 80 = .ok (.iload_n 3, 1) := by decide +kernel
theorem dX12_isTop_81 : decode cX12_isTop 81 = .ok (.iload 4, 2) := by decide +kernel
theorem dX12_isTop_83 : decode cX12_isTop 83 = .ok (.if_icmp .eq 13, 3) := by decide +kernel
theorem dX12_isTop_86 : decode cX12_isTop 86 = .ok (.iload 8, 2) := by decide +kernel
theorem dX12_isTop_88 : decode cX12_isTop 88 = .ok (.iload_n 3, 1) := by decide +kernel
theorem dX12_isTop_89 : decode cX12_isTop 89 = .ok (.if_icmp .le 7, 3) := by decide +kernel
theorem dX12_isTop_92 : decode cX12_isTop 92 = .ok (.iconst 1, 1) := by decide +kernel
theorem dX12_isTop_93 : decode cX12_isTop 93 = .ok (.goto 4, 3) := by decide +kernel
theorem dX12_isTop_96 : decode cX12_isTop 96 = .ok (.iconst 0, 1) := by decide +kernel
theorem dX12_isTop_97 : decode cX12_isTop 97 = .ok (.istore 10, 2) := by decide +kernel
theorem dX12_isTop_99 : decode cX12_isTop 99 = .ok (.iload 7, 2) := by decide +kernel
theorem dX12_isTop_101 : decode cX12_isTop 101 = .ok (.ifCond .eq 34, 3) := by decide +kernel
theorem dX12_isTop_104 : decode cX12_isTop 104 = .ok (.iload 8, 2) := by decide +kernel
theorem dX12_isTop_106 : decode cX12_isTop 106 = .ok (.iload_n 3, 1) := by decide +kernel
theorem dX12_isTop_107 : decode cX12_isTop 107 = .ok (.if_icmp .eq 24, 3) := by decide +kernel
theorem dX12_isTop_110 : decode cX12_isTop 110 = .ok (.iload_n 2, 1) := by decide +kernel
theorem dX12_isTop_111 : decode cX12_isTop 111 = .ok (.iload 8, 2) := by decide +kernel
theorem dX12_isTop_113 : decode cX12_isTop 113 = .ok (.invokestatic 70, 3) := by decide +kernel
theorem dX12_isTop_116 : decode cX12_isTop 116 = .ok (.ifCond .eq 15, 3) := by decide +kernel
theorem dX12_isTop_119 : decode cX12_isTop 119 = .ok (.iload 9, 2) := by decide +kernel
theorem dX12_isTop_121 : decode cX12_isTop 121 = .ok (.iload 6, 2) := by decide +kernel
theorem dX12_isTop_123 : decode cX12_isTop 123 = .ok (.if_icmp .ne 8, 3) := by decide +kernel
theorem dX12_isTop_126 : decode cX12_isTop 126 = .ok (.iload 10, 2) := by decide +kernel
theorem dX12_isTop_128 : decode cX12_isTop 128 = .ok (.ifCond .ne 7, 3) := by decide +kernel
theorem dX12_isTop_131 : decode cX12_isTop 131 = .ok (.iconst 1, 1) := by decide +kernel
theorem dX12_isTop_132 : decode cX12_isTop 132 = .ok (.goto 4, 3) := by decide +kernel
theorem dX12_isTop_135 : decode cX12_isTop 135 = .ok (.iconst 0, 1) := by decide +kernel
theorem dX12_isTop_136 : decode cX12_isTop 136 = .ok (.istore 7, 2) := by decide +kernel
theorem dX12_isTop_138 : decode cX12_isTop 138 = .ok (.iinc 8 1, 3) := by decide +kernel
theorem dX12_isTop_141 : decode cX12_isTop 141 = .ok (.goto (-107), 3) := by decide +kernel
theorem dX12_isTop_144 : decode cX12_isTop 144 = .ok (.iload 7, 2) := by decide +kernel
theorem dX12_isTop_146 : decode cX12_isTop 146 = .ok (.ireturn, 1) := by decide +kernel
theorem dX12_isFree_0 : decode cX12_isFree 0 = .ok (.aload_n 0, 1) := by decide +kernel
theorem dX12_isFree_1 : decode cX12_isFree 1 = .ok (.iconst 0, 1) := by decide +kernel
theorem dX12_isFree_2 : decode cX12_isFree 2 = .ok (.aload_n 0, 1) := by decide +kernel
theorem dX12_isFree_3 : decode cX12_isFree 3 = .ok (.getfield 7, 3) := by decide +kernel
theorem dX12_isFree_6 : decode cX12_isFree 6 = .ok (.iconst 5, 1) := by decide +kernel
theorem dX12_isFree_7 : decode cX12_isFree 7 = .ok (.iaload, 1) := by decide +kernel
theorem dX12_isFree_8 : decode cX12_isFree 8 = .ok (.iload_n 1, 1) := by decide +kernel
theorem dX12_isFree_9 : decode cX12_isFree 9 = .ok (.iconst (-1), 1) := by decide +kernel
theorem dX12_isFree_10 : decode cX12_isFree 10 = .ok (.iconst 0, 1) := by decide +kernel
theorem dX12_isFree_11 : decode cX12_isFree 11 = .ok (.invokevirtual 74, 3) := by decide +kernel
theorem dX12_isFree_14 : decode cX12_isFree 14 = .ok (.ireturn, 1) := by decide +kernel
theorem dX12_type_0 : decode cX12_type 0 = .ok (.iload_n 1, 1) := by decide +kernel
theorem dX12_type_1 : decode cX12_type 1 = .ok (.i2l, 1) := by decide +kernel
theorem dX12_type_2 : decode cX12_type 2 = .ok (.lconst 0, 1) := by decide +kernel
theorem dX12_type_3 : decode cX12_type 3 = .ok (.ldc2_w 78, 3) := by decide +kernel
theorem dX12_type_6 : decode cX12_type 6 = .ok (.invokestatic 34, 3) := by decide +kernel
theorem dX12_type_9 : decode cX12_type 9 = .ok (.ifCond .ne 8, 3) := by decide +kernel
theorem dX12_type_12 : decode cX12_type 12 = .ok (.aload_n 0, 1) := by decide +kernel
theorem dX12_type_13 : decode cX12_type 13 = .ok (.invokevirtual 44, 3) := by decide +kernel
theorem dX12_type_16 : decode cX12_type 16 = .ok (.ireturn, 1) := by decide +kernel
theorem dX12_type_17 : decode cX12_type 17 = .ok (.aload_n 0, 1) := by decide +kernel
theorem dX12_type_18 : decode cX12_type 18 = .ok (.getfield 80, 3) := by decide +kernel
theorem dX12_type_21 : decode cX12_type 21 = .ok (.sipush 150, 3) := by decide +kernel
theorem dX12_type_24 : decode cX12_type 24 = .ok (.if_icmp .ne 8, 3) := by decide +kernel
theorem dX12_type_27 : decode cX12_type 27 = .ok (.aload_n 0, 1) := by decide +kernel
theorem dX12_type_28 : decode cX12_type 28 = .ok (.invokevirtual 60, 3) := by decide +kernel
theorem dX12_type_31 : decode cX12_type 31 = .ok (.ireturn, 1) := by decide +kernel
theorem dX12_type_32 : decode cX12_type 32 = .ok (.aload_n 0, 1) := by decide +kernel
theorem dX12_type_33 : decode cX12_type 33 = .ok (.getfield 17, 3) := by decide +kernel
theorem dX12_type_36 : decode cX12_type 36 = .ok (.aload_n 0, 1) := by decide +kernel
theorem dX12_type_37 : decode cX12_type 37 = .ok (.getfield 80, 3) := by decide +kernel
theorem dX12_type_40 : decode cX12_type 40 = .ok (.iload_n 1, 1) := by decide +kernel
theorem dX12_type_41 : decode cX12_type 41 = .ok (.iastore, 1) := by decide +kernel
theorem dX12_type_42 : decode cX12_type 42 = .ok (.aload_n 0, 1) := by decide +kernel
theorem dX12_type_43 : decode cX12_type 43 = .ok (.dup, 1) := by decide +kernel
theorem dX12_type_44 : decode cX12_type 44 = .ok (.getfield 80, 3) := by decide +kernel
theorem dX12_type_47 : decode cX12_type 47 = .ok (.iconst 1, 1) := by decide +kernel
theorem dX12_type_48 : decode cX12_type 48 = .ok (.iadd, 1) := by decide +kernel
theorem dX12_type_49 : decode cX12_type 49 = .ok (.putfield 80, 3) := by decide +kernel
theorem dX12_type_52 : decode cX12_type 52 = .ok (.aload_n 0, 1) := by decide +kernel
theorem dX12_type_53 : decode cX12_type 53 = .ok (.getfield 80, 3) := by decide +kernel
theorem dX12_type_56 : decode cX12_type 56 = .ok (.ireturn, 1) := by decide +kernel
theorem dX12_clear_0 : decode cX12_clear 0 = .ok (.aload_n 0, 1) := by decide +kernel
theorem dX12_clear_1 : decode cX12_clear 1 = .ok (.getfield 80, 3) := by decide +kernel
theorem dX12_clear_4 : decode cX12_clear 4 = .ok (.istore_n 1, 1) := by decide +kernel
theorem dX12_clear_5 : decode cX12_clear 5 = .ok (.aload_n 0, 1) := by decide +kernel
theorem dX12_clear_6 : decode cX12_clear 6 = .ok (.iconst 0, 1) := by decide +kernel
theorem dX12_clear_7 : decode cX12_clear 7 = .ok (.putfield 80, 3) := by decide +kernel
theorem dX12_clear_10 : decode cX12_clear 10 = .ok (.iload_n 1, 1) := by decide +kernel
theorem dX12_clear_11 : decode cX12_clear 11 = .ok (.ireturn, 1) := by decide +kernel
theorem dX12_byteAt_0 : decode cX12_byteAt 0 = .ok (.iload_n 1, 1) := by decide +kernel
theorem dX12_byteAt_1 : decode cX12_byteAt 1 = .ok (.aload_n 0, 1) := by decide +kernel
theorem dX12_byteAt_2 : decode cX12_byteAt 2 = .ok (.getfield 80, 3) := by decide +kernel
theorem dX12_byteAt_5 : decode cX12_byteAt 5 = .ok (.if_icmp .ge 12, 3) := by decide +kernel
theorem dX12_byteAt_8 : decode cX12_byteAt 8 = .ok (.aload_n 0, 1) := by decide +kernel
theorem dX12_byteAt_9 : decode cX12_byteAt 9 = .ok (.getfield 17, 3) := by decide +kernel
theorem dX12_byteAt_12 : decode cX12_byteAt 12 = .ok (.iload_n 1, 1) := by decide +kernel
theorem dX12_byteAt_13 : decode cX12_byteAt 13 = .ok (.iaload, 1) := by decide +kernel
theorem dX12_byteAt_14 : decode cX12_byteAt 14 = .ok (.goto 4, 3) := by decide +kernel
theorem dX12_byteAt_17 : decode cX12_byteAt 17 = .ok (.iconst (-1), 1) := by decide +kernel
theorem dX12_byteAt_18 : decode cX12_byteAt 18 = .ok (.ireturn, 1) := by decide +kernel
theorem dX12_token_0 : decode cX12_token 0 = .ok (.aload_n 0, 1) := by decide +kernel
theorem dX12_token_1 : decode cX12_token 1 = .ok (.aload_n 0, 1) := by decide +kernel
theorem dX12_token_2 : decode cX12_token 2 = .ok (.getfield 84, 3) := by decide +kernel
theorem dX12_token_5 : decode cX12_token 5 = .ok (.invokevirtual 87, 3) := by decide +kernel
theorem dX12_token_8 : decode cX12_token 8 = .ok (.bipush 32, 2) := by decide +kernel
theorem dX12_token_10 : decode cX12_token 10 = .ok (.if_icmp .ne 16, 3) := by decide +kernel
theorem dX12_token_13 : decode cX12_token 13 = .ok (.aload_n 0, 1) := by decide +kernel
theorem dX12_token_14 : decode cX12_token 14 = .ok (.dup, 1) := by decide +kernel
theorem dX12_token_15 : decode cX12_token 15 = .ok (.getfield 84, 3) := by decide +kernel
theorem dX12_token_18 : decode cX12_token 18 = .ok (.iconst 1, 1) := by decide +kernel
theorem dX12_token_19 : decode cX12_token 19 = .ok (.iadd, 1) := by decide +kernel
theorem dX12_token_20 : decode cX12_token 20 = .ok (.putfield 84, 3) := by decide +kernel
theorem dX12_token_23 : decode cX12_token 23 = .ok (.goto (-23), 3) := by decide +kernel
theorem dX12_token_26 : decode cX12_token 26 = .ok (.aload_n 0, 1) := by decide +kernel
theorem dX12_token_27 : decode cX12_token 27 = .ok (.aload_n 0, 1) := by decide +kernel
theorem dX12_token_28 : decode cX12_token 28 = .ok (.getfield 84, 3) := by decide +kernel
theorem dX12_token_31 : decode cX12_token 31 = .ok (.putfield 91, 3) := by decide +kernel
theorem dX12_token_34 : decode cX12_token 34 = .ok (.aload_n 0, 1) := by decide +kernel
theorem dX12_token_35 : decode cX12_token 35 = .ok (.aload_n 0, 1) := by decide +kernel
theorem dX12_token_36 : decode cX12_token 36 = .ok (.aload_n 0, 1) := by decide +kernel
theorem dX12_token_37 : decode cX12_token 37 = .ok (.getfield 84, 3) := by decide +kernel
theorem dX12_token_40 : decode cX12_token 40 = .ok (.invokevirtual 87, 3) := by decide +kernel
theorem dX12_token_43 : decode cX12_token 43 = .ok (.i2l, 1) := by decide +kernel
theorem dX12_token_44 : decode cX12_token 44 = .ok (.ldc2_w 94, 3) := by decide +kernel
theorem dX12_token_47 : decode cX12_token 47 = .ok (.ldc2_w 96, 3) := by decide +kernel
theorem dX12_token_50 : decode cX12_token 50 = .ok (.invokestatic 34, 3) := by decide +kernel
theorem dX12_token_53 : decode cX12_token 53 = .ok (.putfield 98, 3) := by decide +kernel
theorem dX12_token_56 : decode cX12_token 56 = .ok (.aload_n 0, 1) := by decide +kernel
theorem dX12_token_57 : decode cX12_token 57 = .ok (.aload_n 0, 1) := by decide +kernel
theorem dX12_token_58 : decode cX12_token 58 = .ok (.aload_n 0, 1) := by decide +kernel
theorem dX12_token_59 : decode cX12_token 59 = .ok (.getfield 84, 3) := by decide +kernel
theorem dX12_token_62 : decode cX12_token 62 = .ok (.invokevirtual 87, 3) := by decide +kernel
theorem dX12_token_65 : decode cX12_token 65 = .ok (.i2l, 1) := by decide +kernel
theorem dX12_token_66 : decode cX12_token 66 = .ok (.ldc2_w 102, 3) := by decide +kernel
theorem dX12_token_69 : decode cX12_token 69 = .ok (.ldc2_w 104, 3) := by decide +kernel
theorem dX12_token_72 : decode cX12_token 72 = .ok (.invokestatic 34, 3) := by decide +kernel
theorem dX12_token_75 : decode cX12_token 75 = .ok (.putfield 106, 3) := by decide +kernel
theorem dX12_token_78 : decode cX12_token 78 = .ok (.aload_n 0, 1) := by decide +kernel
theorem dX12_token_79 : decode cX12_token 79 = .ok (.dup, 1) := by decide +kernel
theorem dX12_token_80 : decode cX12_token 80 = .ok (.getfield 84, 3) := by decide +kernel
theorem dX12_token_83 : decode cX12_token 83 = .ok (.aload_n 0, 1) := by decide +kernel
theorem dX12_token_84 : decode cX12_token 84 = .ok (.getfield 84, 3) := by decide +kernel
theorem dX12_token_87 : decode cX12_token 87 = .ok (.aload_n 0, 1) := by decide +kernel
theorem dX12_token_88 : decode cX12_token 88 = .ok (.getfield 80, 3) := by decide +kernel
theorem dX12_token_91 : decode cX12_token 91 = .ok (.if_icmp .ge 7, 3) := by decide +kernel
theorem dX12_token_94 : decode cX12_token 94 = .ok (.iconst 1, 1) := by decide +kernel
theorem dX12_token_95 : decode cX12_token 95 = .ok (.goto 4, 3) := by decide +kernel
theorem dX12_token_98 : decode cX12_token 98 = .ok (.iconst 0, 1) := by decide +kernel
theorem dX12_token_99 : decode cX12_token 99 = .ok (.iadd, 1) := by decide +kernel
theorem dX12_token_100 : decode cX12_token 100 = .ok (.putfield 84, 3) := by decide +kernel
theorem dX12_token_103 : decode cX12_token 103 = .ok (.aload_n 0, 1) := by decide +kernel
theorem dX12_token_104 : decode cX12_token 104 = .ok (.getfield 98, 3) := by decide +kernel
theorem dX12_token_107 : decode cX12_token 107 = .ok (.ifCond .eq 24, 3) := by decide +kernel
theorem dX12_token_110 : decode cX12_token 110 = .ok (.aload_n 0, 1) := by decide +kernel
theorem dX12_token_111 : decode cX12_token 111 = .ok (.aload_n 0, 1) := by decide +kernel
theorem dX12_token_112 : decode cX12_token 112 = .ok (.getfield 84, 3) := by decide +kernel
theorem dX12_token_115 : decode cX12_token 115 = .ok (.invokevirtual 87, 3) := by decide +kernel
theorem dX12_token_118 : decode cX12_token 118 = .ok (.i2l, 1) := by decide +kernel
theorem dX12_token_119 : decode cX12_token 119 = .ok (.ldc2_w 94, 3) := by decide +kernel
theorem dX12_token_122 : decode cX12_token 122 = .ok (.ldc2_w 96, 3) := by decide +kernel
theorem dX12_token_125 : decode cX12_token 125 = .ok (.invokestatic 34, 3) := by decide +kernel
theorem dX12_token_128 : decode cX12_token 128 = .ok (.ifCond .ne 31, 3) := by decide +kernel
theorem dX12_token_131 : decode cX12_token 131 = .ok (.aload_n 0, 1) := by decide +kernel
theorem dX12_token_132 : decode cX12_token 132 = .ok (.getfield 106, 3) := by decide +kernel
theorem dX12_token_135 : decode cX12_token 135 = .ok (.ifCond .eq 37, 3) := by decide +kernel
theorem dX12_token_138 : decode cX12_token 138 = .ok (.aload_n 0, 1) := by decide +kernel
theorem dX12_token_139 : decode cX12_token 139 = .ok (.aload_n 0, 1) := by decide +kernel
theorem dX12_token_140 : decode cX12_token 140 = .ok (.getfield 84, 3) := by decide +kernel
theorem dX12_token_143 : decode cX12_token 143 = .ok (.invokevirtual 87, 3) := by decide +kernel
theorem dX12_token_146 : decode cX12_token 146 = .ok (.i2l, 1) := by decide +kernel
theorem dX12_token_147 : decode cX12_token 147 = .ok (.ldc2_w 102, 3) := by decide +kernel
theorem dX12_token_150 : decode cX12_token 150 = .ok (.ldc2_w 104, 3) := by decide +kernel
theorem dX12_token_153 : decode cX12_token 153 = .ok (.invokestatic 34, 3) := by decide +kernel
theorem dX12_token_156 : decode cX12_token 156 = .ok (.ifCond .eq 16, 3) := by decide +kernel
theorem dX12_token_159 : decode cX12_token 159 = .ok (.aload_n 0, 1) := by decide +kernel
theorem dX12_token_160 : decode cX12_token 160 = .ok (.dup, 1) := by decide +kernel
theorem dX12_token_161 : decode cX12_token 161 = .ok (.getfield 84, 3) := by decide +kernel
theorem dX12_token_164 : decode cX12_token 164 = .ok (.iconst 1, 1) := by decide +kernel
theorem dX12_token_165 : decode cX12_token 165 = .ok (.iadd, 1) := by decide +kernel
theorem dX12_token_166 : decode cX12_token 166 = .ok (.putfield 84, 3) := by decide +kernel
theorem dX12_token_169 : decode cX12_token 169 = .ok (.goto (-66), 3) := by decide +kernel
theorem dX12_token_172 : decode cX12_token 172 = .ok (.return_, 1) := by decide +kernel
theorem dX12_isNamed_0 : decode cX12_isNamed 0 = .ok (.aload_n 0, 1) := by decide +kernel
theorem dX12_isNamed_1 : decode cX12_isNamed 1 = .ok (.getfield 98, 3) := by decide +kernel
theorem dX12_isNamed_4 : decode cX12_isNamed 4 = .ok (.ifCond .eq 29, 3) := by decide +kernel
theorem dX12_isNamed_7 : decode cX12_isNamed 7 = .ok (.aload_n 0, 1) := by decide +kernel
theorem dX12_isNamed_8 : decode cX12_isNamed 8 = .ok (.getfield 84, 3) := by decide +kernel
theorem dX12_isNamed_11 : decode cX12_isNamed 11 = .ok (.aload_n 0, 1) := by decide +kernel
theorem dX12_isNamed_12 : decode cX12_isNamed 12 = .ok (.getfield 91, 3) := by decide +kernel
theorem dX12_isNamed_15 : decode cX12_isNamed 15 = .ok (.isub, 1) := by decide +kernel
theorem dX12_isNamed_16 : decode cX12_isNamed 16 = .ok (.iload 5, 2) := by decide +kernel
theorem dX12_isNamed_18 : decode cX12_isNamed 18 = .ok (.ifCond .ne 7, 3) := by decide +kernel
theorem dX12_isNamed_21 : decode cX12_isNamed 21 = .ok (.iconst 4, 1) := by decide +kernel
theorem dX12_isNamed_22 : decode cX12_isNamed 22 = .ok (.goto 4, 3) := by decide +kernel
theorem dX12_isNamed_25 : decode cX12_isNamed 25 = .ok (.iconst 5, 1) := by decide +kernel
theorem dX12_isNamed_26 : decode cX12_isNamed 26 = .ok (.if_icmp .ne 7, 3) := by decide +kernel
theorem dX12_isNamed_29 : decode cX12_isNamed 29 = .ok (.iconst 1, 1) := by decide +kernel
theorem dX12_isNamed_30 : decode cX12_isNamed 30 = .ok (.goto 4, 3) := by decide +kernel
theorem dX12_isNamed_33 : decode cX12_isNamed 33 = .ok (.iconst 0, 1) := by decide +kernel
theorem dX12_isNamed_34 : decode cX12_isNamed 34 = .ok (.istore 6, 2) := by decide +kernel
theorem dX12_isNamed_36 : decode cX12_isNamed 36 = .ok (.iload 6, 2) := by decide +kernel
theorem dX12_isNamed_38 : decode cX12_isNamed 38 = .ok (.ifCond .eq 82, 3) := by decide +kernel
theorem dX12_isNamed_41 : decode cX12_isNamed 41 = .ok (.aload_n 0, 1) := by decide +kernel
theorem dX12_isNamed_42 : decode cX12_isNamed 42 = .ok (.aload_n 0, 1) := by decide +kernel
theorem dX12_isNamed_43 : decode cX12_isNamed 43 = .ok (.getfield 91, 3) := by decide +kernel
theorem dX12_isNamed_46 : decode cX12_isNamed 46 = .ok (.invokevirtual 87, 3) := by decide +kernel
theorem dX12_isNamed_49 : decode cX12_isNamed 49 = .ok (.iload_n 1, 1) := by decide +kernel
theorem dX12_isNamed_50 : decode cX12_isNamed 50 = .ok (.if_icmp .ne 70, 3) := by decide +kernel
theorem dX12_isNamed_53 : decode cX12_isNamed 53 = .ok (.aload_n 0, 1) := by decide +kernel
theorem dX12_isNamed_54 : decode cX12_isNamed 54 = .ok (.aload_n 0, 1) := by decide +kernel
theorem dX12_isNamed_55 : decode cX12_isNamed 55 = .ok (.getfield 91, 3) := by decide +kernel
theorem dX12_isNamed_58 : decode cX12_isNamed 58 = .ok (.iconst 1, 1) := by decide +kernel
theorem dX12_isNamed_59 : decode cX12_isNamed 59 = .ok (.iadd, 1) := by decide +kernel
theorem dX12_isNamed_60 : decode cX12_isNamed 60 = .ok (.invokevirtual 87, 3) := by decide +kernel
theorem dX12_isNamed_63 : decode cX12_isNamed 63 = .ok (.iload_n 2, 1) := by decide +kernel
theorem dX12_isNamed_64 : decode cX12_isNamed 64 = .ok (.if_icmp .ne 56, 3) := by decide +kernel
theorem dX12_isNamed_67 : decode cX12_isNamed 67 = .ok (.aload_n 0, 1) := by decide +kernel
theorem dX12_isNamed_68 : decode cX12_isNamed 68 = .ok (.aload_n 0, 1) := by decide +kernel
theorem dX12_isNamed_69 : decode cX12_isNamed 69 = .ok (.getfield 91, 3) := by decide +kernel
theorem dX12_isNamed_72 : decode cX12_isNamed 72 = .ok (.iconst 2, 1) := by decide +kernel
theorem dX12_isNamed_73 : decode cX12_isNamed 73 = .ok (.iadd, 1) := by decide +kernel
theorem dX12_isNamed_74 : decode cX12_isNamed 74 = .ok (.invokevirtual 87, 3) := by decide +kernel
theorem dX12_isNamed_77 : decode cX12_isNamed 77 = .ok (.iload_n 3, 1) := by decide +kernel
theorem dX12_isNamed_78 : decode cX12_isNamed 78 = .ok (.if_icmp .ne 42, 3) := by decide +kernel
theorem dX12_isNamed_81 : decode cX12_isNamed 81 = .ok (.aload_n 0, 1) := by decide +kernel
theorem dX12_isNamed_82 : decode cX12_isNamed 82 = .ok (.aload_n 0, 1) := by decide +kernel
theorem dX12_isNamed_83 : decode cX12_isNamed 83 = .ok (.getfield 91, 3) := by decide +kernel
theorem dX12_isNamed_86 : decode cX12_isNamed 86 = .ok (.iconst 3, 1) := by decide +kernel
theorem dX12_isNamed_87 : decode cX12_isNamed 87 = .ok (.iadd, 1) := by decide +kernel
theorem dX12_isNamed_88 : decode cX12_isNamed 88 = .ok (.invokevirtual 87, 3) := by decide +kernel
theorem dX12_isNamed_91 : decode cX12_isNamed 91 = .ok (.iload 4, 2) := by decide +kernel
theorem dX12_isNamed_93 : decode cX12_isNamed 93 = .ok (.if_icmp .ne 27, 3) := by decide +kernel
theorem dX12_isNamed_96 : decode cX12_isNamed 96 = .ok (.iload 5, 2) := by decide +kernel
theorem dX12_isNamed_98 : decode cX12_isNamed 98 = .ok (.ifCond .eq 18, 3) := by decide +kernel
theorem dX12_isNamed_101 : decode cX12_isNamed 101 = .ok (.aload_n 0, 1) := by decide +kernel
theorem dX12_isNamed_102 : decode cX12_isNamed 102 = .ok (.aload_n 0, 1) := by decide +kernel
theorem dX12_isNamed_103 : decode cX12_isNamed 103 = .ok (.getfield 91, 3) := by decide +kernel
theorem dX12_isNamed_106 : decode cX12_isNamed 106 = .ok (.iconst 4, 1) := by decide +kernel
theorem dX12_isNamed_107 : decode cX12_isNamed 107 = .ok (.iadd, 1) := by decide +kernel
theorem dX12_isNamed_108 : decode cX12_isNamed 108 = .ok (.invokevirtual 87, 3) := by decide +kernel
theorem dX12_isNamed_111 : decode cX12_isNamed 111 = .ok (.iload 5, 2) := by decide +kernel
theorem dX12_isNamed_113 : decode cX12_isNamed 113 = .ok (.if_icmp .ne 7, 3) := by decide +kernel
theorem dX12_isNamed_116 : decode cX12_isNamed 116 = .ok (.iconst 1, 1) := by decide +kernel
theorem dX12_isNamed_117 : decode cX12_isNamed 117 = .ok (.goto 4, 3) := by decide +kernel
theorem dX12_isNamed_120 : decode cX12_isNamed 120 = .ok (.iconst 0, 1) := by decide +kernel
theorem dX12_isNamed_121 : decode cX12_isNamed 121 = .ok (.ireturn, 1) := by decide +kernel
theorem dX12_wordNow_0 : decode cX12_wordNow 0 = .ok (.aload_n 0, 1) := by decide +kernel
theorem dX12_wordNow_1 : decode cX12_wordNow 1 = .ok (.bipush 115, 2) := by decide +kernel
theorem dX12_wordNow_3 : decode cX12_wordNow 3 = .ok (.bipush 104, 2) := by decide +kernel
theorem dX12_wordNow_5 : decode cX12_wordNow 5 = .ok (.bipush 105, 2) := by decide +kernel
theorem dX12_wordNow_7 : decode cX12_wordNow 7 = .ok (.bipush 112, 2) := by decide +kernel
theorem dX12_wordNow_9 : decode cX12_wordNow 9 = .ok (.iconst 0, 1) := by decide +kernel
theorem dX12_wordNow_10 : decode cX12_wordNow 10 = .ok (.invokevirtual 109, 3) := by decide +kernel
theorem dX12_wordNow_13 : decode cX12_wordNow 13 = .ok (.ifCond .eq 5, 3) := by decide +kernel
theorem dX12_wordNow_16 : decode cX12_wordNow 16 = .ok (.iconst 0, 1) := by decide +kernel
theorem dX12_wordNow_17 : decode cX12_wordNow 17 = .ok (.ireturn, 1) := by decide +kernel
theorem dX12_wordNow_18 : decode cX12_wordNow 18 = .ok (.aload_n 0, 1) := by decide +kernel
theorem dX12_wordNow_19 : decode cX12_wordNow 19 = .ok (.bipush 103, 2) := by decide +kernel
theorem dX12_wordNow_21 : decode cX12_wordNow 21 = .ok (.bipush 111, 2) := by decide +kernel
theorem dX12_wordNow_23 : decode cX12_wordNow 23 = .ok (.bipush 111, 2) := by decide +kernel
theorem dX12_wordNow_25 : decode cX12_wordNow 25 = .ok (.bipush 100, 2) := by decide +kernel
theorem dX12_wordNow_27 : decode cX12_wordNow 27 = .ok (.bipush 115, 2) := by decide +kernel
theorem dX12_wordNow_29 : decode cX12_wordNow 29 = .ok (.invokevirtual 109, 3) := by decide +kernel
theorem dX12_wordNow_32 : decode cX12_wordNow 32 = .ok (.ifCond .eq 7, 3) := by decide +kernel
theorem dX12_wordNow_35 : decode cX12_wordNow 35 = .ok (.iconst 1, 1) := by decide +kernel
theorem dX12_wordNow_36 : decode cX12_wordNow 36 = .ok (.goto 24, 3) := by decide +kernel
theorem dX12_wordNow_39 : decode cX12_wordNow 39 = .ok (.aload_n 0, 1) := by decide +kernel
theorem dX12_wordNow_40 : decode cX12_wordNow 40 = .ok (.bipush 111, 2) := by decide +kernel
theorem dX12_wordNow_42 : decode cX12_wordNow 42 = .ok (.bipush 118, 2) := by decide +kernel
theorem dX12_wordNow_44 : decode cX12_wordNow 44 = .ok (.bipush 101, 2) := by decide +kernel
theorem dX12_wordNow_46 : decode cX12_wordNow 46 = .ok (.bipush 114, 2) := by decide +kernel
theorem dX12_wordNow_48 : decode cX12_wordNow 48 = .ok (.iconst 0, 1) := by decide +kernel
theorem dX12_wordNow_49 : decode cX12_wordNow 49 = .ok (.invokevirtual 109, 3) := by decide +kernel
theorem dX12_wordNow_52 : decode cX12_wordNow 52 = .ok (.ifCond .eq 7, 3) := by decide +kernel
theorem dX12_wordNow_55 : decode cX12_wordNow 55 = .ok (.iconst 2, 1) := by decide +kernel
theorem dX12_wordNow_56 : decode cX12_wordNow 56 = .ok (.goto 4, 3) := by decide +kernel
theorem dX12_wordNow_59 : decode cX12_wordNow 59 = .ok (.iconst (-1), 1) := by decide +kernel
theorem dX12_wordNow_60 : decode cX12_wordNow 60 = .ok (.ireturn, 1) := by decide +kernel
theorem dX12_takes_0 : decode cX12_takes 0 = .ok (.aload_n 0, 1) := by decide +kernel
theorem dX12_takes_1 : decode cX12_takes 1 = .ok (.invokevirtual 112, 3) := by decide +kernel
theorem dX12_takes_4 : decode cX12_takes 4 = .ok (.aload_n 0, 1) := by decide +kernel
theorem dX12_takes_5 : decode cX12_takes 5 = .ok (.getfield 106, 3) := by decide +kernel
theorem dX12_takes_8 : decode cX12_takes 8 = .ok (.ifCond .eq 16, 3) := by decide +kernel
theorem dX12_takes_11 : decode cX12_takes 11 = .ok (.aload_n 0, 1) := by decide +kernel
theorem dX12_takes_12 : decode cX12_takes 12 = .ok (.getfield 84, 3) := by decide +kernel
theorem dX12_takes_15 : decode cX12_takes 15 = .ok (.aload_n 0, 1) := by decide +kernel
theorem dX12_takes_16 : decode cX12_takes 16 = .ok (.getfield 91, 3) := by decide +kernel
theorem dX12_takes_19 : decode cX12_takes 19 = .ok (.isub, 1) := by decide +kernel
theorem dX12_takes_20 : decode cX12_takes 20 = .ok (.iconst 3, 1) := by decide +kernel
theorem dX12_takes_21 : decode cX12_takes 21 = .ok (.if_icmp .le 5, 3) := by decide +kernel
theorem dX12_takes_24 : decode cX12_takes 24 = .ok (.iconst 0, 1) := by decide +kernel
theorem dX12_takes_25 : decode cX12_takes 25 = .ok (.ireturn, 1) := by decide +kernel
theorem dX12_takes_26 : decode cX12_takes 26 = .ok (.iconst 0, 1) := by decide +kernel
theorem dX12_takes_27 : decode cX12_takes 27 = .ok (.istore 4, 2) := by decide +kernel
theorem dX12_takes_29 : decode cX12_takes 29 = .ok (.aload_n 0, 1) := by decide +kernel
theorem dX12_takes_30 : decode cX12_takes 30 = .ok (.getfield 91, 3) := by decide +kernel
theorem dX12_takes_33 : decode cX12_takes 33 = .ok (.istore 5, 2) := by decide +kernel
theorem dX12_takes_35 : decode cX12_takes 35 = .ok (.iload 5, 2) := by decide +kernel
theorem dX12_takes_37 : decode cX12_takes 37 = .ok (.aload_n 0, 1) := by decide +kernel
theorem dX12_takes_38 : decode cX12_takes 38 = .ok (.getfield 84, 3) := by decide +kernel
theorem dX12_takes_41 : decode cX12_takes 41 = .ok (.if_icmp .ge 26, 3) := by decide +kernel
theorem dX12_takes_44 : decode cX12_takes 44 = .ok (.bipush 10, 2) := by decide +kernel
theorem dX12_takes_46 : decode cX12_takes 46 = .ok (.iload 4, 2) := by decide +kernel
theorem dX12_takes_48 : decode cX12_takes 48 = .ok (.imul, 1) := by decide +kernel
theorem dX12_takes_49 : decode cX12_takes 49 = .ok (.aload_n 0, 1) := by decide +kernel
theorem dX12_takes_50 : decode cX12_takes 50 = .ok (.iload 5, 2) := by decide +kernel
theorem dX12_takes_52 : decode cX12_takes 52 = .ok (.invokevirtual 87, 3) := by decide +kernel
theorem dX12_takes_55 : decode cX12_takes 55 = .ok (.iadd, 1) := by decide +kernel
theorem dX12_takes_56 : decode cX12_takes 56 = .ok (.bipush 48, 2) := by decide +kernel
theorem dX12_takes_58 : decode cX12_takes 58 = .ok (.isub, 1) := by decide +kernel
theorem dX12_takes_59 : decode cX12_takes 59 = .ok (.istore 4, 2) := by decide +kernel
theorem dX12_takes_61 : decode cX12_takes 61 = .ok (.iinc 5 1, 3) := by decide +kernel
theorem dX12_takes_64 : decode cX12_takes 64 = .ok (.goto (-29), 3) := by decide +kernel
theorem dX12_takes_67 : decode cX12_takes 67 = .ok (.aload_n 0, 1) := by decide +kernel
theorem dX12_takes_68 : decode cX12_takes 68 = .ok (.getfield 27, 3) := by decide +kernel
theorem dX12_takes_71 : decode cX12_takes 71 = .ok (.iload_n 1, 1) := by decide +kernel
theorem dX12_takes_72 : decode cX12_takes 72 = .ok (.iload 4, 2) := by decide +kernel
theorem dX12_takes_74 : decode cX12_takes 74 = .ok (.iastore, 1) := by decide +kernel
theorem dX12_takes_75 : decode cX12_takes 75 = .ok (.iload 4, 2) := by decide +kernel
theorem dX12_takes_77 : decode cX12_takes 77 = .ok (.i2l, 1) := by decide +kernel
theorem dX12_takes_78 : decode cX12_takes 78 = .ok (.iload_n 2, 1) := by decide +kernel
theorem dX12_takes_79 : decode cX12_takes 79 = .ok (.i2l, 1) := by decide +kernel
theorem dX12_takes_80 : decode cX12_takes 80 = .ok (.iload_n 3, 1) := by decide +kernel
theorem dX12_takes_81 : decode cX12_takes 81 = .ok (.i2l, 1) := by decide +kernel
theorem dX12_takes_82 : decode cX12_takes 82 = .ok (.invokestatic 34, 3) := by decide +kernel
theorem dX12_takes_85 : decode cX12_takes 85 = .ok (.ireturn, 1) := by decide +kernel
theorem dX12_takesShip_0 : decode cX12_takesShip 0 = .ok (.aload_n 0, 1) := by decide +kernel
theorem dX12_takesShip_1 : decode cX12_takesShip 1 = .ok (.iconst 0, 1) := by decide +kernel
theorem dX12_takesShip_2 : decode cX12_takesShip 2 = .ok (.iconst 0, 1) := by decide +kernel
theorem dX12_takesShip_3 : decode cX12_takesShip 3 = .ok (.bipush 99, 2) := by decide +kernel
theorem dX12_takesShip_5 : decode cX12_takesShip 5 = .ok (.invokevirtual 115, 3) := by decide +kernel
theorem dX12_takesShip_8 : decode cX12_takesShip 8 = .ok (.ifCond .eq 15, 3) := by decide +kernel
theorem dX12_takesShip_11 : decode cX12_takesShip 11 = .ok (.aload_n 0, 1) := by decide +kernel
theorem dX12_takesShip_12 : decode cX12_takesShip 12 = .ok (.iconst 1, 1) := by decide +kernel
theorem dX12_takesShip_13 : decode cX12_takesShip 13 = .ok (.iconst 0, 1) := by decide +kernel
theorem dX12_takesShip_14 : decode cX12_takesShip 14 = .ok (.sipush 200, 3) := by decide +kernel
theorem dX12_takesShip_17 : decode cX12_takesShip 17 = .ok (.invokevirtual 115, 3) := by decide +kernel
theorem dX12_takesShip_20 : decode cX12_takesShip 20 = .ok (.ifCond .ne 5, 3) := by decide +kernel
theorem dX12_takesShip_23 : decode cX12_takesShip 23 = .ok (.iconst 0, 1) := by decide +kernel
theorem dX12_takesShip_24 : decode cX12_takesShip 24 = .ok (.ireturn, 1) := by decide +kernel
theorem dX12_takesShip_25 : decode cX12_takesShip 25 = .ok (.aload_n 0, 1) := by decide +kernel
theorem dX12_takesShip_26 : decode cX12_takesShip 26 = .ok (.getfield 7, 3) := by decide +kernel
theorem dX12_takesShip_29 : decode cX12_takesShip 29 = .ok (.sipush 241, 3) := by decide +kernel
theorem dX12_takesShip_32 : decode cX12_takesShip 32 = .ok (.aload_n 0, 1) := by decide +kernel
theorem dX12_takesShip_33 : decode cX12_takesShip 33 = .ok (.getfield 27, 3) := by decide +kernel
theorem dX12_takesShip_36 : decode cX12_takesShip 36 = .ok (.iconst 0, 1) := by decide +kernel
theorem dX12_takesShip_37 : decode cX12_takesShip 37 = .ok (.iaload, 1) := by decide +kernel
theorem dX12_takesShip_38 : decode cX12_takesShip 38 = .ok (.iastore, 1) := by decide +kernel
theorem dX12_takesShip_39 : decode cX12_takesShip 39 = .ok (.aload_n 0, 1) := by decide +kernel
theorem dX12_takesShip_40 : decode cX12_takesShip 40 = .ok (.getfield 7, 3) := by decide +kernel
theorem dX12_takesShip_43 : decode cX12_takesShip 43 = .ok (.sipush 242, 3) := by decide +kernel
theorem dX12_takesShip_46 : decode cX12_takesShip 46 = .ok (.aload_n 0, 1) := by decide +kernel
theorem dX12_takesShip_47 : decode cX12_takesShip 47 = .ok (.getfield 27, 3) := by decide +kernel
theorem dX12_takesShip_50 : decode cX12_takesShip 50 = .ok (.iconst 1, 1) := by decide +kernel
theorem dX12_takesShip_51 : decode cX12_takesShip 51 = .ok (.iaload, 1) := by decide +kernel
theorem dX12_takesShip_52 : decode cX12_takesShip 52 = .ok (.iastore, 1) := by decide +kernel
theorem dX12_takesShip_53 : decode cX12_takesShip 53 = .ok (.iconst 1, 1) := by decide +kernel
theorem dX12_takesShip_54 : decode cX12_takesShip 54 = .ok (.ireturn, 1) := by decide +kernel
theorem dX12_takesGoods_0 : decode cX12_takesGoods 0 = .ok (.aload_n 0, 1) := by decide +kernel
theorem dX12_takesGoods_1 : decode cX12_takesGoods 1 = .ok (.getfield 7, 3) := by decide +kernel
theorem dX12_takesGoods_4 : decode cX12_takesGoods 4 = .ok (.sipush 240, 3) := by decide +kernel
theorem dX12_takesGoods_7 : decode cX12_takesGoods 7 = .ok (.iaload, 1) := by decide +kernel
theorem dX12_takesGoods_8 : decode cX12_takesGoods 8 = .ok (.bipush 8, 2) := by decide +kernel
theorem dX12_takesGoods_10 : decode cX12_takesGoods 10 = .ok (.if_icmp .eq 66, 3) := by decide +kernel
theorem dX12_takesGoods_13 : decode cX12_takesGoods 13 = .ok (.aload_n 0, 1) := by decide +kernel
theorem dX12_takesGoods_14 : decode cX12_takesGoods 14 = .ok (.iconst 0, 1) := by decide +kernel
theorem dX12_takesGoods_15 : decode cX12_takesGoods 15 = .ok (.iconst 0, 1) := by decide +kernel
theorem dX12_takesGoods_16 : decode cX12_takesGoods 16 = .ok (.iconst 5, 1) := by decide +kernel
theorem dX12_takesGoods_17 : decode cX12_takesGoods 17 = .ok (.invokevirtual 115, 3) := by decide +kernel
theorem dX12_takesGoods_20 : decode cX12_takesGoods 20 = .ok (.ifCond .eq 56, 3) := by decide +kernel
theorem dX12_takesGoods_23 : decode cX12_takesGoods 23 = .ok (.aload_n 0, 1) := by decide +kernel
theorem dX12_takesGoods_24 : decode cX12_takesGoods 24 = .ok (.iconst 1, 1) := by decide +kernel
theorem dX12_takesGoods_25 : decode cX12_takesGoods 25 = .ok (.iconst 0, 1) := by decide +kernel
theorem dX12_takesGoods_26 : decode cX12_takesGoods 26 = .ok (.iconst 3, 1) := by decide +kernel
theorem dX12_takesGoods_27 : decode cX12_takesGoods 27 = .ok (.invokevirtual 115, 3) := by decide +kernel
theorem dX12_takesGoods_30 : decode cX12_takesGoods 30 = .ok (.ifCond .eq 46, 3) := by decide +kernel
theorem dX12_takesGoods_33 : decode cX12_takesGoods 33 = .ok (.aload_n 0, 1) := by decide +kernel
theorem dX12_takesGoods_34 : decode cX12_takesGoods 34 = .ok (.iconst 2, 1) := by decide +kernel
theorem dX12_takesGoods_35 : decode cX12_takesGoods 35 = .ok (.iconst 0, 1) := by decide +kernel
theorem dX12_takesGoods_36 : decode cX12_takesGoods 36 = .ok (.iconst 2, 1) := by decide +kernel
theorem dX12_takesGoods_37 : decode cX12_takesGoods 37 = .ok (.invokevirtual 115, 3) := by decide +kernel
theorem dX12_takesGoods_40 : decode cX12_takesGoods 40 = .ok (.ifCond .eq 36, 3) := by decide +kernel
theorem dX12_takesGoods_43 : decode cX12_takesGoods 43 = .ok (.aload_n 0, 1) := by decide +kernel
theorem dX12_takesGoods_44 : decode cX12_takesGoods 44 = .ok (.iconst 3, 1) := by decide +kernel
theorem dX12_takesGoods_45 : decode cX12_takesGoods 45 = .ok (.iconst 1, 1) := by decide +kernel
theorem dX12_takesGoods_46 : decode cX12_takesGoods 46 = .ok (.bipush 40, 2) := by decide +kernel
theorem dX12_takesGoods_48 : decode cX12_takesGoods 48 = .ok (.invokevirtual 115, 3) := by decide +kernel
theorem dX12_takesGoods_51 : decode cX12_takesGoods 51 = .ok (.ifCond .eq 25, 3) := by decide +kernel
theorem dX12_takesGoods_54 : decode cX12_takesGoods 54 = .ok (.aload_n 0, 1) := by decide +kernel
theorem dX12_takesGoods_55 : decode cX12_takesGoods 55 = .ok (.iconst 4, 1) := by decide +kernel
theorem dX12_takesGoods_56 : decode cX12_takesGoods 56 = .ok (.iconst 0, 1) := by decide +kernel
theorem dX12_takesGoods_57 : decode cX12_takesGoods 57 = .ok (.bipush 60, 2) := by decide +kernel
theorem dX12_takesGoods_59 : decode cX12_takesGoods 59 = .ok (.invokevirtual 115, 3) := by decide +kernel
theorem dX12_takesGoods_62 : decode cX12_takesGoods 62 = .ok (.ifCond .eq 14, 3) := by decide +kernel
theorem dX12_takesGoods_65 : decode cX12_takesGoods 65 = .ok (.aload_n 0, 1) := by decide +kernel
theorem dX12_takesGoods_66 : decode cX12_takesGoods 66 = .ok (.iconst 5, 1) := by decide +kernel
theorem dX12_takesGoods_67 : decode cX12_takesGoods 67 = .ok (.iconst 0, 1) := by decide +kernel
theorem dX12_takesGoods_68 : decode cX12_takesGoods 68 = .ok (.bipush 60, 2) := by decide +kernel
theorem dX12_takesGoods_70 : decode cX12_takesGoods 70 = .ok (.invokevirtual 115, 3) := by decide +kernel
theorem dX12_takesGoods_73 : decode cX12_takesGoods 73 = .ok (.ifCond .ne 5, 3) := by decide +kernel
theorem dX12_takesGoods_76 : decode cX12_takesGoods 76 = .ok (.iconst 0, 1) := by decide +kernel
theorem dX12_takesGoods_77 : decode cX12_takesGoods 77 = .ok (.ireturn, 1) := by decide +kernel
theorem dX12_takesGoods_78 : decode cX12_takesGoods 78 = .ok (.aload_n 0, 1) := by decide +kernel
theorem dX12_takesGoods_79 : decode cX12_takesGoods 79 = .ok (.sipush 240, 3) := by decide +kernel
theorem dX12_takesGoods_82 : decode cX12_takesGoods 82 = .ok (.aload_n 0, 1) := by decide +kernel
theorem dX12_takesGoods_83 : decode cX12_takesGoods 83 = .ok (.getfield 27, 3) := by decide +kernel
theorem dX12_takesGoods_86 : decode cX12_takesGoods 86 = .ok (.iconst 0, 1) := by decide +kernel
theorem dX12_takesGoods_87 : decode cX12_takesGoods 87 = .ok (.iaload, 1) := by decide +kernel
theorem dX12_takesGoods_88 : decode cX12_takesGoods 88 = .ok (.aload_n 0, 1) := by decide +kernel
theorem dX12_takesGoods_89 : decode cX12_takesGoods 89 = .ok (.getfield 27, 3) := by decide +kernel
theorem dX12_takesGoods_92 : decode cX12_takesGoods 92 = .ok (.iconst 1, 1) := by decide +kernel
theorem dX12_takesGoods_93 : decode cX12_takesGoods 93 = .ok (.iaload, 1) := by decide +kernel
theorem dX12_takesGoods_94 : decode cX12_takesGoods 94 = .ok (.aload_n 0, 1) := by decide +kernel
theorem dX12_takesGoods_95 : decode cX12_takesGoods 95 = .ok (.getfield 27, 3) := by decide +kernel
theorem dX12_takesGoods_98 : decode cX12_takesGoods 98 = .ok (.iconst 2, 1) := by decide +kernel
theorem dX12_takesGoods_99 : decode cX12_takesGoods 99 = .ok (.iaload, 1) := by decide +kernel
theorem dX12_takesGoods_100 : decode cX12_takesGoods 100 = .ok (.aload_n 0, 1) := by decide +kernel
theorem dX12_takesGoods_101 : decode cX12_takesGoods 101 = .ok (.getfield 27, 3) := by decide +kernel
theorem dX12_takesGoods_104 : decode cX12_takesGoods 104 = .ok (.iconst 3, 1) := by decide +kernel
theorem dX12_takesGoods_105 : decode cX12_takesGoods 105 = .ok (.iaload, 1) := by decide +kernel
theorem dX12_takesGoods_106 : decode cX12_takesGoods 106 = .ok (.aload_n 0, 1) := by decide +kernel
theorem dX12_takesGoods_107 : decode cX12_takesGoods 107 = .ok (.getfield 27, 3) := by decide +kernel
theorem dX12_takesGoods_110 : decode cX12_takesGoods 110 = .ok (.iconst 4, 1) := by decide +kernel
theorem dX12_takesGoods_111 : decode cX12_takesGoods 111 = .ok (.iaload, 1) := by decide +kernel
theorem dX12_takesGoods_112 : decode cX12_takesGoods 112 = .ok (.aload_n 0, 1) := by decide +kernel
theorem dX12_takesGoods_113 : decode cX12_takesGoods 113 = .ok (.getfield 27, 3) := by decide +kernel
theorem dX12_takesGoods_116 : decode cX12_takesGoods 116 = .ok (.iconst 5, 1) := by decide +kernel
theorem dX12_takesGoods_117 : decode cX12_takesGoods 117 = .ok (.iaload, 1) := by decide +kernel
theorem dX12_takesGoods_118 : decode cX12_takesGoods 118 = .ok (.invokevirtual 63, 3) := by decide +kernel
theorem dX12_takesGoods_121 : decode cX12_takesGoods 121 = .ok (.ifCond .lt 7, 3) := by decide +kernel
theorem dX12_takesGoods_124 : decode cX12_takesGoods 124 = .ok (.iconst 1, 1) := by decide +kernel
theorem dX12_takesGoods_125 : decode cX12_takesGoods 125 = .ok (.goto 4, 3) := by decide +kernel
theorem dX12_takesGoods_128 : decode cX12_takesGoods 128 = .ok (.iconst 0, 1) := by decide +kernel
theorem dX12_takesGoods_129 : decode cX12_takesGoods 129 = .ok (.ireturn, 1) := by decide +kernel
theorem dX12_takesOver_0 : decode cX12_takesOver 0 = .ok (.aload_n 0, 1) := by decide +kernel
theorem dX12_takesOver_1 : decode cX12_takesOver 1 = .ok (.iconst 0, 1) := by decide +kernel
theorem dX12_takesOver_2 : decode cX12_takesOver 2 = .ok (.iconst 0, 1) := by decide +kernel
theorem dX12_takesOver_3 : decode cX12_takesOver 3 = .ok (.aload_n 0, 1) := by decide +kernel
theorem dX12_takesOver_4 : decode cX12_takesOver 4 = .ok (.getfield 7, 3) := by decide +kernel
theorem dX12_takesOver_7 : decode cX12_takesOver 7 = .ok (.sipush 240, 3) := by decide +kernel
theorem dX12_takesOver_10 : decode cX12_takesOver 10 = .ok (.iaload, 1) := by decide +kernel
theorem dX12_takesOver_11 : decode cX12_takesOver 11 = .ok (.iconst 1, 1) := by decide +kernel
theorem dX12_takesOver_12 : decode cX12_takesOver 12 = .ok (.isub, 1) := by decide +kernel
theorem dX12_takesOver_13 : decode cX12_takesOver 13 = .ok (.invokevirtual 115, 3) := by decide +kernel
theorem dX12_takesOver_16 : decode cX12_takesOver 16 = .ok (.ifCond .eq 29, 3) := by decide +kernel
theorem dX12_takesOver_19 : decode cX12_takesOver 19 = .ok (.aload_n 0, 1) := by decide +kernel
theorem dX12_takesOver_20 : decode cX12_takesOver 20 = .ok (.sipush 240, 3) := by decide +kernel
theorem dX12_takesOver_23 : decode cX12_takesOver 23 = .ok (.aload_n 0, 1) := by decide +kernel
theorem dX12_takesOver_24 : decode cX12_takesOver 24 = .ok (.getfield 7, 3) := by decide +kernel
theorem dX12_takesOver_27 : decode cX12_takesOver 27 = .ok (.sipush 245, 3) := by decide +kernel
theorem dX12_takesOver_30 : decode cX12_takesOver 30 = .ok (.iaload, 1) := by decide +kernel
theorem dX12_takesOver_31 : decode cX12_takesOver 31 = .ok (.aload_n 0, 1) := by decide +kernel
theorem dX12_takesOver_32 : decode cX12_takesOver 32 = .ok (.getfield 27, 3) := by decide +kernel
theorem dX12_takesOver_35 : decode cX12_takesOver 35 = .ok (.iconst 0, 1) := by decide +kernel
theorem dX12_takesOver_36 : decode cX12_takesOver 36 = .ok (.iaload, 1) := by decide +kernel
theorem dX12_takesOver_37 : decode cX12_takesOver 37 = .ok (.iconst (-1), 1) := by decide +kernel
theorem dX12_takesOver_38 : decode cX12_takesOver 38 = .ok (.iconst 0, 1) := by decide +kernel
theorem dX12_takesOver_39 : decode cX12_takesOver 39 = .ok (.invokevirtual 74, 3) := by decide +kernel
theorem dX12_takesOver_42 : decode cX12_takesOver 42 = .ok (.ifCond .ne 5, 3) := by decide +kernel
theorem dX12_takesOver_45 : decode cX12_takesOver 45 = .ok (.iconst 0, 1) := by decide +kernel
theorem dX12_takesOver_46 : decode cX12_takesOver 46 = .ok (.ireturn, 1) := by decide +kernel
theorem dX12_takesOver_47 : decode cX12_takesOver 47 = .ok (.aload_n 0, 1) := by decide +kernel
theorem dX12_takesOver_48 : decode cX12_takesOver 48 = .ok (.getfield 7, 3) := by decide +kernel
theorem dX12_takesOver_51 : decode cX12_takesOver 51 = .ok (.sipush 245, 3) := by decide +kernel
theorem dX12_takesOver_54 : decode cX12_takesOver 54 = .ok (.dup2, 1) := by decide +kernel
theorem dX12_takesOver_55 : decode cX12_takesOver 55 = .ok (.iaload, 1) := by decide +kernel
theorem dX12_takesOver_56 : decode cX12_takesOver 56 = .ok (.iconst 1, 1) := by decide +kernel
theorem dX12_takesOver_57 : decode cX12_takesOver 57 = .ok (.aload_n 0, 1) := by decide +kernel
theorem dX12_takesOver_58 : decode cX12_takesOver 58 = .ok (.getfield 27, 3) := by decide +kernel
theorem dX12_takesOver_61 : decode cX12_takesOver 61 = .ok (.iconst 0, 1) := by decide +kernel
theorem dX12_takesOver_62 : decode cX12_takesOver 62 = .ok (.iaload, 1) := by decide +kernel
theorem dX12_takesOver_63 : decode cX12_takesOver 63 = .ok (.ishl, 1) := by decide +kernel
theorem dX12_takesOver_64 : decode cX12_takesOver 64 = .ok (.iconst (-1), 1) := by decide +kernel
theorem dX12_takesOver_65 : decode cX12_takesOver 65 = .ok (.ixor, 1) := by decide +kernel
theorem dX12_takesOver_66 : decode cX12_takesOver 66 = .ok (.iand, 1) := by decide +kernel
theorem dX12_takesOver_67 : decode cX12_takesOver 67 = .ok (.iastore, 1) := by decide +kernel
theorem dX12_takesOver_68 : decode cX12_takesOver 68 = .ok (.iconst 1, 1) := by decide +kernel
theorem dX12_takesOver_69 : decode cX12_takesOver 69 = .ok (.ireturn, 1) := by decide +kernel
theorem dX12_takesItem_0 : decode cX12_takesItem 0 = .ok (.aload_n 0, 1) := by decide +kernel
theorem dX12_takesItem_1 : decode cX12_takesItem 1 = .ok (.invokevirtual 119, 3) := by decide +kernel
theorem dX12_takesItem_4 : decode cX12_takesItem 4 = .ok (.istore_n 2, 1) := by decide +kernel
theorem dX12_takesItem_5 : decode cX12_takesItem 5 = .ok (.iload_n 2, 1) := by decide +kernel
theorem dX12_takesItem_6 : decode cX12_takesItem 6 = .ok (.iconst (-1), 1) := by decide +kernel
theorem dX12_takesItem_7 : decode cX12_takesItem 7 = .ok (.if_icmp .eq 24, 3) := by decide +kernel
theorem dX12_takesItem_10 : decode cX12_takesItem 10 = .ok (.iload_n 2, 1) := by decide +kernel
theorem dX12_takesItem_11 : decode cX12_takesItem 11 = .ok (.ifCond .ne 7, 3) := by decide +kernel
theorem dX12_takesItem_14 : decode cX12_takesItem 14 = .ok (.iconst 1, 1) := by decide +kernel
theorem dX12_takesItem_15 : decode cX12_takesItem 15 = .ok (.goto 4, 3) := by decide +kernel
theorem dX12_takesItem_18 : decode cX12_takesItem 18 = .ok (.iconst 0, 1) := by decide +kernel
theorem dX12_takesItem_19 : decode cX12_takesItem 19 = .ok (.iload_n 1, 1) := by decide +kernel
theorem dX12_takesItem_20 : decode cX12_takesItem 20 = .ok (.ifCond .ne 7, 3) := by decide +kernel
theorem dX12_takesItem_23 : decode cX12_takesItem 23 = .ok (.iconst 1, 1) := by decide +kernel
theorem dX12_takesItem_24 : decode cX12_takesItem 24 = .ok (.goto 4, 3) := by decide +kernel
theorem dX12_takesItem_27 : decode cX12_takesItem 27 = .ok (.iconst 0, 1) := by decide +kernel
theorem dX12_takesItem_28 : decode cX12_takesItem 28 = .ok (.if_icmp .eq 5, 3) := by decide +kernel
theorem dX12_takesItem_31 : decode cX12_takesItem 31 = .ok (.iconst 0, 1) := by decide +kernel
theorem dX12_takesItem_32 : decode cX12_takesItem 32 = .ok (.ireturn, 1) := by decide +kernel
theorem dX12_takesItem_33 : decode cX12_takesItem 33 = .ok (.iload_n 2, 1) := by decide +kernel
theorem dX12_takesItem_34 : decode cX12_takesItem 34 = .ok (.ifCond .ne 10, 3) := by decide +kernel
theorem dX12_takesItem_37 : decode cX12_takesItem 37 = .ok (.aload_n 0, 1) := by decide +kernel
theorem dX12_takesItem_38 : decode cX12_takesItem 38 = .ok (.invokevirtual 122, 3) := by decide +kernel
theorem dX12_takesItem_41 : decode cX12_takesItem 41 = .ok (.goto 19, 3) := by decide +kernel
theorem dX12_takesItem_44 : decode cX12_takesItem 44 = .ok (.iload_n 2, 1) := by decide +kernel
theorem dX12_takesItem_45 : decode cX12_takesItem 45 = .ok (.iconst 1, 1) := by decide +kernel
theorem dX12_takesItem_46 : decode cX12_takesItem 46 = .ok (.if_icmp .ne 10, 3) := by decide +kernel
theorem dX12_takesItem_49 : decode cX12_takesItem 49 = .ok (.aload_n 0, 1) := by decide +kernel
theorem dX12_takesItem_50 : decode cX12_takesItem 50 = .ok (.invokevirtual 126, 3) := by decide +kernel
theorem dX12_takesItem_53 : decode cX12_takesItem 53 = .ok (.goto 7, 3) := by decide +kernel
theorem dX12_takesItem_56 : decode cX12_takesItem 56 = .ok (.aload_n 0, 1) := by decide +kernel
theorem dX12_takesItem_57 : decode cX12_takesItem 57 = .ok (.invokevirtual 129, 3) := by decide +kernel
theorem dX12_takesItem_60 : decode cX12_takesItem 60 = .ok (.istore_n 3, 1) := by decide +kernel
theorem dX12_takesItem_61 : decode cX12_takesItem 61 = .ok (.iload_n 3, 1) := by decide +kernel
theorem dX12_takesItem_62 : decode cX12_takesItem 62 = .ok (.ifCond .ne 5, 3) := by decide +kernel
theorem dX12_takesItem_65 : decode cX12_takesItem 65 = .ok (.iconst 0, 1) := by decide +kernel
theorem dX12_takesItem_66 : decode cX12_takesItem 66 = .ok (.ireturn, 1) := by decide +kernel
theorem dX12_takesItem_67 : decode cX12_takesItem 67 = .ok (.aload_n 0, 1) := by decide +kernel
theorem dX12_takesItem_68 : decode cX12_takesItem 68 = .ok (.invokevirtual 112, 3) := by decide +kernel
theorem dX12_takesItem_71 : decode cX12_takesItem 71 = .ok (.aload_n 0, 1) := by decide +kernel
theorem dX12_takesItem_72 : decode cX12_takesItem 72 = .ok (.aload_n 0, 1) := by decide +kernel
theorem dX12_takesItem_73 : decode cX12_takesItem 73 = .ok (.getfield 91, 3) := by decide +kernel
theorem dX12_takesItem_76 : decode cX12_takesItem 76 = .ok (.invokevirtual 87, 3) := by decide +kernel
theorem dX12_takesItem_79 : decode cX12_takesItem 79 = .ok (.bipush 59, 2) := by decide +kernel
theorem dX12_takesItem_81 : decode cX12_takesItem 81 = .ok (.if_icmp .ne 7, 3) := by decide +kernel
theorem dX12_takesItem_84 : decode cX12_takesItem 84 = .ok (.iconst 1, 1) := by decide +kernel
theorem dX12_takesItem_85 : decode cX12_takesItem 85 = .ok (.goto 4, 3) := by decide +kernel
theorem dX12_takesItem_88 : decode cX12_takesItem 88 = .ok (.iconst 0, 1) := by decide +kernel
theorem dX12_takesItem_89 : decode cX12_takesItem 89 = .ok (.ireturn, 1) := by decide +kernel
theorem dX12_read_0 : decode cX12_read 0 = .ok (.aload_n 0, 1) := by decide +kernel
theorem dX12_read_1 : decode cX12_read 1 = .ok (.iconst 0, 1) := by decide +kernel
theorem dX12_read_2 : decode cX12_read 2 = .ok (.putfield 84, 3) := by decide +kernel
theorem dX12_read_5 : decode cX12_read 5 = .ok (.iconst 0, 1) := by decide +kernel
theorem dX12_read_6 : decode cX12_read 6 = .ok (.istore_n 1, 1) := by decide +kernel
theorem dX12_read_7 : decode cX12_read 7 = .ok (.aload_n 0, 1) := by decide +kernel
theorem dX12_read_8 : decode cX12_read 8 = .ok (.sipush 240, 3) := by decide +kernel
theorem dX12_read_11 : decode cX12_read 11 = .ok (.iconst 0, 1) := by decide +kernel
theorem dX12_read_12 : decode cX12_read 12 = .ok (.iconst 0, 1) := by decide +kernel
theorem dX12_read_13 : decode cX12_read 13 = .ok (.invokevirtual 30, 3) := by decide +kernel
theorem dX12_read_16 : decode cX12_read 16 = .ok (.aload_n 0, 1) := by decide +kernel
theorem dX12_read_17 : decode cX12_read 17 = .ok (.invokevirtual 112, 3) := by decide +kernel
theorem dX12_read_20 : decode cX12_read 20 = .ok (.aload_n 0, 1) := by decide +kernel
theorem dX12_read_21 : decode cX12_read 21 = .ok (.getfield 91, 3) := by decide +kernel
theorem dX12_read_24 : decode cX12_read 24 = .ok (.aload_n 0, 1) := by decide +kernel
theorem dX12_read_25 : decode cX12_read 25 = .ok (.getfield 80, 3) := by decide +kernel
theorem dX12_read_28 : decode cX12_read 28 = .ok (.if_icmp .lt 7, 3) := by decide +kernel
theorem dX12_read_31 : decode cX12_read 31 = .ok (.iload_n 1, 1) := by decide +kernel
theorem dX12_read_32 : decode cX12_read 32 = .ok (.ifCond .ne 29, 3) := by decide +kernel
theorem dX12_read_35 : decode cX12_read 35 = .ok (.aload_n 0, 1) := by decide +kernel
theorem dX12_read_36 : decode cX12_read 36 = .ok (.iload_n 1, 1) := by decide +kernel
theorem dX12_read_37 : decode cX12_read 37 = .ok (.invokevirtual 132, 3) := by decide +kernel
theorem dX12_read_40 : decode cX12_read 40 = .ok (.ifCond .ne 11, 3) := by decide +kernel
theorem dX12_read_43 : decode cX12_read 43 = .ok (.bipush (-10), 2) := by decide +kernel
theorem dX12_read_45 : decode cX12_read 45 = .ok (.aload_n 0, 1) := by decide +kernel
theorem dX12_read_46 : decode cX12_read 46 = .ok (.getfield 91, 3) := by decide +kernel
theorem dX12_read_49 : decode cX12_read 49 = .ok (.isub, 1) := by decide +kernel
theorem dX12_read_50 : decode cX12_read 50 = .ok (.ireturn, 1) := by decide +kernel
theorem dX12_read_51 : decode cX12_read 51 = .ok (.iinc 1 1, 3) := by decide +kernel
theorem dX12_read_54 : decode cX12_read 54 = .ok (.aload_n 0, 1) := by decide +kernel
theorem dX12_read_55 : decode cX12_read 55 = .ok (.invokevirtual 112, 3) := by decide +kernel
theorem dX12_read_58 : decode cX12_read 58 = .ok (.goto (-38), 3) := by decide +kernel
theorem dX12_read_61 : decode cX12_read 61 = .ok (.aload_n 0, 1) := by decide +kernel
theorem dX12_read_62 : decode cX12_read 62 = .ok (.sipush 240, 3) := by decide +kernel
theorem dX12_read_65 : decode cX12_read 65 = .ok (.iconst 0, 1) := by decide +kernel
theorem dX12_read_66 : decode cX12_read 66 = .ok (.invokevirtual 135, 3) := by decide +kernel
theorem dX12_read_69 : decode cX12_read 69 = .ok (.iload_n 1, 1) := by decide +kernel
theorem dX12_read_70 : decode cX12_read 70 = .ok (.ireturn, 1) := by decide +kernel
theorem dX12_goodOf_0 : decode cX12_goodOf 0 = .ok (.iload_n 0, 1) := by decide +kernel
theorem dX12_goodOf_1 : decode cX12_goodOf 1 = .ok (.tableswitch 53 1 5 #[35, 53, 37, 43, 45], 35) := by decide +kernel
theorem dX12_goodOf_36 : decode cX12_goodOf 36 = .ok (.iconst 0, 1) := by decide +kernel
theorem dX12_goodOf_37 : decode cX12_goodOf 37 = .ok (.ireturn, 1) := by decide +kernel
theorem dX12_goodOf_38 : decode cX12_goodOf 38 = .ok (.iconst 3, 1) := by decide +kernel
theorem dX12_goodOf_39 : decode cX12_goodOf 39 = .ok (.iload_n 1, 1) := by decide +kernel
theorem dX12_goodOf_40 : decode cX12_goodOf 40 = .ok (.imul, 1) := by decide +kernel
theorem dX12_goodOf_41 : decode cX12_goodOf 41 = .ok (.iconst 4, 1) := by decide +kernel
theorem dX12_goodOf_42 : decode cX12_goodOf 42 = .ok (.idiv, 1) := by decide +kernel
theorem dX12_goodOf_43 : decode cX12_goodOf 43 = .ok (.ireturn, 1) := by decide +kernel
theorem dX12_goodOf_44 : decode cX12_goodOf 44 = .ok (.iconst 5, 1) := by decide +kernel
theorem dX12_goodOf_45 : decode cX12_goodOf 45 = .ok (.ireturn, 1) := by decide +kernel
theorem dX12_goodOf_46 : decode cX12_goodOf 46 = .ok (.iconst 3, 1) := by decide +kernel
theorem dX12_goodOf_47 : decode cX12_goodOf 47 = .ok (.iload_n 1, 1) := by decide +kernel
theorem dX12_goodOf_48 : decode cX12_goodOf 48 = .ok (.imul, 1) := by decide +kernel
theorem dX12_goodOf_49 : decode cX12_goodOf 49 = .ok (.iconst 4, 1) := by decide +kernel
theorem dX12_goodOf_50 : decode cX12_goodOf 50 = .ok (.idiv, 1) := by decide +kernel
theorem dX12_goodOf_51 : decode cX12_goodOf 51 = .ok (.iconst 2, 1) := by decide +kernel
theorem dX12_goodOf_52 : decode cX12_goodOf 52 = .ok (.idiv, 1) := by decide +kernel
theorem dX12_goodOf_53 : decode cX12_goodOf 53 = .ok (.ireturn, 1) := by decide +kernel
theorem dX12_goodOf_54 : decode cX12_goodOf 54 = .ok (.iload_n 1, 1) := by decide +kernel
theorem dX12_goodOf_55 : decode cX12_goodOf 55 = .ok (.ireturn, 1) := by decide +kernel
theorem dX12_bearsOf_0 : decode cX12_bearsOf 0 = .ok (.iload_n 0, 1) := by decide +kernel
theorem dX12_bearsOf_1 : decode cX12_bearsOf 1 = .ok (.tableswitch 41 2 5 #[31, 41, 35, 37], 31) := by decide +kernel
theorem dX12_bearsOf_32 : decode cX12_bearsOf 32 = .ok (.iload_n 1, 1) := by decide +kernel
theorem dX12_bearsOf_33 : decode cX12_bearsOf 33 = .ok (.iconst 2, 1) := by decide +kernel
theorem dX12_bearsOf_34 : decode cX12_bearsOf 34 = .ok (.idiv, 1) := by decide +kernel
theorem dX12_bearsOf_35 : decode cX12_bearsOf 35 = .ok (.ireturn, 1) := by decide +kernel
theorem dX12_bearsOf_36 : decode cX12_bearsOf 36 = .ok (.iconst 0, 1) := by decide +kernel
theorem dX12_bearsOf_37 : decode cX12_bearsOf 37 = .ok (.ireturn, 1) := by decide +kernel
theorem dX12_bearsOf_38 : decode cX12_bearsOf 38 = .ok (.iload_n 1, 1) := by decide +kernel
theorem dX12_bearsOf_39 : decode cX12_bearsOf 39 = .ok (.iconst 3, 1) := by decide +kernel
theorem dX12_bearsOf_40 : decode cX12_bearsOf 40 = .ok (.iadd, 1) := by decide +kernel
theorem dX12_bearsOf_41 : decode cX12_bearsOf 41 = .ok (.ireturn, 1) := by decide +kernel
theorem dX12_bearsOf_42 : decode cX12_bearsOf 42 = .ok (.iload_n 1, 1) := by decide +kernel
theorem dX12_bearsOf_43 : decode cX12_bearsOf 43 = .ok (.ireturn, 1) := by decide +kernel
theorem dX12_madeGood_0 : decode cX12_madeGood 0 = .ok (.aload_n 0, 1) := by decide +kernel
theorem dX12_madeGood_1 : decode cX12_madeGood 1 = .ok (.getfield 7, 3) := by decide +kernel
theorem dX12_madeGood_4 : decode cX12_madeGood 4 = .ok (.bipush 6, 2) := by decide +kernel
theorem dX12_madeGood_6 : decode cX12_madeGood 6 = .ok (.iload_n 1, 1) := by decide +kernel
theorem dX12_madeGood_7 : decode cX12_madeGood 7 = .ok (.iadd, 1) := by decide +kernel
theorem dX12_madeGood_8 : decode cX12_madeGood 8 = .ok (.iaload, 1) := by decide +kernel
theorem dX12_madeGood_9 : decode cX12_madeGood 9 = .ok (.aload_n 0, 1) := by decide +kernel
theorem dX12_madeGood_10 : decode cX12_madeGood 10 = .ok (.getfield 7, 3) := by decide +kernel
theorem dX12_madeGood_13 : decode cX12_madeGood 13 = .ok (.bipush 46, 2) := by decide +kernel
theorem dX12_madeGood_15 : decode cX12_madeGood 15 = .ok (.iload_n 1, 1) := by decide +kernel
theorem dX12_madeGood_16 : decode cX12_madeGood 16 = .ok (.iadd, 1) := by decide +kernel
theorem dX12_madeGood_17 : decode cX12_madeGood 17 = .ok (.iaload, 1) := by decide +kernel
theorem dX12_madeGood_18 : decode cX12_madeGood 18 = .ok (.invokestatic 139, 3) := by decide +kernel
theorem dX12_madeGood_21 : decode cX12_madeGood 21 = .ok (.ireturn, 1) := by decide +kernel
theorem dX12_lossOf_0 : decode cX12_lossOf 0 = .ok (.iconst 0, 1) := by decide +kernel
theorem dX12_lossOf_1 : decode cX12_lossOf 1 = .ok (.istore_n 2, 1) := by decide +kernel
theorem dX12_lossOf_2 : decode cX12_lossOf 2 = .ok (.iconst 0, 1) := by decide +kernel
theorem dX12_lossOf_3 : decode cX12_lossOf 3 = .ok (.istore_n 3, 1) := by decide +kernel
theorem dX12_lossOf_4 : decode cX12_lossOf 4 = .ok (.iload_n 3, 1) := by decide +kernel
theorem dX12_lossOf_5 : decode cX12_lossOf 5 = .ok (.aload_n 0, 1) := by decide +kernel
theorem dX12_lossOf_6 : decode cX12_lossOf 6 = .ok (.getfield 7, 3) := by decide +kernel
theorem dX12_lossOf_9 : decode cX12_lossOf 9 = .ok (.iconst 0, 1) := by decide +kernel
theorem dX12_lossOf_10 : decode cX12_lossOf 10 = .ok (.iaload, 1) := by decide +kernel
theorem dX12_lossOf_11 : decode cX12_lossOf 11 = .ok (.if_icmp .ge 52, 3) := by decide +kernel
theorem dX12_lossOf_14 : decode cX12_lossOf 14 = .ok (.iload_n 2, 1) := by decide +kernel
theorem dX12_lossOf_15 : decode cX12_lossOf 15 = .ok (.aload_n 0, 1) := by decide +kernel
theorem dX12_lossOf_16 : decode cX12_lossOf 16 = .ok (.getfield 7, 3) := by decide +kernel
theorem dX12_lossOf_19 : decode cX12_lossOf 19 = .ok (.iconst 5, 1) := by decide +kernel
theorem dX12_lossOf_20 : decode cX12_lossOf 20 = .ok (.iaload, 1) := by decide +kernel
theorem dX12_lossOf_21 : decode cX12_lossOf 21 = .ok (.iload_n 3, 1) := by decide +kernel
theorem dX12_lossOf_22 : decode cX12_lossOf 22 = .ok (.invokestatic 70, 3) := by decide +kernel
theorem dX12_lossOf_25 : decode cX12_lossOf 25 = .ok (.ifCond .ne 29, 3) := by decide +kernel
theorem dX12_lossOf_28 : decode cX12_lossOf 28 = .ok (.iload_n 1, 1) := by decide +kernel
theorem dX12_lossOf_29 : decode cX12_lossOf 29 = .ok (.iconst (-1), 1) := by decide +kernel
theorem dX12_lossOf_30 : decode cX12_lossOf 30 = .ok (.if_icmp .eq 16, 3) := by decide +kernel
theorem dX12_lossOf_33 : decode cX12_lossOf 33 = .ok (.aload_n 0, 1) := by decide +kernel
theorem dX12_lossOf_34 : decode cX12_lossOf 34 = .ok (.getfield 7, 3) := by decide +kernel
theorem dX12_lossOf_37 : decode cX12_lossOf 37 = .ok (.bipush 14, 2) := by decide +kernel
theorem dX12_lossOf_39 : decode cX12_lossOf 39 = .ok (.iload_n 3, 1) := by decide +kernel
theorem dX12_lossOf_40 : decode cX12_lossOf 40 = .ok (.iadd, 1) := by decide +kernel
theorem dX12_lossOf_41 : decode cX12_lossOf 41 = .ok (.iaload, 1) := by decide +kernel
theorem dX12_lossOf_42 : decode cX12_lossOf 42 = .ok (.iload_n 1, 1) := by decide +kernel
theorem dX12_lossOf_43 : decode cX12_lossOf 43 = .ok (.if_icmp .ne 11, 3) := by decide +kernel
theorem dX12_lossOf_46 : decode cX12_lossOf 46 = .ok (.aload_n 0, 1) := by decide +kernel
theorem dX12_lossOf_47 : decode cX12_lossOf 47 = .ok (.iload_n 3, 1) := by decide +kernel
theorem dX12_lossOf_48 : decode cX12_lossOf 48 = .ok (.invokevirtual 143, 3) := by decide +kernel
theorem dX12_lossOf_51 : decode cX12_lossOf 51 = .ok (.goto 4, 3) := by decide +kernel
theorem dX12_lossOf_54 : decode cX12_lossOf 54 = .ok (.iconst 0, 1) := by decide +kernel
theorem dX12_lossOf_55 : decode cX12_lossOf 55 = .ok (.iadd, 1) := by decide +kernel
theorem dX12_lossOf_56 : decode cX12_lossOf 56 = .ok (.istore_n 2, 1) := by decide +kernel
theorem dX12_lossOf_57 : decode cX12_lossOf 57 = .ok (.iinc 3 1, 3) := by decide +kernel
theorem dX12_lossOf_60 : decode cX12_lossOf 60 = .ok (.goto (-56), 3) := by decide +kernel
theorem dX12_lossOf_63 : decode cX12_lossOf 63 = .ok (.iload_n 2, 1) := by decide +kernel
theorem dX12_lossOf_64 : decode cX12_lossOf 64 = .ok (.ireturn, 1) := by decide +kernel
theorem dX12_bears_0 : decode cX12_bears 0 = .ok (.iload_n 1, 1) := by decide +kernel
theorem dX12_bears_1 : decode cX12_bears 1 = .ok (.iconst (-1), 1) := by decide +kernel
theorem dX12_bears_2 : decode cX12_bears 2 = .ok (.if_icmp .eq 8, 3) := by decide +kernel
theorem dX12_bears_5 : decode cX12_bears 5 = .ok (.iload_n 1, 1) := by decide +kernel
theorem dX12_bears_6 : decode cX12_bears 6 = .ok (.iconst 4, 1) := by decide +kernel
theorem dX12_bears_7 : decode cX12_bears 7 = .ok (.if_icmp .ne 12, 3) := by decide +kernel
theorem dX12_bears_10 : decode cX12_bears 10 = .ok (.aload_n 0, 1) := by decide +kernel
theorem dX12_bears_11 : decode cX12_bears 11 = .ok (.getfield 7, 3) := by decide +kernel
theorem dX12_bears_14 : decode cX12_bears 14 = .ok (.iconst 1, 1) := by decide +kernel
theorem dX12_bears_15 : decode cX12_bears 15 = .ok (.iaload, 1) := by decide +kernel
theorem dX12_bears_16 : decode cX12_bears 16 = .ok (.goto 4, 3) := by decide +kernel
theorem dX12_bears_19 : decode cX12_bears 19 = .ok (.iconst 0, 1) := by decide +kernel
theorem dX12_bears_20 : decode cX12_bears 20 = .ok (.istore_n 2, 1) := by decide +kernel
theorem dX12_bears_21 : decode cX12_bears 21 = .ok (.iconst 0, 1) := by decide +kernel
theorem dX12_bears_22 : decode cX12_bears 22 = .ok (.istore_n 3, 1) := by decide +kernel
theorem dX12_bears_23 : decode cX12_bears 23 = .ok (.iload_n 3, 1) := by decide +kernel
theorem dX12_bears_24 : decode cX12_bears 24 = .ok (.aload_n 0, 1) := by decide +kernel
theorem dX12_bears_25 : decode cX12_bears 25 = .ok (.getfield 7, 3) := by decide +kernel
theorem dX12_bears_28 : decode cX12_bears 28 = .ok (.iconst 0, 1) := by decide +kernel
theorem dX12_bears_29 : decode cX12_bears 29 = .ok (.iaload, 1) := by decide +kernel
theorem dX12_bears_30 : decode cX12_bears 30 = .ok (.if_icmp .ge 55, 3) := by decide +kernel
theorem dX12_bears_33 : decode cX12_bears 33 = .ok (.iload_n 2, 1) := by decide +kernel
theorem dX12_bears_34 : decode cX12_bears 34 = .ok (.iload_n 1, 1) := by decide +kernel
theorem dX12_bears_35 : decode cX12_bears 35 = .ok (.iconst (-1), 1) := by decide +kernel
theorem dX12_bears_36 : decode cX12_bears 36 = .ok (.if_icmp .eq 16, 3) := by decide +kernel
theorem dX12_bears_39 : decode cX12_bears 39 = .ok (.aload_n 0, 1) := by decide +kernel
theorem dX12_bears_40 : decode cX12_bears 40 = .ok (.getfield 7, 3) := by decide +kernel
theorem dX12_bears_43 : decode cX12_bears 43 = .ok (.bipush 14, 2) := by decide +kernel
theorem dX12_bears_45 : decode cX12_bears 45 = .ok (.iload_n 3, 1) := by decide +kernel
theorem dX12_bears_46 : decode cX12_bears 46 = .ok (.iadd, 1) := by decide +kernel
theorem dX12_bears_47 : decode cX12_bears 47 = .ok (.iaload, 1) := by decide +kernel
theorem dX12_bears_48 : decode cX12_bears 48 = .ok (.iload_n 1, 1) := by decide +kernel
theorem dX12_bears_49 : decode cX12_bears 49 = .ok (.if_icmp .ne 27, 3) := by decide +kernel
theorem dX12_bears_52 : decode cX12_bears 52 = .ok (.aload_n 0, 1) := by decide +kernel
theorem dX12_bears_53 : decode cX12_bears 53 = .ok (.getfield 7, 3) := by decide +kernel
theorem dX12_bears_56 : decode cX12_bears 56 = .ok (.bipush 6, 2) := by decide +kernel
theorem dX12_bears_58 : decode cX12_bears 58 = .ok (.iload_n 3, 1) := by decide +kernel
theorem dX12_bears_59 : decode cX12_bears 59 = .ok (.iadd, 1) := by decide +kernel
theorem dX12_bears_60 : decode cX12_bears 60 = .ok (.iaload, 1) := by decide +kernel
theorem dX12_bears_61 : decode cX12_bears 61 = .ok (.aload_n 0, 1) := by decide +kernel
theorem dX12_bears_62 : decode cX12_bears 62 = .ok (.getfield 7, 3) := by decide +kernel
theorem dX12_bears_65 : decode cX12_bears 65 = .ok (.bipush 46, 2) := by decide +kernel
theorem dX12_bears_67 : decode cX12_bears 67 = .ok (.iload_n 3, 1) := by decide +kernel
theorem dX12_bears_68 : decode cX12_bears 68 = .ok (.iadd, 1) := by decide +kernel
theorem dX12_bears_69 : decode cX12_bears 69 = .ok (.iaload, 1) := by decide +kernel
theorem dX12_bears_70 : decode cX12_bears 70 = .ok (.invokestatic 146, 3) := by decide +kernel
theorem dX12_bears_73 : decode cX12_bears 73 = .ok (.goto 4, 3) := by decide +kernel
theorem dX12_bears_76 : decode cX12_bears 76 = .ok (.iconst 0, 1) := by decide +kernel
theorem dX12_bears_77 : decode cX12_bears 77 = .ok (.iadd, 1) := by decide +kernel
theorem dX12_bears_78 : decode cX12_bears 78 = .ok (.istore_n 2, 1) := by decide +kernel
theorem dX12_bears_79 : decode cX12_bears 79 = .ok (.iinc 3 1, 3) := by decide +kernel
theorem dX12_bears_82 : decode cX12_bears 82 = .ok (.goto (-59), 3) := by decide +kernel
theorem dX12_bears_85 : decode cX12_bears 85 = .ok (.iload_n 2, 1) := by decide +kernel
theorem dX12_bears_86 : decode cX12_bears 86 = .ok (.ireturn, 1) := by decide +kernel
theorem dX12_over_0 : decode cX12_over 0 = .ok (.aload_n 0, 1) := by decide +kernel
theorem dX12_over_1 : decode cX12_over 1 = .ok (.iload_n 1, 1) := by decide +kernel
theorem dX12_over_2 : decode cX12_over 2 = .ok (.invokevirtual 67, 3) := by decide +kernel
theorem dX12_over_5 : decode cX12_over 5 = .ok (.ifCond .ne 8, 3) := by decide +kernel
theorem dX12_over_8 : decode cX12_over 8 = .ok (.aload_n 0, 1) := by decide +kernel
theorem dX12_over_9 : decode cX12_over 9 = .ok (.invokevirtual 44, 3) := by decide +kernel
theorem dX12_over_12 : decode cX12_over 12 = .ok (.ireturn, 1) := by decide +kernel
theorem dX12_over_13 : decode cX12_over 13 = .ok (.aload_n 0, 1) := by decide +kernel
theorem dX12_over_14 : decode cX12_over 14 = .ok (.iload_n 1, 1) := by decide +kernel
theorem dX12_over_15 : decode cX12_over 15 = .ok (.invokevirtual 149, 3) := by decide +kernel
theorem dX12_over_18 : decode cX12_over 18 = .ok (.ifCond .ne 8, 3) := by decide +kernel
theorem dX12_over_21 : decode cX12_over 21 = .ok (.aload_n 0, 1) := by decide +kernel
theorem dX12_over_22 : decode cX12_over 22 = .ok (.invokevirtual 152, 3) := by decide +kernel
theorem dX12_over_25 : decode cX12_over 25 = .ok (.ireturn, 1) := by decide +kernel
theorem dX12_over_26 : decode cX12_over 26 = .ok (.aload_n 0, 1) := by decide +kernel
theorem dX12_over_27 : decode cX12_over 27 = .ok (.getfield 7, 3) := by decide +kernel
theorem dX12_over_30 : decode cX12_over 30 = .ok (.iconst 4, 1) := by decide +kernel
theorem dX12_over_31 : decode cX12_over 31 = .ok (.iaload, 1) := by decide +kernel
theorem dX12_over_32 : decode cX12_over 32 = .ok (.bipush 8, 2) := by decide +kernel
theorem dX12_over_34 : decode cX12_over 34 = .ok (.if_icmp .ne 47, 3) := by decide +kernel
theorem dX12_over_37 : decode cX12_over 37 = .ok (.iconst 0, 1) := by decide +kernel
theorem dX12_over_38 : decode cX12_over 38 = .ok (.istore_n 2, 1) := by decide +kernel
theorem dX12_over_39 : decode cX12_over 39 = .ok (.iload_n 2, 1) := by decide +kernel
theorem dX12_over_40 : decode cX12_over 40 = .ok (.bipush 7, 2) := by decide +kernel
theorem dX12_over_42 : decode cX12_over 42 = .ok (.if_icmp .ge 29, 3) := by decide +kernel
theorem dX12_over_45 : decode cX12_over 45 = .ok (.aload_n 0, 1) := by decide +kernel
theorem dX12_over_46 : decode cX12_over 46 = .ok (.getfield 7, 3) := by decide +kernel
theorem dX12_over_49 : decode cX12_over 49 = .ok (.bipush 72, 2) := by decide +kernel
theorem dX12_over_51 : decode cX12_over 51 = .ok (.iload_n 2, 1) := by decide +kernel
theorem dX12_over_52 : decode cX12_over 52 = .ok (.iadd, 1) := by decide +kernel
theorem dX12_over_53 : decode cX12_over 53 = .ok (.aload_n 0, 1) := by decide +kernel
theorem dX12_over_54 : decode cX12_over 54 = .ok (.getfield 7, 3) := by decide +kernel
theorem dX12_over_57 : decode cX12_over 57 = .ok (.bipush 72, 2) := by decide +kernel
theorem dX12_over_59 : decode cX12_over 59 = .ok (.iload_n 2, 1) := by decide +kernel
theorem dX12_over_60 : decode cX12_over 60 = .ok (.iadd, 1) := by decide +kernel
theorem dX12_over_61 : decode cX12_over 61 = .ok (.iconst 1, 1) := by decide +kernel
theorem dX12_over_62 : decode cX12_over 62 = .ok (.iadd, 1) := by decide +kernel
theorem dX12_over_63 : decode cX12_over 63 = .ok (.iaload, 1) := by decide +kernel
theorem dX12_over_64 : decode cX12_over 64 = .ok (.iastore, 1) := by decide +kernel
theorem dX12_over_65 : decode cX12_over 65 = .ok (.iinc 2 1, 3) := by decide +kernel
theorem dX12_over_68 : decode cX12_over 68 = .ok (.goto (-29), 3) := by decide +kernel
theorem dX12_over_71 : decode cX12_over 71 = .ok (.aload_n 0, 1) := by decide +kernel
theorem dX12_over_72 : decode cX12_over 72 = .ok (.getfield 7, 3) := by decide +kernel
theorem dX12_over_75 : decode cX12_over 75 = .ok (.iconst 4, 1) := by decide +kernel
theorem dX12_over_76 : decode cX12_over 76 = .ok (.dup2, 1) := by decide +kernel
theorem dX12_over_77 : decode cX12_over 77 = .ok (.iaload, 1) := by decide +kernel
theorem dX12_over_78 : decode cX12_over 78 = .ok (.iconst 1, 1) := by decide +kernel
theorem dX12_over_79 : decode cX12_over 79 = .ok (.isub, 1) := by decide +kernel
theorem dX12_over_80 : decode cX12_over 80 = .ok (.iastore, 1) := by decide +kernel
theorem dX12_over_81 : decode cX12_over 81 = .ok (.aload_n 0, 1) := by decide +kernel
theorem dX12_over_82 : decode cX12_over 82 = .ok (.getfield 7, 3) := by decide +kernel
theorem dX12_over_85 : decode cX12_over 85 = .ok (.bipush 72, 2) := by decide +kernel
theorem dX12_over_87 : decode cX12_over 87 = .ok (.aload_n 0, 1) := by decide +kernel
theorem dX12_over_88 : decode cX12_over 88 = .ok (.getfield 7, 3) := by decide +kernel
theorem dX12_over_91 : decode cX12_over 91 = .ok (.iconst 4, 1) := by decide +kernel
theorem dX12_over_92 : decode cX12_over 92 = .ok (.iaload, 1) := by decide +kernel
theorem dX12_over_93 : decode cX12_over 93 = .ok (.iadd, 1) := by decide +kernel
theorem dX12_over_94 : decode cX12_over 94 = .ok (.aload_n 0, 1) := by decide +kernel
theorem dX12_over_95 : decode cX12_over 95 = .ok (.getfield 7, 3) := by decide +kernel
theorem dX12_over_98 : decode cX12_over 98 = .ok (.iconst 5, 1) := by decide +kernel
theorem dX12_over_99 : decode cX12_over 99 = .ok (.iaload, 1) := by decide +kernel
theorem dX12_over_100 : decode cX12_over 100 = .ok (.iastore, 1) := by decide +kernel
theorem dX12_over_101 : decode cX12_over 101 = .ok (.aload_n 0, 1) := by decide +kernel
theorem dX12_over_102 : decode cX12_over 102 = .ok (.getfield 7, 3) := by decide +kernel
theorem dX12_over_105 : decode cX12_over 105 = .ok (.iconst 4, 1) := by decide +kernel
theorem dX12_over_106 : decode cX12_over 106 = .ok (.dup2, 1) := by decide +kernel
theorem dX12_over_107 : decode cX12_over 107 = .ok (.iaload, 1) := by decide +kernel
theorem dX12_over_108 : decode cX12_over 108 = .ok (.iconst 1, 1) := by decide +kernel
theorem dX12_over_109 : decode cX12_over 109 = .ok (.iadd, 1) := by decide +kernel
theorem dX12_over_110 : decode cX12_over 110 = .ok (.iastore, 1) := by decide +kernel
theorem dX12_over_111 : decode cX12_over 111 = .ok (.aload_n 0, 1) := by decide +kernel
theorem dX12_over_112 : decode cX12_over 112 = .ok (.getfield 7, 3) := by decide +kernel
theorem dX12_over_115 : decode cX12_over 115 = .ok (.iconst 5, 1) := by decide +kernel
theorem dX12_over_116 : decode cX12_over 116 = .ok (.dup2, 1) := by decide +kernel
theorem dX12_over_117 : decode cX12_over 117 = .ok (.iaload, 1) := by decide +kernel
theorem dX12_over_118 : decode cX12_over 118 = .ok (.iconst 1, 1) := by decide +kernel
theorem dX12_over_119 : decode cX12_over 119 = .ok (.iload_n 1, 1) := by decide +kernel
theorem dX12_over_120 : decode cX12_over 120 = .ok (.ishl, 1) := by decide +kernel
theorem dX12_over_121 : decode cX12_over 121 = .ok (.iconst (-1), 1) := by decide +kernel
theorem dX12_over_122 : decode cX12_over 122 = .ok (.ixor, 1) := by decide +kernel
theorem dX12_over_123 : decode cX12_over 123 = .ok (.iand, 1) := by decide +kernel
theorem dX12_over_124 : decode cX12_over 124 = .ok (.iastore, 1) := by decide +kernel
theorem dX12_over_125 : decode cX12_over 125 = .ok (.aload_n 0, 1) := by decide +kernel
theorem dX12_over_126 : decode cX12_over 126 = .ok (.iload_n 1, 1) := by decide +kernel
theorem dX12_over_127 : decode cX12_over 127 = .ok (.invokevirtual 143, 3) := by decide +kernel
theorem dX12_over_130 : decode cX12_over 130 = .ok (.ireturn, 1) := by decide +kernel
theorem dX12_undo_0 : decode cX12_undo 0 = .ok (.aload_n 0, 1) := by decide +kernel
theorem dX12_undo_1 : decode cX12_undo 1 = .ok (.getfield 7, 3) := by decide +kernel
theorem dX12_undo_4 : decode cX12_undo 4 = .ok (.iconst 4, 1) := by decide +kernel
theorem dX12_undo_5 : decode cX12_undo 5 = .ok (.iaload, 1) := by decide +kernel
theorem dX12_undo_6 : decode cX12_undo 6 = .ok (.ifCond .ne 8, 3) := by decide +kernel
theorem dX12_undo_9 : decode cX12_undo 9 = .ok (.aload_n 0, 1) := by decide +kernel
theorem dX12_undo_10 : decode cX12_undo 10 = .ok (.invokevirtual 152, 3) := by decide +kernel
theorem dX12_undo_13 : decode cX12_undo 13 = .ok (.ireturn, 1) := by decide +kernel
theorem dX12_undo_14 : decode cX12_undo 14 = .ok (.aload_n 0, 1) := by decide +kernel
theorem dX12_undo_15 : decode cX12_undo 15 = .ok (.getfield 7, 3) := by decide +kernel
theorem dX12_undo_18 : decode cX12_undo 18 = .ok (.iconst 4, 1) := by decide +kernel
theorem dX12_undo_19 : decode cX12_undo 19 = .ok (.dup2, 1) := by decide +kernel
theorem dX12_undo_20 : decode cX12_undo 20 = .ok (.iaload, 1) := by decide +kernel
theorem dX12_undo_21 : decode cX12_undo 21 = .ok (.iconst 1, 1) := by decide +kernel
theorem dX12_undo_22 : decode cX12_undo 22 = .ok (.isub, 1) := by decide +kernel
theorem dX12_undo_23 : decode cX12_undo 23 = .ok (.iastore, 1) := by decide +kernel
theorem dX12_undo_24 : decode cX12_undo 24 = .ok (.aload_n 0, 1) := by decide +kernel
theorem dX12_undo_25 : decode cX12_undo 25 = .ok (.getfield 7, 3) := by decide +kernel
theorem dX12_undo_28 : decode cX12_undo 28 = .ok (.iconst 5, 1) := by decide +kernel
theorem dX12_undo_29 : decode cX12_undo 29 = .ok (.aload_n 0, 1) := by decide +kernel
theorem dX12_undo_30 : decode cX12_undo 30 = .ok (.getfield 7, 3) := by decide +kernel
theorem dX12_undo_33 : decode cX12_undo 33 = .ok (.bipush 72, 2) := by decide +kernel
theorem dX12_undo_35 : decode cX12_undo 35 = .ok (.aload_n 0, 1) := by decide +kernel
theorem dX12_undo_36 : decode cX12_undo 36 = .ok (.getfield 7, 3) := by decide +kernel
theorem dX12_undo_39 : decode cX12_undo 39 = .ok (.iconst 4, 1) := by decide +kernel
theorem dX12_undo_40 : decode cX12_undo 40 = .ok (.iaload, 1) := by decide +kernel
theorem dX12_undo_41 : decode cX12_undo 41 = .ok (.iadd, 1) := by decide +kernel
theorem dX12_undo_42 : decode cX12_undo 42 = .ok (.iaload, 1) := by decide +kernel
theorem dX12_undo_43 : decode cX12_undo 43 = .ok (.iastore, 1) := by decide +kernel
theorem dX12_undo_44 : decode cX12_undo 44 = .ok (.aload_n 0, 1) := by decide +kernel
theorem dX12_undo_45 : decode cX12_undo 45 = .ok (.getfield 7, 3) := by decide +kernel
theorem dX12_undo_48 : decode cX12_undo 48 = .ok (.iconst 5, 1) := by decide +kernel
theorem dX12_undo_49 : decode cX12_undo 49 = .ok (.iaload, 1) := by decide +kernel
theorem dX12_undo_50 : decode cX12_undo 50 = .ok (.invokestatic 155, 3) := by decide +kernel
theorem dX12_undo_53 : decode cX12_undo 53 = .ok (.ireturn, 1) := by decide +kernel
theorem dX12_of_0 : decode cX12_of 0 = .ok (.aload_n 0, 1) := by decide +kernel
theorem dX12_of_1 : decode cX12_of 1 = .ok (.iload_n 1, 1) := by decide +kernel
theorem dX12_of_2 : decode cX12_of 2 = .ok (.invokevirtual 67, 3) := by decide +kernel
theorem dX12_of_5 : decode cX12_of 5 = .ok (.ifCond .eq 15, 3) := by decide +kernel
theorem dX12_of_8 : decode cX12_of 8 = .ok (.iload_n 2, 1) := by decide +kernel
theorem dX12_of_9 : decode cX12_of 9 = .ok (.i2l, 1) := by decide +kernel
theorem dX12_of_10 : decode cX12_of 10 = .ok (.lconst 0, 1) := by decide +kernel
theorem dX12_of_11 : decode cX12_of 11 = .ok (.ldc2_w 158, 3) := by decide +kernel
theorem dX12_of_14 : decode cX12_of 14 = .ok (.invokestatic 34, 3) := by decide +kernel
theorem dX12_of_17 : decode cX12_of 17 = .ok (.ifCond .ne 8, 3) := by decide +kernel
theorem dX12_of_20 : decode cX12_of 20 = .ok (.aload_n 0, 1) := by decide +kernel
theorem dX12_of_21 : decode cX12_of 21 = .ok (.invokevirtual 44, 3) := by decide +kernel
theorem dX12_of_24 : decode cX12_of 24 = .ok (.ireturn, 1) := by decide +kernel
theorem dX12_of_25 : decode cX12_of 25 = .ok (.iload_n 2, 1) := by decide +kernel
theorem dX12_of_26 : decode cX12_of 26 = .ok (.bipush 6, 2) := by decide +kernel
theorem dX12_of_28 : decode cX12_of 28 = .ok (.if_icmp .ge 18, 3) := by decide +kernel
theorem dX12_of_31 : decode cX12_of 31 = .ok (.aload_n 0, 1) := by decide +kernel
theorem dX12_of_32 : decode cX12_of 32 = .ok (.getfield 7, 3) := by decide +kernel
theorem dX12_of_35 : decode cX12_of 35 = .ok (.bipush 6, 2) := by decide +kernel
theorem dX12_of_37 : decode cX12_of 37 = .ok (.bipush 8, 2) := by decide +kernel
theorem dX12_of_39 : decode cX12_of 39 = .ok (.iload_n 2, 1) := by decide +kernel
theorem dX12_of_40 : decode cX12_of 40 = .ok (.imul, 1) := by decide +kernel
theorem dX12_of_41 : decode cX12_of 41 = .ok (.iadd, 1) := by decide +kernel
theorem dX12_of_42 : decode cX12_of 42 = .ok (.iload_n 1, 1) := by decide +kernel
theorem dX12_of_43 : decode cX12_of 43 = .ok (.iadd, 1) := by decide +kernel
theorem dX12_of_44 : decode cX12_of 44 = .ok (.iaload, 1) := by decide +kernel
theorem dX12_of_45 : decode cX12_of 45 = .ok (.ireturn, 1) := by decide +kernel
theorem dX12_of_46 : decode cX12_of 46 = .ok (.iload_n 2, 1) := by decide +kernel
theorem dX12_of_47 : decode cX12_of 47 = .ok (.bipush 6, 2) := by decide +kernel
theorem dX12_of_49 : decode cX12_of 49 = .ok (.if_icmp .ne 19, 3) := by decide +kernel
theorem dX12_of_52 : decode cX12_of 52 = .ok (.aload_n 0, 1) := by decide +kernel
theorem dX12_of_53 : decode cX12_of 53 = .ok (.getfield 7, 3) := by decide +kernel
theorem dX12_of_56 : decode cX12_of 56 = .ok (.iconst 5, 1) := by decide +kernel
theorem dX12_of_57 : decode cX12_of 57 = .ok (.iaload, 1) := by decide +kernel
theorem dX12_of_58 : decode cX12_of 58 = .ok (.iload_n 1, 1) := by decide +kernel
theorem dX12_of_59 : decode cX12_of 59 = .ok (.invokestatic 70, 3) := by decide +kernel
theorem dX12_of_62 : decode cX12_of 62 = .ok (.ifCond .eq 18, 3) := by decide +kernel
theorem dX12_of_65 : decode cX12_of 65 = .ok (.goto 11, 3) := by decide +kernel
theorem dX12_of_68 : decode cX12_of 68 = .ok (.aload_n 0, 1) := by decide +kernel
theorem dX12_of_69 : decode cX12_of 69 = .ok (.iload_n 1, 1) := by decide +kernel
theorem dX12_of_70 : decode cX12_of 70 = .ok (.invokevirtual 149, 3) := by decide +kernel
theorem dX12_of_73 : decode cX12_of 73 = .ok (.ifCond .eq 7, 3) := by decide +kernel
theorem dX12_of_76 : decode cX12_of 76 = .ok (.iconst 1, 1) := by decide +kernel
theorem dX12_of_77 : decode cX12_of 77 = .ok (.goto 4, 3) := by decide +kernel
theorem dX12_of_80 : decode cX12_of 80 = .ok (.iconst 0, 1) := by decide +kernel
theorem dX12_of_81 : decode cX12_of 81 = .ok (.ireturn, 1) := by decide +kernel
theorem dX12_heavyOf_0 : decode cX12_heavyOf 0 = .ok (.iconst 0, 1) := by decide +kernel
theorem dX12_heavyOf_1 : decode cX12_heavyOf 1 = .ok (.istore_n 2, 1) := by decide +kernel
theorem dX12_heavyOf_2 : decode cX12_heavyOf 2 = .ok (.iconst 0, 1) := by decide +kernel
theorem dX12_heavyOf_3 : decode cX12_heavyOf 3 = .ok (.istore_n 3, 1) := by decide +kernel
theorem dX12_heavyOf_4 : decode cX12_heavyOf 4 = .ok (.iload_n 3, 1) := by decide +kernel
theorem dX12_heavyOf_5 : decode cX12_heavyOf 5 = .ok (.aload_n 0, 1) := by decide +kernel
theorem dX12_heavyOf_6 : decode cX12_heavyOf 6 = .ok (.getfield 7, 3) := by decide +kernel
theorem dX12_heavyOf_9 : decode cX12_heavyOf 9 = .ok (.iconst 0, 1) := by decide +kernel
theorem dX12_heavyOf_10 : decode cX12_heavyOf 10 = .ok (.iaload, 1) := by decide +kernel
theorem dX12_heavyOf_11 : decode cX12_heavyOf 11 = .ok (.if_icmp .ge 33, 3) := by decide +kernel
theorem dX12_heavyOf_14 : decode cX12_heavyOf 14 = .ok (.iload_n 2, 1) := by decide +kernel
theorem dX12_heavyOf_15 : decode cX12_heavyOf 15 = .ok (.iload_n 1, 1) := by decide +kernel
theorem dX12_heavyOf_16 : decode cX12_heavyOf 16 = .ok (.iload_n 3, 1) := by decide +kernel
theorem dX12_heavyOf_17 : decode cX12_heavyOf 17 = .ok (.invokestatic 70, 3) := by decide +kernel
theorem dX12_heavyOf_20 : decode cX12_heavyOf 20 = .ok (.ifCond .eq 15, 3) := by decide +kernel
theorem dX12_heavyOf_23 : decode cX12_heavyOf 23 = .ok (.aload_n 0, 1) := by decide +kernel
theorem dX12_heavyOf_24 : decode cX12_heavyOf 24 = .ok (.getfield 7, 3) := by decide +kernel
theorem dX12_heavyOf_27 : decode cX12_heavyOf 27 = .ok (.bipush 30, 2) := by decide +kernel
theorem dX12_heavyOf_29 : decode cX12_heavyOf 29 = .ok (.iload_n 3, 1) := by decide +kernel
theorem dX12_heavyOf_30 : decode cX12_heavyOf 30 = .ok (.iadd, 1) := by decide +kernel
theorem dX12_heavyOf_31 : decode cX12_heavyOf 31 = .ok (.iaload, 1) := by decide +kernel
theorem dX12_heavyOf_32 : decode cX12_heavyOf 32 = .ok (.goto 4, 3) := by decide +kernel
theorem dX12_heavyOf_35 : decode cX12_heavyOf 35 = .ok (.iconst 0, 1) := by decide +kernel
theorem dX12_heavyOf_36 : decode cX12_heavyOf 36 = .ok (.iadd, 1) := by decide +kernel
theorem dX12_heavyOf_37 : decode cX12_heavyOf 37 = .ok (.istore_n 2, 1) := by decide +kernel
theorem dX12_heavyOf_38 : decode cX12_heavyOf 38 = .ok (.iinc 3 1, 3) := by decide +kernel
theorem dX12_heavyOf_41 : decode cX12_heavyOf 41 = .ok (.goto (-37), 3) := by decide +kernel
theorem dX12_heavyOf_44 : decode cX12_heavyOf 44 = .ok (.iload_n 2, 1) := by decide +kernel
theorem dX12_heavyOf_45 : decode cX12_heavyOf 45 = .ok (.ireturn, 1) := by decide +kernel
theorem dX12_worthOf_0 : decode cX12_worthOf 0 = .ok (.iconst 0, 1) := by decide +kernel
theorem dX12_worthOf_1 : decode cX12_worthOf 1 = .ok (.istore_n 2, 1) := by decide +kernel
theorem dX12_worthOf_2 : decode cX12_worthOf 2 = .ok (.iconst 0, 1) := by decide +kernel
theorem dX12_worthOf_3 : decode cX12_worthOf 3 = .ok (.istore_n 3, 1) := by decide +kernel
theorem dX12_worthOf_4 : decode cX12_worthOf 4 = .ok (.iload_n 3, 1) := by decide +kernel
theorem dX12_worthOf_5 : decode cX12_worthOf 5 = .ok (.aload_n 0, 1) := by decide +kernel
theorem dX12_worthOf_6 : decode cX12_worthOf 6 = .ok (.getfield 7, 3) := by decide +kernel
theorem dX12_worthOf_9 : decode cX12_worthOf 9 = .ok (.iconst 0, 1) := by decide +kernel
theorem dX12_worthOf_10 : decode cX12_worthOf 10 = .ok (.iaload, 1) := by decide +kernel
theorem dX12_worthOf_11 : decode cX12_worthOf 11 = .ok (.if_icmp .ge 33, 3) := by decide +kernel
theorem dX12_worthOf_14 : decode cX12_worthOf 14 = .ok (.iload_n 2, 1) := by decide +kernel
theorem dX12_worthOf_15 : decode cX12_worthOf 15 = .ok (.iload_n 1, 1) := by decide +kernel
theorem dX12_worthOf_16 : decode cX12_worthOf 16 = .ok (.iload_n 3, 1) := by decide +kernel
theorem dX12_worthOf_17 : decode cX12_worthOf 17 = .ok (.invokestatic 70, 3) := by decide +kernel
theorem dX12_worthOf_20 : decode cX12_worthOf 20 = .ok (.ifCond .eq 15, 3) := by decide +kernel
theorem dX12_worthOf_23 : decode cX12_worthOf 23 = .ok (.aload_n 0, 1) := by decide +kernel
theorem dX12_worthOf_24 : decode cX12_worthOf 24 = .ok (.getfield 7, 3) := by decide +kernel
theorem dX12_worthOf_27 : decode cX12_worthOf 27 = .ok (.bipush 38, 2) := by decide +kernel
theorem dX12_worthOf_29 : decode cX12_worthOf 29 = .ok (.iload_n 3, 1) := by decide +kernel
theorem dX12_worthOf_30 : decode cX12_worthOf 30 = .ok (.iadd, 1) := by decide +kernel
theorem dX12_worthOf_31 : decode cX12_worthOf 31 = .ok (.iaload, 1) := by decide +kernel
theorem dX12_worthOf_32 : decode cX12_worthOf 32 = .ok (.goto 4, 3) := by decide +kernel
theorem dX12_worthOf_35 : decode cX12_worthOf 35 = .ok (.iconst 0, 1) := by decide +kernel
theorem dX12_worthOf_36 : decode cX12_worthOf 36 = .ok (.iadd, 1) := by decide +kernel
theorem dX12_worthOf_37 : decode cX12_worthOf 37 = .ok (.istore_n 2, 1) := by decide +kernel
theorem dX12_worthOf_38 : decode cX12_worthOf 38 = .ok (.iinc 3 1, 3) := by decide +kernel
theorem dX12_worthOf_41 : decode cX12_worthOf 41 = .ok (.goto (-37), 3) := by decide +kernel
theorem dX12_worthOf_44 : decode cX12_worthOf 44 = .ok (.iload_n 2, 1) := by decide +kernel
theorem dX12_worthOf_45 : decode cX12_worthOf 45 = .ok (.ireturn, 1) := by decide +kernel
theorem dX12_isAlive_0 : decode cX12_isAlive 0 = .ok (.aload_n 0, 1) := by decide +kernel
theorem dX12_isAlive_1 : decode cX12_isAlive 1 = .ok (.iload_n 1, 1) := by decide +kernel
theorem dX12_isAlive_2 : decode cX12_isAlive 2 = .ok (.invokevirtual 160, 3) := by decide +kernel
theorem dX12_isAlive_5 : decode cX12_isAlive 5 = .ok (.aload_n 0, 1) := by decide +kernel
theorem dX12_isAlive_6 : decode cX12_isAlive 6 = .ok (.getfield 7, 3) := by decide +kernel
theorem dX12_isAlive_9 : decode cX12_isAlive 9 = .ok (.iconst 2, 1) := by decide +kernel
theorem dX12_isAlive_10 : decode cX12_isAlive 10 = .ok (.iaload, 1) := by decide +kernel
theorem dX12_isAlive_11 : decode cX12_isAlive 11 = .ok (.iload_n 2, 1) := by decide +kernel
theorem dX12_isAlive_12 : decode cX12_isAlive 12 = .ok (.isub, 1) := by decide +kernel
theorem dX12_isAlive_13 : decode cX12_isAlive 13 = .ok (.if_icmp .gt 7, 3) := by decide +kernel
theorem dX12_isAlive_16 : decode cX12_isAlive 16 = .ok (.iconst 1, 1) := by decide +kernel
theorem dX12_isAlive_17 : decode cX12_isAlive 17 = .ok (.goto 4, 3) := by decide +kernel
theorem dX12_isAlive_20 : decode cX12_isAlive 20 = .ok (.iconst 0, 1) := by decide +kernel
theorem dX12_isAlive_21 : decode cX12_isAlive 21 = .ok (.ireturn, 1) := by decide +kernel
theorem dX12_lives_0 : decode cX12_lives 0 = .ok (.iload_n 1, 1) := by decide +kernel
theorem dX12_lives_1 : decode cX12_lives 1 = .ok (.invokestatic 163, 3) := by decide +kernel
theorem dX12_lives_4 : decode cX12_lives 4 = .ok (.ifCond .ne 8, 3) := by decide +kernel
theorem dX12_lives_7 : decode cX12_lives 7 = .ok (.aload_n 0, 1) := by decide +kernel
theorem dX12_lives_8 : decode cX12_lives 8 = .ok (.invokevirtual 44, 3) := by decide +kernel
theorem dX12_lives_11 : decode cX12_lives 11 = .ok (.ireturn, 1) := by decide +kernel
theorem dX12_lives_12 : decode cX12_lives 12 = .ok (.aload_n 0, 1) := by decide +kernel
theorem dX12_lives_13 : decode cX12_lives 13 = .ok (.aload_n 0, 1) := by decide +kernel
theorem dX12_lives_14 : decode cX12_lives 14 = .ok (.getfield 7, 3) := by decide +kernel
theorem dX12_lives_17 : decode cX12_lives 17 = .ok (.iconst 5, 1) := by decide +kernel
theorem dX12_lives_18 : decode cX12_lives 18 = .ok (.iaload, 1) := by decide +kernel
theorem dX12_lives_19 : decode cX12_lives 19 = .ok (.iload_n 1, 1) := by decide +kernel
theorem dX12_lives_20 : decode cX12_lives 20 = .ok (.invokevirtual 166, 3) := by decide +kernel
theorem dX12_lives_23 : decode cX12_lives 23 = .ok (.ifCond .eq 7, 3) := by decide +kernel
theorem dX12_lives_26 : decode cX12_lives 26 = .ok (.iconst 1, 1) := by decide +kernel
theorem dX12_lives_27 : decode cX12_lives 27 = .ok (.goto 4, 3) := by decide +kernel
theorem dX12_lives_30 : decode cX12_lives 30 = .ok (.iconst 0, 1) := by decide +kernel
theorem dX12_lives_31 : decode cX12_lives 31 = .ok (.ireturn, 1) := by decide +kernel
theorem dX12_now_0 : decode cX12_now 0 = .ok (.iload_n 1, 1) := by decide +kernel
theorem dX12_now_1 : decode cX12_now 1 = .ok (.tableswitch 65 0 3 #[31, 37, 43, 54], 31) := by decide +kernel
theorem dX12_now_32 : decode cX12_now 32 = .ok (.aload_n 0, 1) := by decide +kernel
theorem dX12_now_33 : decode cX12_now 33 = .ok (.iconst (-1), 1) := by decide +kernel
theorem dX12_now_34 : decode cX12_now 34 = .ok (.invokevirtual 169, 3) := by decide +kernel
theorem dX12_now_37 : decode cX12_now 37 = .ok (.ireturn, 1) := by decide +kernel
theorem dX12_now_38 : decode cX12_now 38 = .ok (.aload_n 0, 1) := by decide +kernel
theorem dX12_now_39 : decode cX12_now 39 = .ok (.iconst (-1), 1) := by decide +kernel
theorem dX12_now_40 : decode cX12_now 40 = .ok (.invokevirtual 172, 3) := by decide +kernel
theorem dX12_now_43 : decode cX12_now 43 = .ok (.ireturn, 1) := by decide +kernel
theorem dX12_now_44 : decode cX12_now 44 = .ok (.aload_n 0, 1) := by decide +kernel
theorem dX12_now_45 : decode cX12_now 45 = .ok (.aload_n 0, 1) := by decide +kernel
theorem dX12_now_46 : decode cX12_now 46 = .ok (.getfield 7, 3) := by decide +kernel
theorem dX12_now_49 : decode cX12_now 49 = .ok (.iconst 5, 1) := by decide +kernel
theorem dX12_now_50 : decode cX12_now 50 = .ok (.iaload, 1) := by decide +kernel
theorem dX12_now_51 : decode cX12_now 51 = .ok (.invokevirtual 160, 3) := by decide +kernel
theorem dX12_now_54 : decode cX12_now 54 = .ok (.ireturn, 1) := by decide +kernel
theorem dX12_now_55 : decode cX12_now 55 = .ok (.aload_n 0, 1) := by decide +kernel
theorem dX12_now_56 : decode cX12_now 56 = .ok (.aload_n 0, 1) := by decide +kernel
theorem dX12_now_57 : decode cX12_now 57 = .ok (.getfield 7, 3) := by decide +kernel
theorem dX12_now_60 : decode cX12_now 60 = .ok (.iconst 5, 1) := by decide +kernel
theorem dX12_now_61 : decode cX12_now 61 = .ok (.iaload, 1) := by decide +kernel
theorem dX12_now_62 : decode cX12_now 62 = .ok (.invokevirtual 175, 3) := by decide +kernel
theorem dX12_now_65 : decode cX12_now 65 = .ok (.ireturn, 1) := by decide +kernel
theorem dX12_now_66 : decode cX12_now 66 = .ok (.aload_n 0, 1) := by decide +kernel
theorem dX12_now_67 : decode cX12_now 67 = .ok (.invokevirtual 44, 3) := by decide +kernel
theorem dX12_now_70 : decode cX12_now 70 = .ok (.ireturn, 1) := by decide +kernel
theorem dX12_tellsPart_0 : decode cX12_tellsPart 0 = .ok (.lload_n 1, 1) := by decide +kernel
theorem dX12_tellsPart_1 : decode cX12_tellsPart 1 = .ok (.lconst 0, 1) := by decide +kernel
theorem dX12_tellsPart_2 : decode cX12_tellsPart 2 = .ok (.lcmp, 1) := by decide +kernel
theorem dX12_tellsPart_3 : decode cX12_tellsPart 3 = .ok (.ifCond .ge 8, 3) := by decide +kernel
theorem dX12_tellsPart_6 : decode cX12_tellsPart 6 = .ok (.lload_n 1, 1) := by decide +kernel
theorem dX12_tellsPart_7 : decode cX12_tellsPart 7 = .ok (.lneg, 1) := by decide +kernel
theorem dX12_tellsPart_8 : decode cX12_tellsPart 8 = .ok (.goto 4, 3) := by decide +kernel
theorem dX12_tellsPart_11 : decode cX12_tellsPart 11 = .ok (.lload_n 1, 1) := by decide +kernel
theorem dX12_tellsPart_12 : decode cX12_tellsPart 12 = .ok (.lstore 5, 2) := by decide +kernel
theorem dX12_tellsPart_14 : decode cX12_tellsPart 14 = .ok (.lload_n 3, 1) := by decide +kernel
theorem dX12_tellsPart_15 : decode cX12_tellsPart 15 = .ok (.lstore 7, 2) := by decide +kernel
theorem dX12_tellsPart_17 : decode cX12_tellsPart 17 = .ok (.lload 7, 2) := by decide +kernel
theorem dX12_tellsPart_19 : decode cX12_tellsPart 19 = .ok (.lconst 0, 1) := by decide +kernel
theorem dX12_tellsPart_20 : decode cX12_tellsPart 20 = .ok (.lcmp, 1) := by decide +kernel
theorem dX12_tellsPart_21 : decode cX12_tellsPart 21 = .ok (.ifCond .eq 21, 3) := by decide +kernel
theorem dX12_tellsPart_24 : decode cX12_tellsPart 24 = .ok (.lload 5, 2) := by decide +kernel
theorem dX12_tellsPart_26 : decode cX12_tellsPart 26 = .ok (.lload 7, 2) := by decide +kernel
theorem dX12_tellsPart_28 : decode cX12_tellsPart 28 = .ok (.lrem, 1) := by decide +kernel
theorem dX12_tellsPart_29 : decode cX12_tellsPart 29 = .ok (.lstore 9, 2) := by decide +kernel
theorem dX12_tellsPart_31 : decode cX12_tellsPart 31 = .ok (.lload 7, 2) := by decide +kernel
theorem dX12_tellsPart_33 : decode cX12_tellsPart 33 = .ok (.lstore 5, 2) := by decide +kernel
theorem dX12_tellsPart_35 : decode cX12_tellsPart 35 = .ok (.lload 9, 2) := by decide +kernel
theorem dX12_tellsPart_37 : decode cX12_tellsPart 37 = .ok (.lstore 7, 2) := by decide +kernel
theorem dX12_tellsPart_39 : decode cX12_tellsPart 39 = .ok (.goto (-22), 3) := by decide +kernel
theorem dX12_tellsPart_42 : decode cX12_tellsPart 42 = .ok (.aload_n 0, 1) := by decide +kernel
theorem dX12_tellsPart_43 : decode cX12_tellsPart 43 = .ok (.lload_n 1, 1) := by decide +kernel
theorem dX12_tellsPart_44 : decode cX12_tellsPart 44 = .ok (.lload 5, 2) := by decide +kernel
theorem dX12_tellsPart_46 : decode cX12_tellsPart 46 = .ok (.ldiv, 1) := by decide +kernel
theorem dX12_tellsPart_47 : decode cX12_tellsPart 47 = .ok (.putfield 178, 3) := by decide +kernel
theorem dX12_tellsPart_50 : decode cX12_tellsPart 50 = .ok (.aload_n 0, 1) := by decide +kernel
theorem dX12_tellsPart_51 : decode cX12_tellsPart 51 = .ok (.lload_n 3, 1) := by decide +kernel
theorem dX12_tellsPart_52 : decode cX12_tellsPart 52 = .ok (.lload 5, 2) := by decide +kernel
theorem dX12_tellsPart_54 : decode cX12_tellsPart 54 = .ok (.ldiv, 1) := by decide +kernel
theorem dX12_tellsPart_55 : decode cX12_tellsPart 55 = .ok (.putfield 23, 3) := by decide +kernel
theorem dX12_tellsPart_58 : decode cX12_tellsPart 58 = .ok (.iconst 1, 1) := by decide +kernel
theorem dX12_tellsPart_59 : decode cX12_tellsPart 59 = .ok (.ireturn, 1) := by decide +kernel
theorem dX12_whole_0 : decode cX12_whole 0 = .ok (.aload_n 0, 1) := by decide +kernel
theorem dX12_whole_1 : decode cX12_whole 1 = .ok (.iconst (-1), 1) := by decide +kernel
theorem dX12_whole_2 : decode cX12_whole 2 = .ok (.invokevirtual 172, 3) := by decide +kernel
theorem dX12_whole_5 : decode cX12_whole 5 = .ok (.istore_n 1, 1) := by decide +kernel
theorem dX12_whole_6 : decode cX12_whole 6 = .ok (.iload_n 1, 1) := by decide +kernel
theorem dX12_whole_7 : decode cX12_whole 7 = .ok (.ifCond .ne 7, 3) := by decide +kernel
theorem dX12_whole_10 : decode cX12_whole 10 = .ok (.iconst 1, 1) := by decide +kernel
theorem dX12_whole_11 : decode cX12_whole 11 = .ok (.goto 4, 3) := by decide +kernel
theorem dX12_whole_14 : decode cX12_whole 14 = .ok (.iload_n 1, 1) := by decide +kernel
theorem dX12_whole_15 : decode cX12_whole 15 = .ok (.ireturn, 1) := by decide +kernel
theorem dX12_share_0 : decode cX12_share 0 = .ok (.iload_n 1, 1) := by decide +kernel
theorem dX12_share_1 : decode cX12_share 1 = .ok (.i2l, 1) := by decide +kernel
theorem dX12_share_2 : decode cX12_share 2 = .ok (.lconst 0, 1) := by decide +kernel
theorem dX12_share_3 : decode cX12_share 3 = .ok (.ldc2_w 181, 3) := by decide +kernel
theorem dX12_share_6 : decode cX12_share 6 = .ok (.invokestatic 34, 3) := by decide +kernel
theorem dX12_share_9 : decode cX12_share 9 = .ok (.ifCond .ne 8, 3) := by decide +kernel
theorem dX12_share_12 : decode cX12_share 12 = .ok (.aload_n 0, 1) := by decide +kernel
theorem dX12_share_13 : decode cX12_share 13 = .ok (.invokevirtual 44, 3) := by decide +kernel
theorem dX12_share_16 : decode cX12_share 16 = .ok (.ireturn, 1) := by decide +kernel
theorem dX12_share_17 : decode cX12_share 17 = .ok (.aload_n 0, 1) := by decide +kernel
theorem dX12_share_18 : decode cX12_share 18 = .ok (.aload_n 0, 1) := by decide +kernel
theorem dX12_share_19 : decode cX12_share 19 = .ok (.iconst (-1), 1) := by decide +kernel
theorem dX12_share_20 : decode cX12_share 20 = .ok (.invokevirtual 169, 3) := by decide +kernel
theorem dX12_share_23 : decode cX12_share 23 = .ok (.i2l, 1) := by decide +kernel
theorem dX12_share_24 : decode cX12_share 24 = .ok (.aload_n 0, 1) := by decide +kernel
theorem dX12_share_25 : decode cX12_share 25 = .ok (.iload_n 1, 1) := by decide +kernel
theorem dX12_share_26 : decode cX12_share 26 = .ok (.invokevirtual 172, 3) := by decide +kernel
theorem dX12_share_29 : decode cX12_share 29 = .ok (.i2l, 1) := by decide +kernel
theorem dX12_share_30 : decode cX12_share 30 = .ok (.lmul, 1) := by decide +kernel
theorem dX12_share_31 : decode cX12_share 31 = .ok (.aload_n 0, 1) := by decide +kernel
theorem dX12_share_32 : decode cX12_share 32 = .ok (.invokevirtual 183, 3) := by decide +kernel
theorem dX12_share_35 : decode cX12_share 35 = .ok (.i2l, 1) := by decide +kernel
theorem dX12_share_36 : decode cX12_share 36 = .ok (.invokevirtual 186, 3) := by decide +kernel
theorem dX12_share_39 : decode cX12_share 39 = .ok (.ireturn, 1) := by decide +kernel
theorem dX12_netOf_0 : decode cX12_netOf 0 = .ok (.aload_n 0, 1) := by decide +kernel
theorem dX12_netOf_1 : decode cX12_netOf 1 = .ok (.iconst (-1), 1) := by decide +kernel
theorem dX12_netOf_2 : decode cX12_netOf 2 = .ok (.invokevirtual 169, 3) := by decide +kernel
theorem dX12_netOf_5 : decode cX12_netOf 5 = .ok (.i2l, 1) := by decide +kernel
theorem dX12_netOf_6 : decode cX12_netOf 6 = .ok (.aload_n 0, 1) := by decide +kernel
theorem dX12_netOf_7 : decode cX12_netOf 7 = .ok (.iload_n 1, 1) := by decide +kernel
theorem dX12_netOf_8 : decode cX12_netOf 8 = .ok (.invokevirtual 172, 3) := by decide +kernel
theorem dX12_netOf_11 : decode cX12_netOf 11 = .ok (.i2l, 1) := by decide +kernel
theorem dX12_netOf_12 : decode cX12_netOf 12 = .ok (.lmul, 1) := by decide +kernel
theorem dX12_netOf_13 : decode cX12_netOf 13 = .ok (.aload_n 0, 1) := by decide +kernel
theorem dX12_netOf_14 : decode cX12_netOf 14 = .ok (.iload_n 1, 1) := by decide +kernel
theorem dX12_netOf_15 : decode cX12_netOf 15 = .ok (.invokevirtual 169, 3) := by decide +kernel
theorem dX12_netOf_18 : decode cX12_netOf 18 = .ok (.i2l, 1) := by decide +kernel
theorem dX12_netOf_19 : decode cX12_netOf 19 = .ok (.aload_n 0, 1) := by decide +kernel
theorem dX12_netOf_20 : decode cX12_netOf 20 = .ok (.invokevirtual 183, 3) := by decide +kernel
theorem dX12_netOf_23 : decode cX12_netOf 23 = .ok (.i2l, 1) := by decide +kernel
theorem dX12_netOf_24 : decode cX12_netOf 24 = .ok (.lmul, 1) := by decide +kernel
theorem dX12_netOf_25 : decode cX12_netOf 25 = .ok (.lsub, 1) := by decide +kernel
theorem dX12_netOf_26 : decode cX12_netOf 26 = .ok (.lreturn, 1) := by decide +kernel
theorem dX12_net_0 : decode cX12_net 0 = .ok (.iload_n 1, 1) := by decide +kernel
theorem dX12_net_1 : decode cX12_net 1 = .ok (.invokestatic 50, 3) := by decide +kernel
theorem dX12_net_4 : decode cX12_net 4 = .ok (.ifCond .eq 20, 3) := by decide +kernel
theorem dX12_net_7 : decode cX12_net 7 = .ok (.aload_n 0, 1) := by decide +kernel
theorem dX12_net_8 : decode cX12_net 8 = .ok (.aload_n 0, 1) := by decide +kernel
theorem dX12_net_9 : decode cX12_net 9 = .ok (.iload_n 1, 1) := by decide +kernel
theorem dX12_net_10 : decode cX12_net 10 = .ok (.invokevirtual 190, 3) := by decide +kernel
theorem dX12_net_13 : decode cX12_net 13 = .ok (.aload_n 0, 1) := by decide +kernel
theorem dX12_net_14 : decode cX12_net 14 = .ok (.invokevirtual 183, 3) := by decide +kernel
theorem dX12_net_17 : decode cX12_net 17 = .ok (.i2l, 1) := by decide +kernel
theorem dX12_net_18 : decode cX12_net 18 = .ok (.invokevirtual 186, 3) := by decide +kernel
theorem dX12_net_21 : decode cX12_net 21 = .ok (.goto 7, 3) := by decide +kernel
theorem dX12_net_24 : decode cX12_net 24 = .ok (.aload_n 0, 1) := by decide +kernel
theorem dX12_net_25 : decode cX12_net 25 = .ok (.invokevirtual 44, 3) := by decide +kernel
theorem dX12_net_28 : decode cX12_net 28 = .ok (.ireturn, 1) := by decide +kernel
theorem dX12_canGo_0 : decode cX12_canGo 0 = .ok (.iconst 1, 1) := by decide +kernel
theorem dX12_canGo_1 : decode cX12_canGo 1 = .ok (.istore 5, 2) := by decide +kernel
theorem dX12_canGo_3 : decode cX12_canGo 3 = .ok (.iconst 0, 1) := by decide +kernel
theorem dX12_canGo_4 : decode cX12_canGo 4 = .ok (.istore 6, 2) := by decide +kernel
theorem dX12_canGo_6 : decode cX12_canGo 6 = .ok (.iload 6, 2) := by decide +kernel
theorem dX12_canGo_8 : decode cX12_canGo 8 = .ok (.aload_n 0, 1) := by decide +kernel
theorem dX12_canGo_9 : decode cX12_canGo 9 = .ok (.getfield 7, 3) := by decide +kernel
theorem dX12_canGo_12 : decode cX12_canGo 12 = .ok (.iconst 0, 1) := by decide +kernel
theorem dX12_canGo_13 : decode cX12_canGo 13 = .ok (.iaload, 1) := by decide +kernel
theorem dX12_canGo_14 : decode cX12_canGo 14 = .ok (.if_icmp .ge 53, 3) := by decide +kernel
theorem dX12_canGo_17 : decode cX12_canGo 17 = .ok (.iload 5, 2) := by decide +kernel
theorem dX12_canGo_19 : decode cX12_canGo 19 = .ok (.ifCond .eq 39, 3) := by decide +kernel
theorem dX12_canGo_22 : decode cX12_canGo 22 = .ok (.iload_n 2, 1) := by decide +kernel
theorem dX12_canGo_23 : decode cX12_canGo 23 = .ok (.iload 6, 2) := by decide +kernel
theorem dX12_canGo_25 : decode cX12_canGo 25 = .ok (.invokestatic 70, 3) := by decide +kernel
theorem dX12_canGo_28 : decode cX12_canGo 28 = .ok (.ifCond .eq 26, 3) := by decide +kernel
theorem dX12_canGo_31 : decode cX12_canGo 31 = .ok (.aload_n 0, 1) := by decide +kernel
theorem dX12_canGo_32 : decode cX12_canGo 32 = .ok (.iconst 0, 1) := by decide +kernel
theorem dX12_canGo_33 : decode cX12_canGo 33 = .ok (.iload_n 1, 1) := by decide +kernel
theorem dX12_canGo_34 : decode cX12_canGo 34 = .ok (.iload_n 2, 1) := by decide +kernel
theorem dX12_canGo_35 : decode cX12_canGo 35 = .ok (.iconst (-1), 1) := by decide +kernel
theorem dX12_canGo_36 : decode cX12_canGo 36 = .ok (.ixor, 1) := by decide +kernel
theorem dX12_canGo_37 : decode cX12_canGo 37 = .ok (.iand, 1) := by decide +kernel
theorem dX12_canGo_38 : decode cX12_canGo 38 = .ok (.iconst 1, 1) := by decide +kernel
theorem dX12_canGo_39 : decode cX12_canGo 39 = .ok (.iload 6, 2) := by decide +kernel
theorem dX12_canGo_41 : decode cX12_canGo 41 = .ok (.ishl, 1) := by decide +kernel
theorem dX12_canGo_42 : decode cX12_canGo 42 = .ok (.ior, 1) := by decide +kernel
theorem dX12_canGo_43 : decode cX12_canGo 43 = .ok (.iload 6, 2) := by decide +kernel
theorem dX12_canGo_45 : decode cX12_canGo 45 = .ok (.iload_n 3, 1) := by decide +kernel
theorem dX12_canGo_46 : decode cX12_canGo 46 = .ok (.iload 4, 2) := by decide +kernel
theorem dX12_canGo_48 : decode cX12_canGo 48 = .ok (.invokevirtual 74, 3) := by decide +kernel
theorem dX12_canGo_51 : decode cX12_canGo 51 = .ok (.ifCond .eq 7, 3) := by decide +kernel
theorem dX12_canGo_54 : decode cX12_canGo 54 = .ok (.iconst 1, 1) := by decide +kernel
theorem dX12_canGo_55 : decode cX12_canGo 55 = .ok (.goto 4, 3) := by decide +kernel
theorem dX12_canGo_58 : decode cX12_canGo 58 = .ok (.iconst 0, 1) := by decide +kernel
theorem dX12_canGo_59 : decode cX12_canGo 59 = .ok (.istore 5, 2) := by decide +kernel
theorem dX12_canGo_61 : decode cX12_canGo 61 = .ok (.iinc 6 1, 3) := by decide +kernel
theorem dX12_canGo_64 : decode cX12_canGo 64 = .ok (.goto (-58), 3) := by decide +kernel
theorem dX12_canGo_67 : decode cX12_canGo 67 = .ok (.iload 5, 2) := by decide +kernel
theorem dX12_canGo_69 : decode cX12_canGo 69 = .ok (.ireturn, 1) := by decide +kernel
theorem dX12_findLeast_0 : decode cX12_findLeast 0 = .ok (.aload_n 0, 1) := by decide +kernel
theorem dX12_findLeast_1 : decode cX12_findLeast 1 = .ok (.iconst (-1), 1) := by decide +kernel
theorem dX12_findLeast_2 : decode cX12_findLeast 2 = .ok (.putfield 194, 3) := by decide +kernel
theorem dX12_findLeast_5 : decode cX12_findLeast 5 = .ok (.aload_n 0, 1) := by decide +kernel
theorem dX12_findLeast_6 : decode cX12_findLeast 6 = .ok (.ldc 197, 2) := by decide +kernel
theorem dX12_findLeast_8 : decode cX12_findLeast 8 = .ok (.putfield 198, 3) := by decide +kernel
theorem dX12_findLeast_11 : decode cX12_findLeast 11 = .ok (.iconst 0, 1) := by decide +kernel
theorem dX12_findLeast_12 : decode cX12_findLeast 12 = .ok (.istore 5, 2) := by decide +kernel
theorem dX12_findLeast_14 : decode cX12_findLeast 14 = .ok (.iload 5, 2) := by decide +kernel
theorem dX12_findLeast_16 : decode cX12_findLeast 16 = .ok (.sipush 256, 3) := by decide +kernel
theorem dX12_findLeast_19 : decode cX12_findLeast 19 = .ok (.if_icmp .ge 129, 3) := by decide +kernel
theorem dX12_findLeast_22 : decode cX12_findLeast 22 = .ok (.iload 5, 2) := by decide +kernel
theorem dX12_findLeast_24 : decode cX12_findLeast 24 = .ok (.iload_n 1, 1) := by decide +kernel
theorem dX12_findLeast_25 : decode cX12_findLeast 25 = .ok (.iconst (-1), 1) := by decide +kernel
theorem dX12_findLeast_26 : decode cX12_findLeast 26 = .ok (.ixor, 1) := by decide +kernel
theorem dX12_findLeast_27 : decode cX12_findLeast 27 = .ok (.iand, 1) := by decide +kernel
theorem dX12_findLeast_28 : decode cX12_findLeast 28 = .ok (.ifCond .ne 114, 3) := by decide +kernel
theorem dX12_findLeast_31 : decode cX12_findLeast 31 = .ok (.aload_n 0, 1) := by decide +kernel
theorem dX12_findLeast_32 : decode cX12_findLeast 32 = .ok (.iload_n 1, 1) := by decide +kernel
theorem dX12_findLeast_33 : decode cX12_findLeast 33 = .ok (.iload 5, 2) := by decide +kernel
theorem dX12_findLeast_35 : decode cX12_findLeast 35 = .ok (.iconst (-1), 1) := by decide +kernel
theorem dX12_findLeast_36 : decode cX12_findLeast 36 = .ok (.ixor, 1) := by decide +kernel
theorem dX12_findLeast_37 : decode cX12_findLeast 37 = .ok (.iand, 1) := by decide +kernel
theorem dX12_findLeast_38 : decode cX12_findLeast 38 = .ok (.iload_n 2, 1) := by decide +kernel
theorem dX12_findLeast_39 : decode cX12_findLeast 39 = .ok (.invokevirtual 166, 3) := by decide +kernel
theorem dX12_findLeast_42 : decode cX12_findLeast 42 = .ok (.ifCond .eq 100, 3) := by decide +kernel
theorem dX12_findLeast_45 : decode cX12_findLeast 45 = .ok (.aload_n 0, 1) := by decide +kernel
theorem dX12_findLeast_46 : decode cX12_findLeast 46 = .ok (.iload_n 1, 1) := by decide +kernel
theorem dX12_findLeast_47 : decode cX12_findLeast 47 = .ok (.iload 5, 2) := by decide +kernel
theorem dX12_findLeast_49 : decode cX12_findLeast 49 = .ok (.iload_n 3, 1) := by decide +kernel
theorem dX12_findLeast_50 : decode cX12_findLeast 50 = .ok (.iload 4, 2) := by decide +kernel
theorem dX12_findLeast_52 : decode cX12_findLeast 52 = .ok (.invokevirtual 201, 3) := by decide +kernel
theorem dX12_findLeast_55 : decode cX12_findLeast 55 = .ok (.ifCond .eq 87, 3) := by decide +kernel
theorem dX12_findLeast_58 : decode cX12_findLeast 58 = .ok (.aload_n 0, 1) := by decide +kernel
theorem dX12_findLeast_59 : decode cX12_findLeast 59 = .ok (.iload 5, 2) := by decide +kernel
theorem dX12_findLeast_61 : decode cX12_findLeast 61 = .ok (.invokevirtual 175, 3) := by decide +kernel
theorem dX12_findLeast_64 : decode cX12_findLeast 64 = .ok (.istore 6, 2) := by decide +kernel
theorem dX12_findLeast_66 : decode cX12_findLeast 66 = .ok (.iload 6, 2) := by decide +kernel
theorem dX12_findLeast_68 : decode cX12_findLeast 68 = .ok (.aload_n 0, 1) := by decide +kernel
theorem dX12_findLeast_69 : decode cX12_findLeast 69 = .ok (.getfield 198, 3) := by decide +kernel
theorem dX12_findLeast_72 : decode cX12_findLeast 72 = .ok (.if_icmp .lt 27, 3) := by decide +kernel
theorem dX12_findLeast_75 : decode cX12_findLeast 75 = .ok (.iload 6, 2) := by decide +kernel
theorem dX12_findLeast_77 : decode cX12_findLeast 77 = .ok (.aload_n 0, 1) := by decide +kernel
theorem dX12_findLeast_78 : decode cX12_findLeast 78 = .ok (.getfield 198, 3) := by decide +kernel
theorem dX12_findLeast_81 : decode cX12_findLeast 81 = .ok (.if_icmp .ne 22, 3) := by decide +kernel
theorem dX12_findLeast_84 : decode cX12_findLeast 84 = .ok (.iload 5, 2) := by decide +kernel
theorem dX12_findLeast_86 : decode cX12_findLeast 86 = .ok (.invokestatic 155, 3) := by decide +kernel
theorem dX12_findLeast_89 : decode cX12_findLeast 89 = .ok (.aload_n 0, 1) := by decide +kernel
theorem dX12_findLeast_90 : decode cX12_findLeast 90 = .ok (.getfield 194, 3) := by decide +kernel
theorem dX12_findLeast_93 : decode cX12_findLeast 93 = .ok (.invokestatic 155, 3) := by decide +kernel
theorem dX12_findLeast_96 : decode cX12_findLeast 96 = .ok (.if_icmp .ge 7, 3) := by decide +kernel
theorem dX12_findLeast_99 : decode cX12_findLeast 99 = .ok (.iconst 1, 1) := by decide +kernel
theorem dX12_findLeast_100 : decode cX12_findLeast 100 = .ok (.goto 4, 3) := by decide +kernel
theorem dX12_findLeast_103 : decode cX12_findLeast 103 = .ok (.iconst 0, 1) := by decide +kernel
theorem dX12_findLeast_104 : decode cX12_findLeast 104 = .ok (.istore 7, 2) := by decide +kernel
theorem dX12_findLeast_106 : decode cX12_findLeast 106 = .ok (.aload_n 0, 1) := by decide +kernel
theorem dX12_findLeast_107 : decode cX12_findLeast 107 = .ok (.iload 7, 2) := by decide +kernel
theorem dX12_findLeast_109 : decode cX12_findLeast 109 = .ok (.ifCond .eq 8, 3) := by decide +kernel
theorem dX12_findLeast_112 : decode cX12_findLeast 112 = .ok (.iload 5, 2) := by decide +kernel
theorem dX12_findLeast_114 : decode cX12_findLeast 114 = .ok (.goto 7, 3) := by decide +kernel
theorem dX12_findLeast_117 : decode cX12_findLeast 117 = .ok (.aload_n 0, 1) := by decide +kernel
theorem dX12_findLeast_118 : decode cX12_findLeast 118 = .ok (.getfield 194, 3) := by decide +kernel
theorem dX12_findLeast_121 : decode cX12_findLeast 121 = .ok (.putfield 194, 3) := by decide +kernel
theorem dX12_findLeast_124 : decode cX12_findLeast 124 = .ok (.aload_n 0, 1) := by decide +kernel
theorem dX12_findLeast_125 : decode cX12_findLeast 125 = .ok (.iload 7, 2) := by decide +kernel
theorem dX12_findLeast_127 : decode cX12_findLeast 127 = .ok (.ifCond .eq 8, 3) := by decide +kernel
theorem dX12_findLeast_130 : decode cX12_findLeast 130 = .ok (.iload 6, 2) := by decide +kernel
theorem dX12_findLeast_132 : decode cX12_findLeast 132 = .ok (.goto 7, 3) := by decide +kernel
theorem dX12_findLeast_135 : decode cX12_findLeast 135 = .ok (.aload_n 0, 1) := by decide +kernel
theorem dX12_findLeast_136 : decode cX12_findLeast 136 = .ok (.getfield 198, 3) := by decide +kernel
theorem dX12_findLeast_139 : decode cX12_findLeast 139 = .ok (.putfield 198, 3) := by decide +kernel
theorem dX12_findLeast_142 : decode cX12_findLeast 142 = .ok (.iinc 5 1, 3) := by decide +kernel
theorem dX12_findLeast_145 : decode cX12_findLeast 145 = .ok (.goto (-131), 3) := by decide +kernel
theorem dX12_findLeast_148 : decode cX12_findLeast 148 = .ok (.return_, 1) := by decide +kernel
theorem dX12_least_0 : decode cX12_least 0 = .ok (.iload_n 1, 1) := by decide +kernel
theorem dX12_least_1 : decode cX12_least 1 = .ok (.invokestatic 163, 3) := by decide +kernel
theorem dX12_least_4 : decode cX12_least 4 = .ok (.ifCond .eq 9, 3) := by decide +kernel
theorem dX12_least_7 : decode cX12_least 7 = .ok (.iload_n 2, 1) := by decide +kernel
theorem dX12_least_8 : decode cX12_least 8 = .ok (.bipush (-2), 2) := by decide +kernel
theorem dX12_least_10 : decode cX12_least 10 = .ok (.if_icmp .ge 10, 3) := by decide +kernel
theorem dX12_least_13 : decode cX12_least 13 = .ok (.aload_n 0, 1) := by decide +kernel
theorem dX12_least_14 : decode cX12_least 14 = .ok (.bipush (-10), 2) := by decide +kernel
theorem dX12_least_16 : decode cX12_least 16 = .ok (.invokevirtual 205, 3) := by decide +kernel
theorem dX12_least_19 : decode cX12_least 19 = .ok (.ireturn, 1) := by decide +kernel
theorem dX12_least_20 : decode cX12_least 20 = .ok (.aload_n 0, 1) := by decide +kernel
theorem dX12_least_21 : decode cX12_least 21 = .ok (.aload_n 0, 1) := by decide +kernel
theorem dX12_least_22 : decode cX12_least 22 = .ok (.getfield 7, 3) := by decide +kernel
theorem dX12_least_25 : decode cX12_least 25 = .ok (.iconst 5, 1) := by decide +kernel
theorem dX12_least_26 : decode cX12_least 26 = .ok (.iaload, 1) := by decide +kernel
theorem dX12_least_27 : decode cX12_least 27 = .ok (.iload_n 1, 1) := by decide +kernel
theorem dX12_least_28 : decode cX12_least 28 = .ok (.iconst (-1), 1) := by decide +kernel
theorem dX12_least_29 : decode cX12_least 29 = .ok (.iconst 0, 1) := by decide +kernel
theorem dX12_least_30 : decode cX12_least 30 = .ok (.invokevirtual 208, 3) := by decide +kernel
theorem dX12_least_33 : decode cX12_least 33 = .ok (.aload_n 0, 1) := by decide +kernel
theorem dX12_least_34 : decode cX12_least 34 = .ok (.getfield 194, 3) := by decide +kernel
theorem dX12_least_37 : decode cX12_least 37 = .ok (.iconst (-1), 1) := by decide +kernel
theorem dX12_least_38 : decode cX12_least 38 = .ok (.if_icmp .ne 5, 3) := by decide +kernel
theorem dX12_least_41 : decode cX12_least 41 = .ok (.iconst (-1), 1) := by decide +kernel
theorem dX12_least_42 : decode cX12_least 42 = .ok (.ireturn, 1) := by decide +kernel
theorem dX12_least_43 : decode cX12_least 43 = .ok (.iload_n 2, 1) := by decide +kernel
theorem dX12_least_44 : decode cX12_least 44 = .ok (.ifCond .ge 21, 3) := by decide +kernel
theorem dX12_least_47 : decode cX12_least 47 = .ok (.iload_n 2, 1) := by decide +kernel
theorem dX12_least_48 : decode cX12_least 48 = .ok (.bipush (-2), 2) := by decide +kernel
theorem dX12_least_50 : decode cX12_least 50 = .ok (.if_icmp .ne 10, 3) := by decide +kernel
theorem dX12_least_53 : decode cX12_least 53 = .ok (.aload_n 0, 1) := by decide +kernel
theorem dX12_least_54 : decode cX12_least 54 = .ok (.getfield 194, 3) := by decide +kernel
theorem dX12_least_57 : decode cX12_least 57 = .ok (.goto 7, 3) := by decide +kernel
theorem dX12_least_60 : decode cX12_least 60 = .ok (.aload_n 0, 1) := by decide +kernel
theorem dX12_least_61 : decode cX12_least 61 = .ok (.getfield 198, 3) := by decide +kernel
theorem dX12_least_64 : decode cX12_least 64 = .ok (.ireturn, 1) := by decide +kernel
theorem dX12_least_65 : decode cX12_least 65 = .ok (.iload_n 2, 1) := by decide +kernel
theorem dX12_least_66 : decode cX12_least 66 = .ok (.aload_n 0, 1) := by decide +kernel
theorem dX12_least_67 : decode cX12_least 67 = .ok (.getfield 194, 3) := by decide +kernel
theorem dX12_least_70 : decode cX12_least 70 = .ok (.invokestatic 155, 3) := by decide +kernel
theorem dX12_least_73 : decode cX12_least 73 = .ok (.if_icmp .lt 6, 3) := by decide +kernel
theorem dX12_least_76 : decode cX12_least 76 = .ok (.bipush (-5), 2) := by decide +kernel
theorem dX12_least_78 : decode cX12_least 78 = .ok (.ireturn, 1) := by decide +kernel
theorem dX12_least_79 : decode cX12_least 79 = .ok (.aload_n 0, 1) := by decide +kernel
theorem dX12_least_80 : decode cX12_least 80 = .ok (.getfield 7, 3) := by decide +kernel
theorem dX12_least_83 : decode cX12_least 83 = .ok (.iconst 5, 1) := by decide +kernel
theorem dX12_least_84 : decode cX12_least 84 = .ok (.iaload, 1) := by decide +kernel
theorem dX12_least_85 : decode cX12_least 85 = .ok (.istore_n 3, 1) := by decide +kernel
theorem dX12_least_86 : decode cX12_least 86 = .ok (.aload_n 0, 1) := by decide +kernel
theorem dX12_least_87 : decode cX12_least 87 = .ok (.getfield 194, 3) := by decide +kernel
theorem dX12_least_90 : decode cX12_least 90 = .ok (.istore 4, 2) := by decide +kernel
theorem dX12_least_92 : decode cX12_least 92 = .ok (.iconst (-1), 1) := by decide +kernel
theorem dX12_least_93 : decode cX12_least 93 = .ok (.istore 5, 2) := by decide +kernel
theorem dX12_least_95 : decode cX12_least 95 = .ok (.iconst 0, 1) := by decide +kernel
theorem dX12_least_96 : decode cX12_least 96 = .ok (.istore 6, 2) := by decide +kernel
theorem dX12_least_98 : decode cX12_least 98 = .ok (.iload 6, 2) := by decide +kernel
theorem dX12_least_100 : decode cX12_least 100 = .ok (.iload_n 2, 1) := by decide +kernel
theorem dX12_least_101 : decode cX12_least 101 = .ok (.if_icmp .gt 79, 3) := by decide +kernel
theorem dX12_least_104 : decode cX12_least 104 = .ok (.iconst (-1), 1) := by decide +kernel
theorem dX12_least_105 : decode cX12_least 105 = .ok (.istore 5, 2) := by decide +kernel
theorem dX12_least_107 : decode cX12_least 107 = .ok (.bipush 7, 2) := by decide +kernel
theorem dX12_least_109 : decode cX12_least 109 = .ok (.istore 7, 2) := by decide +kernel
theorem dX12_least_111 : decode cX12_least 111 = .ok (.iload 7, 2) := by decide +kernel
theorem dX12_least_113 : decode cX12_least 113 = .ok (.ifCond .lt 41, 3) := by decide +kernel
theorem dX12_least_116 : decode cX12_least 116 = .ok (.iload 4, 2) := by decide +kernel
theorem dX12_least_118 : decode cX12_least 118 = .ok (.iload 7, 2) := by decide +kernel
theorem dX12_least_120 : decode cX12_least 120 = .ok (.invokestatic 70, 3) := by decide +kernel
theorem dX12_least_123 : decode cX12_least 123 = .ok (.ifCond .eq 21, 3) := by decide +kernel
theorem dX12_least_126 : decode cX12_least 126 = .ok (.aload_n 0, 1) := by decide +kernel
theorem dX12_least_127 : decode cX12_least 127 = .ok (.iconst 0, 1) := by decide +kernel
theorem dX12_least_128 : decode cX12_least 128 = .ok (.iload_n 3, 1) := by decide +kernel
theorem dX12_least_129 : decode cX12_least 129 = .ok (.iload 7, 2) := by decide +kernel
theorem dX12_least_131 : decode cX12_least 131 = .ok (.iconst (-1), 1) := by decide +kernel
theorem dX12_least_132 : decode cX12_least 132 = .ok (.iconst 0, 1) := by decide +kernel
theorem dX12_least_133 : decode cX12_least 133 = .ok (.invokevirtual 74, 3) := by decide +kernel
theorem dX12_least_136 : decode cX12_least 136 = .ok (.ifCond .eq 8, 3) := by decide +kernel
theorem dX12_least_139 : decode cX12_least 139 = .ok (.iload 7, 2) := by decide +kernel
theorem dX12_least_141 : decode cX12_least 141 = .ok (.goto 5, 3) := by decide +kernel
theorem dX12_least_144 : decode cX12_least 144 = .ok (.iload 5, 2) := by decide +kernel
theorem dX12_least_146 : decode cX12_least 146 = .ok (.istore 5, 2) := by decide +kernel
theorem dX12_least_148 : decode cX12_least 148 = .ok (.iinc 7 (-1), 3) := by decide +kernel
theorem dX12_least_151 : decode cX12_least 151 = .ok (.goto (-40), 3) := by decide +kernel
theorem dX12_least_154 : decode cX12_least 154 = .ok (.iload 4, 2) := by decide +kernel
theorem dX12_least_156 : decode cX12_least 156 = .ok (.iconst 1, 1) := by decide +kernel
theorem dX12_least_157 : decode cX12_least 157 = .ok (.iload 5, 2) := by decide +kernel
theorem dX12_least_159 : decode cX12_least 159 = .ok (.ishl, 1) := by decide +kernel
theorem dX12_least_160 : decode cX12_least 160 = .ok (.iconst (-1), 1) := by decide +kernel
theorem dX12_least_161 : decode cX12_least 161 = .ok (.ixor, 1) := by decide +kernel
theorem dX12_least_162 : decode cX12_least 162 = .ok (.iand, 1) := by decide +kernel
theorem dX12_least_163 : decode cX12_least 163 = .ok (.istore 4, 2) := by decide +kernel
theorem dX12_least_165 : decode cX12_least 165 = .ok (.iload_n 3, 1) := by decide +kernel
theorem dX12_least_166 : decode cX12_least 166 = .ok (.iconst 1, 1) := by decide +kernel
theorem dX12_least_167 : decode cX12_least 167 = .ok (.iload 5, 2) := by decide +kernel
theorem dX12_least_169 : decode cX12_least 169 = .ok (.ishl, 1) := by decide +kernel
theorem dX12_least_170 : decode cX12_least 170 = .ok (.iconst (-1), 1) := by decide +kernel
theorem dX12_least_171 : decode cX12_least 171 = .ok (.ixor, 1) := by decide +kernel
theorem dX12_least_172 : decode cX12_least 172 = .ok (.iand, 1) := by decide +kernel
theorem dX12_least_173 : decode cX12_least 173 = .ok (.istore_n 3, 1) := by decide +kernel
theorem dX12_least_174 : decode cX12_least 174 = .ok (.iinc 6 1, 3) := by decide +kernel
theorem dX12_least_177 : decode cX12_least 177 = .ok (.goto (-79), 3) := by decide +kernel
theorem dX12_least_180 : decode cX12_least 180 = .ok (.iload 5, 2) := by decide +kernel
theorem dX12_least_182 : decode cX12_least 182 = .ok (.ireturn, 1) := by decide +kernel
theorem dX12_thrownSet_0 : decode cX12_thrownSet 0 = .ok (.iconst 1, 1) := by decide +kernel
theorem dX12_thrownSet_1 : decode cX12_thrownSet 1 = .ok (.aload_n 0, 1) := by decide +kernel
theorem dX12_thrownSet_2 : decode cX12_thrownSet 2 = .ok (.getfield 7, 3) := by decide +kernel
theorem dX12_thrownSet_5 : decode cX12_thrownSet 5 = .ok (.iconst 0, 1) := by decide +kernel
theorem dX12_thrownSet_6 : decode cX12_thrownSet 6 = .ok (.iaload, 1) := by decide +kernel
theorem dX12_thrownSet_7 : decode cX12_thrownSet 7 = .ok (.ishl, 1) := by decide +kernel
theorem dX12_thrownSet_8 : decode cX12_thrownSet 8 = .ok (.iconst 1, 1) := by decide +kernel
theorem dX12_thrownSet_9 : decode cX12_thrownSet 9 = .ok (.isub, 1) := by decide +kernel
theorem dX12_thrownSet_10 : decode cX12_thrownSet 10 = .ok (.aload_n 0, 1) := by decide +kernel
theorem dX12_thrownSet_11 : decode cX12_thrownSet 11 = .ok (.getfield 7, 3) := by decide +kernel
theorem dX12_thrownSet_14 : decode cX12_thrownSet 14 = .ok (.iconst 5, 1) := by decide +kernel
theorem dX12_thrownSet_15 : decode cX12_thrownSet 15 = .ok (.iaload, 1) := by decide +kernel
theorem dX12_thrownSet_16 : decode cX12_thrownSet 16 = .ok (.iconst (-1), 1) := by decide +kernel
theorem dX12_thrownSet_17 : decode cX12_thrownSet 17 = .ok (.ixor, 1) := by decide +kernel
theorem dX12_thrownSet_18 : decode cX12_thrownSet 18 = .ok (.iand, 1) := by decide +kernel
theorem dX12_thrownSet_19 : decode cX12_thrownSet 19 = .ok (.ireturn, 1) := by decide +kernel
theorem dX12_needful_0 : decode cX12_needful 0 = .ok (.iload_n 1, 1) := by decide +kernel
theorem dX12_needful_1 : decode cX12_needful 1 = .ok (.invokestatic 163, 3) := by decide +kernel
theorem dX12_needful_4 : decode cX12_needful 4 = .ok (.ifCond .ne 8, 3) := by decide +kernel
theorem dX12_needful_7 : decode cX12_needful 7 = .ok (.aload_n 0, 1) := by decide +kernel
theorem dX12_needful_8 : decode cX12_needful 8 = .ok (.invokevirtual 44, 3) := by decide +kernel
theorem dX12_needful_11 : decode cX12_needful 11 = .ok (.ireturn, 1) := by decide +kernel
theorem dX12_needful_12 : decode cX12_needful 12 = .ok (.iconst 0, 1) := by decide +kernel
theorem dX12_needful_13 : decode cX12_needful 13 = .ok (.istore_n 2, 1) := by decide +kernel
theorem dX12_needful_14 : decode cX12_needful 14 = .ok (.iconst 0, 1) := by decide +kernel
theorem dX12_needful_15 : decode cX12_needful 15 = .ok (.istore_n 3, 1) := by decide +kernel
theorem dX12_needful_16 : decode cX12_needful 16 = .ok (.iload_n 3, 1) := by decide +kernel
theorem dX12_needful_17 : decode cX12_needful 17 = .ok (.aload_n 0, 1) := by decide +kernel
theorem dX12_needful_18 : decode cX12_needful 18 = .ok (.getfield 7, 3) := by decide +kernel
theorem dX12_needful_21 : decode cX12_needful 21 = .ok (.iconst 0, 1) := by decide +kernel
theorem dX12_needful_22 : decode cX12_needful 22 = .ok (.iaload, 1) := by decide +kernel
theorem dX12_needful_23 : decode cX12_needful 23 = .ok (.if_icmp .ge 48, 3) := by decide +kernel
theorem dX12_needful_26 : decode cX12_needful 26 = .ok (.iload_n 2, 1) := by decide +kernel
theorem dX12_needful_27 : decode cX12_needful 27 = .ok (.aload_n 0, 1) := by decide +kernel
theorem dX12_needful_28 : decode cX12_needful 28 = .ok (.invokevirtual 212, 3) := by decide +kernel
theorem dX12_needful_31 : decode cX12_needful 31 = .ok (.iload_n 3, 1) := by decide +kernel
theorem dX12_needful_32 : decode cX12_needful 32 = .ok (.invokestatic 70, 3) := by decide +kernel
theorem dX12_needful_35 : decode cX12_needful 35 = .ok (.ifCond .eq 27, 3) := by decide +kernel
theorem dX12_needful_38 : decode cX12_needful 38 = .ok (.aload_n 0, 1) := by decide +kernel
theorem dX12_needful_39 : decode cX12_needful 39 = .ok (.aload_n 0, 1) := by decide +kernel
theorem dX12_needful_40 : decode cX12_needful 40 = .ok (.getfield 7, 3) := by decide +kernel
theorem dX12_needful_43 : decode cX12_needful 43 = .ok (.iconst 5, 1) := by decide +kernel
theorem dX12_needful_44 : decode cX12_needful 44 = .ok (.iaload, 1) := by decide +kernel
theorem dX12_needful_45 : decode cX12_needful 45 = .ok (.iconst 1, 1) := by decide +kernel
theorem dX12_needful_46 : decode cX12_needful 46 = .ok (.iload_n 3, 1) := by decide +kernel
theorem dX12_needful_47 : decode cX12_needful 47 = .ok (.ishl, 1) := by decide +kernel
theorem dX12_needful_48 : decode cX12_needful 48 = .ok (.ior, 1) := by decide +kernel
theorem dX12_needful_49 : decode cX12_needful 49 = .ok (.iload_n 1, 1) := by decide +kernel
theorem dX12_needful_50 : decode cX12_needful 50 = .ok (.invokevirtual 166, 3) := by decide +kernel
theorem dX12_needful_53 : decode cX12_needful 53 = .ok (.ifCond .ne 9, 3) := by decide +kernel
theorem dX12_needful_56 : decode cX12_needful 56 = .ok (.iconst 1, 1) := by decide +kernel
theorem dX12_needful_57 : decode cX12_needful 57 = .ok (.iload_n 3, 1) := by decide +kernel
theorem dX12_needful_58 : decode cX12_needful 58 = .ok (.ishl, 1) := by decide +kernel
theorem dX12_needful_59 : decode cX12_needful 59 = .ok (.goto 4, 3) := by decide +kernel
theorem dX12_needful_62 : decode cX12_needful 62 = .ok (.iconst 0, 1) := by decide +kernel
theorem dX12_needful_63 : decode cX12_needful 63 = .ok (.ior, 1) := by decide +kernel
theorem dX12_needful_64 : decode cX12_needful 64 = .ok (.istore_n 2, 1) := by decide +kernel
theorem dX12_needful_65 : decode cX12_needful 65 = .ok (.iinc 3 1, 3) := by decide +kernel
theorem dX12_needful_68 : decode cX12_needful 68 = .ok (.goto (-52), 3) := by decide +kernel
theorem dX12_needful_71 : decode cX12_needful 71 = .ok (.iload_n 2, 1) := by decide +kernel
theorem dX12_needful_72 : decode cX12_needful 72 = .ok (.ireturn, 1) := by decide +kernel
theorem dX12_stow_0 : decode cX12_stow 0 = .ok (.aload_n 0, 1) := by decide +kernel
theorem dX12_stow_1 : decode cX12_stow 1 = .ok (.iload_n 1, 1) := by decide +kernel
theorem dX12_stow_2 : decode cX12_stow 2 = .ok (.invokevirtual 67, 3) := by decide +kernel
theorem dX12_stow_5 : decode cX12_stow 5 = .ok (.ifCond .eq 10, 3) := by decide +kernel
theorem dX12_stow_8 : decode cX12_stow 8 = .ok (.iload_n 2, 1) := by decide +kernel
theorem dX12_stow_9 : decode cX12_stow 9 = .ok (.invokestatic 163, 3) := by decide +kernel
theorem dX12_stow_12 : decode cX12_stow 12 = .ok (.ifCond .ne 8, 3) := by decide +kernel
theorem dX12_stow_15 : decode cX12_stow 15 = .ok (.aload_n 0, 1) := by decide +kernel
theorem dX12_stow_16 : decode cX12_stow 16 = .ok (.invokevirtual 44, 3) := by decide +kernel
theorem dX12_stow_19 : decode cX12_stow 19 = .ok (.ireturn, 1) := by decide +kernel
theorem dX12_stow_20 : decode cX12_stow 20 = .ok (.aload_n 0, 1) := by decide +kernel
theorem dX12_stow_21 : decode cX12_stow 21 = .ok (.getfield 7, 3) := by decide +kernel
theorem dX12_stow_24 : decode cX12_stow 24 = .ok (.iconst 5, 1) := by decide +kernel
theorem dX12_stow_25 : decode cX12_stow 25 = .ok (.iaload, 1) := by decide +kernel
theorem dX12_stow_26 : decode cX12_stow 26 = .ok (.iload_n 1, 1) := by decide +kernel
theorem dX12_stow_27 : decode cX12_stow 27 = .ok (.invokestatic 70, 3) := by decide +kernel
theorem dX12_stow_30 : decode cX12_stow 30 = .ok (.ifCond .ne 8, 3) := by decide +kernel
theorem dX12_stow_33 : decode cX12_stow 33 = .ok (.aload_n 0, 1) := by decide +kernel
theorem dX12_stow_34 : decode cX12_stow 34 = .ok (.invokevirtual 152, 3) := by decide +kernel
theorem dX12_stow_37 : decode cX12_stow 37 = .ok (.ireturn, 1) := by decide +kernel
theorem dX12_stow_38 : decode cX12_stow 38 = .ok (.iconst 0, 1) := by decide +kernel
theorem dX12_stow_39 : decode cX12_stow 39 = .ok (.istore_n 3, 1) := by decide +kernel
theorem dX12_stow_40 : decode cX12_stow 40 = .ok (.iload_n 3, 1) := by decide +kernel
theorem dX12_stow_41 : decode cX12_stow 41 = .ok (.iconst 3, 1) := by decide +kernel
theorem dX12_stow_42 : decode cX12_stow 42 = .ok (.if_icmp .gt 52, 3) := by decide +kernel
theorem dX12_stow_45 : decode cX12_stow 45 = .ok (.aload_n 0, 1) := by decide +kernel
theorem dX12_stow_46 : decode cX12_stow 46 = .ok (.aload_n 0, 1) := by decide +kernel
theorem dX12_stow_47 : decode cX12_stow 47 = .ok (.getfield 7, 3) := by decide +kernel
theorem dX12_stow_50 : decode cX12_stow 50 = .ok (.iconst 5, 1) := by decide +kernel
theorem dX12_stow_51 : decode cX12_stow 51 = .ok (.iaload, 1) := by decide +kernel
theorem dX12_stow_52 : decode cX12_stow 52 = .ok (.iload_n 2, 1) := by decide +kernel
theorem dX12_stow_53 : decode cX12_stow 53 = .ok (.iload_n 3, 1) := by decide +kernel
theorem dX12_stow_54 : decode cX12_stow 54 = .ok (.iconst 3, 1) := by decide +kernel
theorem dX12_stow_55 : decode cX12_stow 55 = .ok (.if_icmp .ne 7, 3) := by decide +kernel
theorem dX12_stow_58 : decode cX12_stow 58 = .ok (.iconst (-1), 1) := by decide +kernel
theorem dX12_stow_59 : decode cX12_stow 59 = .ok (.goto 4, 3) := by decide +kernel
theorem dX12_stow_62 : decode cX12_stow 62 = .ok (.iload_n 1, 1) := by decide +kernel
theorem dX12_stow_63 : decode cX12_stow 63 = .ok (.iload_n 3, 1) := by decide +kernel
theorem dX12_stow_64 : decode cX12_stow 64 = .ok (.invokevirtual 208, 3) := by decide +kernel
theorem dX12_stow_67 : decode cX12_stow 67 = .ok (.aload_n 0, 1) := by decide +kernel
theorem dX12_stow_68 : decode cX12_stow 68 = .ok (.getfield 194, 3) := by decide +kernel
theorem dX12_stow_71 : decode cX12_stow 71 = .ok (.iconst (-1), 1) := by decide +kernel
theorem dX12_stow_72 : decode cX12_stow 72 = .ok (.if_icmp .eq 16, 3) := by decide +kernel
theorem dX12_stow_75 : decode cX12_stow 75 = .ok (.aload_n 0, 1) := by decide +kernel
theorem dX12_stow_76 : decode cX12_stow 76 = .ok (.getfield 194, 3) := by decide +kernel
theorem dX12_stow_79 : decode cX12_stow 79 = .ok (.iload_n 1, 1) := by decide +kernel
theorem dX12_stow_80 : decode cX12_stow 80 = .ok (.invokestatic 70, 3) := by decide +kernel
theorem dX12_stow_83 : decode cX12_stow 83 = .ok (.ifCond .ne 5, 3) := by decide +kernel
theorem dX12_stow_86 : decode cX12_stow 86 = .ok (.iload_n 3, 1) := by decide +kernel
theorem dX12_stow_87 : decode cX12_stow 87 = .ok (.ireturn, 1) := by decide +kernel
theorem dX12_stow_88 : decode cX12_stow 88 = .ok (.iinc 3 1, 3) := by decide +kernel
theorem dX12_stow_91 : decode cX12_stow 91 = .ok (.goto (-51), 3) := by decide +kernel
theorem dX12_stow_94 : decode cX12_stow 94 = .ok (.iconst (-1), 1) := by decide +kernel
theorem dX12_stow_95 : decode cX12_stow 95 = .ok (.ireturn, 1) := by decide +kernel
theorem dX12_tell_0 : decode cX12_tell 0 = .ok (.aload_n 0, 1) := by decide +kernel
theorem dX12_tell_1 : decode cX12_tell 1 = .ok (.iload_n 1, 1) := by decide +kernel
theorem dX12_tell_2 : decode cX12_tell 2 = .ok (.invokevirtual 67, 3) := by decide +kernel
theorem dX12_tell_5 : decode cX12_tell 5 = .ok (.ifCond .ne 8, 3) := by decide +kernel
theorem dX12_tell_8 : decode cX12_tell 8 = .ok (.aload_n 0, 1) := by decide +kernel
theorem dX12_tell_9 : decode cX12_tell 9 = .ok (.invokevirtual 44, 3) := by decide +kernel
theorem dX12_tell_12 : decode cX12_tell 12 = .ok (.ireturn, 1) := by decide +kernel
theorem dX12_tell_13 : decode cX12_tell 13 = .ok (.aload_n 0, 1) := by decide +kernel
theorem dX12_tell_14 : decode cX12_tell 14 = .ok (.getfield 7, 3) := by decide +kernel
theorem dX12_tell_17 : decode cX12_tell 17 = .ok (.bipush 46, 2) := by decide +kernel
theorem dX12_tell_19 : decode cX12_tell 19 = .ok (.iload_n 1, 1) := by decide +kernel
theorem dX12_tell_20 : decode cX12_tell 20 = .ok (.iadd, 1) := by decide +kernel
theorem dX12_tell_21 : decode cX12_tell 21 = .ok (.iaload, 1) := by decide +kernel
theorem dX12_tell_22 : decode cX12_tell 22 = .ok (.istore_n 2, 1) := by decide +kernel
theorem dX12_tell_23 : decode cX12_tell 23 = .ok (.iconst (-1), 1) := by decide +kernel
theorem dX12_tell_24 : decode cX12_tell 24 = .ok (.istore_n 3, 1) := by decide +kernel
theorem dX12_tell_25 : decode cX12_tell 25 = .ok (.lconst 0, 1) := by decide +kernel
theorem dX12_tell_26 : decode cX12_tell 26 = .ok (.lstore 4, 2) := by decide +kernel
theorem dX12_tell_28 : decode cX12_tell 28 = .ok (.lconst 1, 1) := by decide +kernel
theorem dX12_tell_29 : decode cX12_tell 29 = .ok (.lstore 6, 2) := by decide +kernel
theorem dX12_tell_31 : decode cX12_tell 31 = .ok (.iconst 0, 1) := by decide +kernel
theorem dX12_tell_32 : decode cX12_tell 32 = .ok (.istore 8, 2) := by decide +kernel
theorem dX12_tell_34 : decode cX12_tell 34 = .ok (.iload 8, 2) := by decide +kernel
theorem dX12_tell_36 : decode cX12_tell 36 = .ok (.bipush 60, 2) := by decide +kernel
theorem dX12_tell_38 : decode cX12_tell 38 = .ok (.if_icmp .gt 108, 3) := by decide +kernel
theorem dX12_tell_41 : decode cX12_tell 41 = .ok (.aload_n 0, 1) := by decide +kernel
theorem dX12_tell_42 : decode cX12_tell 42 = .ok (.getfield 7, 3) := by decide +kernel
theorem dX12_tell_45 : decode cX12_tell 45 = .ok (.bipush 46, 2) := by decide +kernel
theorem dX12_tell_47 : decode cX12_tell 47 = .ok (.iload_n 1, 1) := by decide +kernel
theorem dX12_tell_48 : decode cX12_tell 48 = .ok (.iadd, 1) := by decide +kernel
theorem dX12_tell_49 : decode cX12_tell 49 = .ok (.iload 8, 2) := by decide +kernel
theorem dX12_tell_51 : decode cX12_tell 51 = .ok (.iastore, 1) := by decide +kernel
theorem dX12_tell_52 : decode cX12_tell 52 = .ok (.aload_n 0, 1) := by decide +kernel
theorem dX12_tell_53 : decode cX12_tell 53 = .ok (.aload_n 0, 1) := by decide +kernel
theorem dX12_tell_54 : decode cX12_tell 54 = .ok (.getfield 7, 3) := by decide +kernel
theorem dX12_tell_57 : decode cX12_tell 57 = .ok (.bipush 14, 2) := by decide +kernel
theorem dX12_tell_59 : decode cX12_tell 59 = .ok (.iload_n 1, 1) := by decide +kernel
theorem dX12_tell_60 : decode cX12_tell 60 = .ok (.iadd, 1) := by decide +kernel
theorem dX12_tell_61 : decode cX12_tell 61 = .ok (.iaload, 1) := by decide +kernel
theorem dX12_tell_62 : decode cX12_tell 62 = .ok (.invokevirtual 190, 3) := by decide +kernel
theorem dX12_tell_65 : decode cX12_tell 65 = .ok (.lstore 9, 2) := by decide +kernel
theorem dX12_tell_67 : decode cX12_tell 67 = .ok (.aload_n 0, 1) := by decide +kernel
theorem dX12_tell_68 : decode cX12_tell 68 = .ok (.invokevirtual 183, 3) := by decide +kernel
theorem dX12_tell_71 : decode cX12_tell 71 = .ok (.i2l, 1) := by decide +kernel
theorem dX12_tell_72 : decode cX12_tell 72 = .ok (.lstore 11, 2) := by decide +kernel
theorem dX12_tell_74 : decode cX12_tell 74 = .ok (.iload_n 3, 1) := by decide +kernel
theorem dX12_tell_75 : decode cX12_tell 75 = .ok (.iconst (-1), 1) := by decide +kernel
theorem dX12_tell_76 : decode cX12_tell 76 = .ok (.if_icmp .eq 17, 3) := by decide +kernel
theorem dX12_tell_79 : decode cX12_tell 79 = .ok (.lload 9, 2) := by decide +kernel
theorem dX12_tell_81 : decode cX12_tell 81 = .ok (.lload 6, 2) := by decide +kernel
theorem dX12_tell_83 : decode cX12_tell 83 = .ok (.lmul, 1) := by decide +kernel
theorem dX12_tell_84 : decode cX12_tell 84 = .ok (.lload 4, 2) := by decide +kernel
theorem dX12_tell_86 : decode cX12_tell 86 = .ok (.lload 11, 2) := by decide +kernel
theorem dX12_tell_88 : decode cX12_tell 88 = .ok (.lmul, 1) := by decide +kernel
theorem dX12_tell_89 : decode cX12_tell 89 = .ok (.lcmp, 1) := by decide +kernel
theorem dX12_tell_90 : decode cX12_tell 90 = .ok (.ifCond .ge 7, 3) := by decide +kernel
theorem dX12_tell_93 : decode cX12_tell 93 = .ok (.iconst 1, 1) := by decide +kernel
theorem dX12_tell_94 : decode cX12_tell 94 = .ok (.goto 4, 3) := by decide +kernel
theorem dX12_tell_97 : decode cX12_tell 97 = .ok (.iconst 0, 1) := by decide +kernel
theorem dX12_tell_98 : decode cX12_tell 98 = .ok (.istore 13, 2) := by decide +kernel
theorem dX12_tell_100 : decode cX12_tell 100 = .ok (.iload 13, 2) := by decide +kernel
theorem dX12_tell_102 : decode cX12_tell 102 = .ok (.ifCond .eq 8, 3) := by decide +kernel
theorem dX12_tell_105 : decode cX12_tell 105 = .ok (.iload 8, 2) := by decide +kernel
theorem dX12_tell_107 : decode cX12_tell 107 = .ok (.goto 4, 3) := by decide +kernel
theorem dX12_tell_110 : decode cX12_tell 110 = .ok (.iload_n 3, 1) := by decide +kernel
theorem dX12_tell_111 : decode cX12_tell 111 = .ok (.istore_n 3, 1) := by decide +kernel
theorem dX12_tell_112 : decode cX12_tell 112 = .ok (.iload 13, 2) := by decide +kernel
theorem dX12_tell_114 : decode cX12_tell 114 = .ok (.ifCond .eq 8, 3) := by decide +kernel
theorem dX12_tell_117 : decode cX12_tell 117 = .ok (.lload 9, 2) := by decide +kernel
theorem dX12_tell_119 : decode cX12_tell 119 = .ok (.goto 5, 3) := by decide +kernel
theorem dX12_tell_122 : decode cX12_tell 122 = .ok (.lload 4, 2) := by decide +kernel
theorem dX12_tell_124 : decode cX12_tell 124 = .ok (.lstore 4, 2) := by decide +kernel
theorem dX12_tell_126 : decode cX12_tell 126 = .ok (.iload 13, 2) := by decide +kernel
theorem dX12_tell_128 : decode cX12_tell 128 = .ok (.ifCond .eq 8, 3) := by decide +kernel
theorem dX12_tell_131 : decode cX12_tell 131 = .ok (.lload 11, 2) := by decide +kernel
theorem dX12_tell_133 : decode cX12_tell 133 = .ok (.goto 5, 3) := by decide +kernel
theorem dX12_tell_136 : decode cX12_tell 136 = .ok (.lload 6, 2) := by decide +kernel
theorem dX12_tell_138 : decode cX12_tell 138 = .ok (.lstore 6, 2) := by decide +kernel
theorem dX12_tell_140 : decode cX12_tell 140 = .ok (.iinc 8 1, 3) := by decide +kernel
theorem dX12_tell_143 : decode cX12_tell 143 = .ok (.goto (-109), 3) := by decide +kernel
theorem dX12_tell_146 : decode cX12_tell 146 = .ok (.aload_n 0, 1) := by decide +kernel
theorem dX12_tell_147 : decode cX12_tell 147 = .ok (.getfield 7, 3) := by decide +kernel
theorem dX12_tell_150 : decode cX12_tell 150 = .ok (.bipush 46, 2) := by decide +kernel
theorem dX12_tell_152 : decode cX12_tell 152 = .ok (.iload_n 1, 1) := by decide +kernel
theorem dX12_tell_153 : decode cX12_tell 153 = .ok (.iadd, 1) := by decide +kernel
theorem dX12_tell_154 : decode cX12_tell 154 = .ok (.iload_n 2, 1) := by decide +kernel
theorem dX12_tell_155 : decode cX12_tell 155 = .ok (.iastore, 1) := by decide +kernel
theorem dX12_tell_156 : decode cX12_tell 156 = .ok (.iload_n 3, 1) := by decide +kernel
theorem dX12_tell_157 : decode cX12_tell 157 = .ok (.ireturn, 1) := by decide +kernel
theorem dX12_marked_0 : decode cX12_marked 0 = .ok (.aload_n 0, 1) := by decide +kernel
theorem dX12_marked_1 : decode cX12_marked 1 = .ok (.iload_n 1, 1) := by decide +kernel
theorem dX12_marked_2 : decode cX12_marked 2 = .ok (.invokevirtual 67, 3) := by decide +kernel
theorem dX12_marked_5 : decode cX12_marked 5 = .ok (.ifCond .eq 15, 3) := by decide +kernel
theorem dX12_marked_8 : decode cX12_marked 8 = .ok (.iload_n 2, 1) := by decide +kernel
theorem dX12_marked_9 : decode cX12_marked 9 = .ok (.i2l, 1) := by decide +kernel
theorem dX12_marked_10 : decode cX12_marked 10 = .ok (.lconst 0, 1) := by decide +kernel
theorem dX12_marked_11 : decode cX12_marked 11 = .ok (.ldc2_w 58, 3) := by decide +kernel
theorem dX12_marked_14 : decode cX12_marked 14 = .ok (.invokestatic 34, 3) := by decide +kernel
theorem dX12_marked_17 : decode cX12_marked 17 = .ok (.ifCond .ne 8, 3) := by decide +kernel
theorem dX12_marked_20 : decode cX12_marked 20 = .ok (.aload_n 0, 1) := by decide +kernel
theorem dX12_marked_21 : decode cX12_marked 21 = .ok (.invokevirtual 44, 3) := by decide +kernel
theorem dX12_marked_24 : decode cX12_marked 24 = .ok (.ireturn, 1) := by decide +kernel
theorem dX12_marked_25 : decode cX12_marked 25 = .ok (.aload_n 0, 1) := by decide +kernel
theorem dX12_marked_26 : decode cX12_marked 26 = .ok (.getfield 7, 3) := by decide +kernel
theorem dX12_marked_29 : decode cX12_marked 29 = .ok (.bipush 46, 2) := by decide +kernel
theorem dX12_marked_31 : decode cX12_marked 31 = .ok (.iload_n 1, 1) := by decide +kernel
theorem dX12_marked_32 : decode cX12_marked 32 = .ok (.iadd, 1) := by decide +kernel
theorem dX12_marked_33 : decode cX12_marked 33 = .ok (.iaload, 1) := by decide +kernel
theorem dX12_marked_34 : decode cX12_marked 34 = .ok (.istore_n 3, 1) := by decide +kernel
theorem dX12_marked_35 : decode cX12_marked 35 = .ok (.aload_n 0, 1) := by decide +kernel
theorem dX12_marked_36 : decode cX12_marked 36 = .ok (.getfield 7, 3) := by decide +kernel
theorem dX12_marked_39 : decode cX12_marked 39 = .ok (.bipush 46, 2) := by decide +kernel
theorem dX12_marked_41 : decode cX12_marked 41 = .ok (.iload_n 1, 1) := by decide +kernel
theorem dX12_marked_42 : decode cX12_marked 42 = .ok (.iadd, 1) := by decide +kernel
theorem dX12_marked_43 : decode cX12_marked 43 = .ok (.iload_n 2, 1) := by decide +kernel
theorem dX12_marked_44 : decode cX12_marked 44 = .ok (.iastore, 1) := by decide +kernel
theorem dX12_marked_45 : decode cX12_marked 45 = .ok (.aload_n 0, 1) := by decide +kernel
theorem dX12_marked_46 : decode cX12_marked 46 = .ok (.aload_n 0, 1) := by decide +kernel
theorem dX12_marked_47 : decode cX12_marked 47 = .ok (.aload_n 0, 1) := by decide +kernel
theorem dX12_marked_48 : decode cX12_marked 48 = .ok (.getfield 7, 3) := by decide +kernel
theorem dX12_marked_51 : decode cX12_marked 51 = .ok (.bipush 14, 2) := by decide +kernel
theorem dX12_marked_53 : decode cX12_marked 53 = .ok (.iload_n 1, 1) := by decide +kernel
theorem dX12_marked_54 : decode cX12_marked 54 = .ok (.iadd, 1) := by decide +kernel
theorem dX12_marked_55 : decode cX12_marked 55 = .ok (.iaload, 1) := by decide +kernel
theorem dX12_marked_56 : decode cX12_marked 56 = .ok (.invokevirtual 190, 3) := by decide +kernel
theorem dX12_marked_59 : decode cX12_marked 59 = .ok (.aload_n 0, 1) := by decide +kernel
theorem dX12_marked_60 : decode cX12_marked 60 = .ok (.invokevirtual 183, 3) := by decide +kernel
theorem dX12_marked_63 : decode cX12_marked 63 = .ok (.i2l, 1) := by decide +kernel
theorem dX12_marked_64 : decode cX12_marked 64 = .ok (.invokevirtual 186, 3) := by decide +kernel
theorem dX12_marked_67 : decode cX12_marked 67 = .ok (.istore 4, 2) := by decide +kernel
theorem dX12_marked_69 : decode cX12_marked 69 = .ok (.aload_n 0, 1) := by decide +kernel
theorem dX12_marked_70 : decode cX12_marked 70 = .ok (.getfield 7, 3) := by decide +kernel
theorem dX12_marked_73 : decode cX12_marked 73 = .ok (.bipush 46, 2) := by decide +kernel
theorem dX12_marked_75 : decode cX12_marked 75 = .ok (.iload_n 1, 1) := by decide +kernel
theorem dX12_marked_76 : decode cX12_marked 76 = .ok (.iadd, 1) := by decide +kernel
theorem dX12_marked_77 : decode cX12_marked 77 = .ok (.iload_n 3, 1) := by decide +kernel
theorem dX12_marked_78 : decode cX12_marked 78 = .ok (.iastore, 1) := by decide +kernel
theorem dX12_marked_79 : decode cX12_marked 79 = .ok (.iload 4, 2) := by decide +kernel
theorem dX12_marked_81 : decode cX12_marked 81 = .ok (.ireturn, 1) := by decide +kernel
theorem dX12_seen_0 : decode cX12_seen 0 = .ok (.iload_n 1, 1) := by decide +kernel
theorem dX12_seen_1 : decode cX12_seen 1 = .ok (.i2l, 1) := by decide +kernel
theorem dX12_seen_2 : decode cX12_seen 2 = .ok (.lconst 1, 1) := by decide +kernel
theorem dX12_seen_3 : decode cX12_seen 3 = .ok (.ldc2_w 56, 3) := by decide +kernel
theorem dX12_seen_6 : decode cX12_seen 6 = .ok (.invokestatic 34, 3) := by decide +kernel
theorem dX12_seen_9 : decode cX12_seen 9 = .ok (.ifCond .eq 27, 3) := by decide +kernel
theorem dX12_seen_12 : decode cX12_seen 12 = .ok (.iload_n 2, 1) := by decide +kernel
theorem dX12_seen_13 : decode cX12_seen 13 = .ok (.i2l, 1) := by decide +kernel
theorem dX12_seen_14 : decode cX12_seen 14 = .ok (.lconst 0, 1) := by decide +kernel
theorem dX12_seen_15 : decode cX12_seen 15 = .ok (.ldc2_w 58, 3) := by decide +kernel
theorem dX12_seen_18 : decode cX12_seen 18 = .ok (.invokestatic 34, 3) := by decide +kernel
theorem dX12_seen_21 : decode cX12_seen 21 = .ok (.ifCond .eq 15, 3) := by decide +kernel
theorem dX12_seen_24 : decode cX12_seen 24 = .ok (.iload_n 3, 1) := by decide +kernel
theorem dX12_seen_25 : decode cX12_seen 25 = .ok (.i2l, 1) := by decide +kernel
theorem dX12_seen_26 : decode cX12_seen 26 = .ok (.lconst 0, 1) := by decide +kernel
theorem dX12_seen_27 : decode cX12_seen 27 = .ok (.ldc2_w 38, 3) := by decide +kernel
theorem dX12_seen_30 : decode cX12_seen 30 = .ok (.invokestatic 34, 3) := by decide +kernel
theorem dX12_seen_33 : decode cX12_seen 33 = .ok (.ifCond .ne 8, 3) := by decide +kernel
theorem dX12_seen_36 : decode cX12_seen 36 = .ok (.aload_n 0, 1) := by decide +kernel
theorem dX12_seen_37 : decode cX12_seen 37 = .ok (.invokevirtual 44, 3) := by decide +kernel
theorem dX12_seen_40 : decode cX12_seen 40 = .ok (.ireturn, 1) := by decide +kernel
theorem dX12_seen_41 : decode cX12_seen 41 = .ok (.aload_n 0, 1) := by decide +kernel
theorem dX12_seen_42 : decode cX12_seen 42 = .ok (.getfield 7, 3) := by decide +kernel
theorem dX12_seen_45 : decode cX12_seen 45 = .ok (.iconst 3, 1) := by decide +kernel
theorem dX12_seen_46 : decode cX12_seen 46 = .ok (.iaload, 1) := by decide +kernel
theorem dX12_seen_47 : decode cX12_seen 47 = .ok (.bipush 6, 2) := by decide +kernel
theorem dX12_seen_49 : decode cX12_seen 49 = .ok (.if_icmp .ne 8, 3) := by decide +kernel
theorem dX12_seen_52 : decode cX12_seen 52 = .ok (.aload_n 0, 1) := by decide +kernel
theorem dX12_seen_53 : decode cX12_seen 53 = .ok (.invokevirtual 60, 3) := by decide +kernel
theorem dX12_seen_56 : decode cX12_seen 56 = .ok (.ireturn, 1) := by decide +kernel
theorem dX12_seen_57 : decode cX12_seen 57 = .ok (.bipush 54, 2) := by decide +kernel
theorem dX12_seen_59 : decode cX12_seen 59 = .ok (.iconst 3, 1) := by decide +kernel
theorem dX12_seen_60 : decode cX12_seen 60 = .ok (.aload_n 0, 1) := by decide +kernel
theorem dX12_seen_61 : decode cX12_seen 61 = .ok (.getfield 7, 3) := by decide +kernel
theorem dX12_seen_64 : decode cX12_seen 64 = .ok (.iconst 3, 1) := by decide +kernel
theorem dX12_seen_65 : decode cX12_seen 65 = .ok (.iaload, 1) := by decide +kernel
theorem dX12_seen_66 : decode cX12_seen 66 = .ok (.imul, 1) := by decide +kernel
theorem dX12_seen_67 : decode cX12_seen 67 = .ok (.iadd, 1) := by decide +kernel
theorem dX12_seen_68 : decode cX12_seen 68 = .ok (.istore 4, 2) := by decide +kernel
theorem dX12_seen_70 : decode cX12_seen 70 = .ok (.aload_n 0, 1) := by decide +kernel
theorem dX12_seen_71 : decode cX12_seen 71 = .ok (.getfield 7, 3) := by decide +kernel
theorem dX12_seen_74 : decode cX12_seen 74 = .ok (.iload 4, 2) := by decide +kernel
theorem dX12_seen_76 : decode cX12_seen 76 = .ok (.iload_n 1, 1) := by decide +kernel
theorem dX12_seen_77 : decode cX12_seen 77 = .ok (.iastore, 1) := by decide +kernel
theorem dX12_seen_78 : decode cX12_seen 78 = .ok (.aload_n 0, 1) := by decide +kernel
theorem dX12_seen_79 : decode cX12_seen 79 = .ok (.getfield 7, 3) := by decide +kernel
theorem dX12_seen_82 : decode cX12_seen 82 = .ok (.iload 4, 2) := by decide +kernel
theorem dX12_seen_84 : decode cX12_seen 84 = .ok (.iconst 1, 1) := by decide +kernel
theorem dX12_seen_85 : decode cX12_seen 85 = .ok (.iadd, 1) := by decide +kernel
theorem dX12_seen_86 : decode cX12_seen 86 = .ok (.iload_n 2, 1) := by decide +kernel
theorem dX12_seen_87 : decode cX12_seen 87 = .ok (.iastore, 1) := by decide +kernel
theorem dX12_seen_88 : decode cX12_seen 88 = .ok (.aload_n 0, 1) := by decide +kernel
theorem dX12_seen_89 : decode cX12_seen 89 = .ok (.getfield 7, 3) := by decide +kernel
theorem dX12_seen_92 : decode cX12_seen 92 = .ok (.iload 4, 2) := by decide +kernel
theorem dX12_seen_94 : decode cX12_seen 94 = .ok (.iconst 2, 1) := by decide +kernel
theorem dX12_seen_95 : decode cX12_seen 95 = .ok (.iadd, 1) := by decide +kernel
theorem dX12_seen_96 : decode cX12_seen 96 = .ok (.iload_n 3, 1) := by decide +kernel
theorem dX12_seen_97 : decode cX12_seen 97 = .ok (.iastore, 1) := by decide +kernel
theorem dX12_seen_98 : decode cX12_seen 98 = .ok (.aload_n 0, 1) := by decide +kernel
theorem dX12_seen_99 : decode cX12_seen 99 = .ok (.getfield 7, 3) := by decide +kernel
theorem dX12_seen_102 : decode cX12_seen 102 = .ok (.iconst 3, 1) := by decide +kernel
theorem dX12_seen_103 : decode cX12_seen 103 = .ok (.dup2, 1) := by decide +kernel
theorem dX12_seen_104 : decode cX12_seen 104 = .ok (.iaload, 1) := by decide +kernel
theorem dX12_seen_105 : decode cX12_seen 105 = .ok (.iconst 1, 1) := by decide +kernel
theorem dX12_seen_106 : decode cX12_seen 106 = .ok (.iadd, 1) := by decide +kernel
theorem dX12_seen_107 : decode cX12_seen 107 = .ok (.iastore, 1) := by decide +kernel
theorem dX12_seen_108 : decode cX12_seen 108 = .ok (.aload_n 0, 1) := by decide +kernel
theorem dX12_seen_109 : decode cX12_seen 109 = .ok (.getfield 7, 3) := by decide +kernel
theorem dX12_seen_112 : decode cX12_seen 112 = .ok (.iconst 3, 1) := by decide +kernel
theorem dX12_seen_113 : decode cX12_seen 113 = .ok (.iaload, 1) := by decide +kernel
theorem dX12_seen_114 : decode cX12_seen 114 = .ok (.ireturn, 1) := by decide +kernel
theorem dX12_forget_0 : decode cX12_forget 0 = .ok (.aload_n 0, 1) := by decide +kernel
theorem dX12_forget_1 : decode cX12_forget 1 = .ok (.getfield 7, 3) := by decide +kernel
theorem dX12_forget_4 : decode cX12_forget 4 = .ok (.iconst 3, 1) := by decide +kernel
theorem dX12_forget_5 : decode cX12_forget 5 = .ok (.iaload, 1) := by decide +kernel
theorem dX12_forget_6 : decode cX12_forget 6 = .ok (.istore_n 1, 1) := by decide +kernel
theorem dX12_forget_7 : decode cX12_forget 7 = .ok (.aload_n 0, 1) := by decide +kernel
theorem dX12_forget_8 : decode cX12_forget 8 = .ok (.getfield 7, 3) := by decide +kernel
theorem dX12_forget_11 : decode cX12_forget 11 = .ok (.iconst 3, 1) := by decide +kernel
theorem dX12_forget_12 : decode cX12_forget 12 = .ok (.iconst 0, 1) := by decide +kernel
theorem dX12_forget_13 : decode cX12_forget 13 = .ok (.iastore, 1) := by decide +kernel
theorem dX12_forget_14 : decode cX12_forget 14 = .ok (.iload_n 1, 1) := by decide +kernel
theorem dX12_forget_15 : decode cX12_forget 15 = .ok (.ireturn, 1) := by decide +kernel
theorem dX12_barrel_0 : decode cX12_barrel 0 = .ok (.aload_n 0, 1) := by decide +kernel
theorem dX12_barrel_1 : decode cX12_barrel 1 = .ok (.invokevirtual 212, 3) := by decide +kernel
theorem dX12_barrel_4 : decode cX12_barrel 4 = .ok (.istore_n 1, 1) := by decide +kernel
theorem dX12_barrel_5 : decode cX12_barrel 5 = .ok (.iconst 0, 1) := by decide +kernel
theorem dX12_barrel_6 : decode cX12_barrel 6 = .ok (.istore_n 2, 1) := by decide +kernel
theorem dX12_barrel_7 : decode cX12_barrel 7 = .ok (.iload_n 2, 1) := by decide +kernel
theorem dX12_barrel_8 : decode cX12_barrel 8 = .ok (.aload_n 0, 1) := by decide +kernel
theorem dX12_barrel_9 : decode cX12_barrel 9 = .ok (.getfield 7, 3) := by decide +kernel
theorem dX12_barrel_12 : decode cX12_barrel 12 = .ok (.iconst 0, 1) := by decide +kernel
theorem dX12_barrel_13 : decode cX12_barrel 13 = .ok (.iaload, 1) := by decide +kernel
theorem dX12_barrel_14 : decode cX12_barrel 14 = .ok (.if_icmp .ge 135, 3) := by decide +kernel
theorem dX12_barrel_17 : decode cX12_barrel 17 = .ok (.iconst 0, 1) := by decide +kernel
theorem dX12_barrel_18 : decode cX12_barrel 18 = .ok (.istore_n 3, 1) := by decide +kernel
theorem dX12_barrel_19 : decode cX12_barrel 19 = .ok (.iload_n 3, 1) := by decide +kernel
theorem dX12_barrel_20 : decode cX12_barrel 20 = .ok (.aload_n 0, 1) := by decide +kernel
theorem dX12_barrel_21 : decode cX12_barrel 21 = .ok (.getfield 7, 3) := by decide +kernel
theorem dX12_barrel_24 : decode cX12_barrel 24 = .ok (.iconst 3, 1) := by decide +kernel
theorem dX12_barrel_25 : decode cX12_barrel 25 = .ok (.iaload, 1) := by decide +kernel
theorem dX12_barrel_26 : decode cX12_barrel 26 = .ok (.if_icmp .ge 117, 3) := by decide +kernel
theorem dX12_barrel_29 : decode cX12_barrel 29 = .ok (.bipush 54, 2) := by decide +kernel
theorem dX12_barrel_31 : decode cX12_barrel 31 = .ok (.iconst 3, 1) := by decide +kernel
theorem dX12_barrel_32 : decode cX12_barrel 32 = .ok (.iload_n 3, 1) := by decide +kernel
theorem dX12_barrel_33 : decode cX12_barrel 33 = .ok (.imul, 1) := by decide +kernel
theorem dX12_barrel_34 : decode cX12_barrel 34 = .ok (.iadd, 1) := by decide +kernel
theorem dX12_barrel_35 : decode cX12_barrel 35 = .ok (.istore 4, 2) := by decide +kernel
theorem dX12_barrel_37 : decode cX12_barrel 37 = .ok (.aload_n 0, 1) := by decide +kernel
theorem dX12_barrel_38 : decode cX12_barrel 38 = .ok (.getfield 7, 3) := by decide +kernel
theorem dX12_barrel_41 : decode cX12_barrel 41 = .ok (.bipush 30, 2) := by decide +kernel
theorem dX12_barrel_43 : decode cX12_barrel 43 = .ok (.iload_n 2, 1) := by decide +kernel
theorem dX12_barrel_44 : decode cX12_barrel 44 = .ok (.iadd, 1) := by decide +kernel
theorem dX12_barrel_45 : decode cX12_barrel 45 = .ok (.iaload, 1) := by decide +kernel
theorem dX12_barrel_46 : decode cX12_barrel 46 = .ok (.aload_n 0, 1) := by decide +kernel
theorem dX12_barrel_47 : decode cX12_barrel 47 = .ok (.getfield 7, 3) := by decide +kernel
theorem dX12_barrel_50 : decode cX12_barrel 50 = .ok (.iload 4, 2) := by decide +kernel
theorem dX12_barrel_52 : decode cX12_barrel 52 = .ok (.iaload, 1) := by decide +kernel
theorem dX12_barrel_53 : decode cX12_barrel 53 = .ok (.if_icmp .lt 62, 3) := by decide +kernel
theorem dX12_barrel_56 : decode cX12_barrel 56 = .ok (.aload_n 0, 1) := by decide +kernel
theorem dX12_barrel_57 : decode cX12_barrel 57 = .ok (.getfield 7, 3) := by decide +kernel
theorem dX12_barrel_60 : decode cX12_barrel 60 = .ok (.bipush 38, 2) := by decide +kernel
theorem dX12_barrel_62 : decode cX12_barrel 62 = .ok (.iload_n 2, 1) := by decide +kernel
theorem dX12_barrel_63 : decode cX12_barrel 63 = .ok (.iadd, 1) := by decide +kernel
theorem dX12_barrel_64 : decode cX12_barrel 64 = .ok (.iaload, 1) := by decide +kernel
theorem dX12_barrel_65 : decode cX12_barrel 65 = .ok (.aload_n 0, 1) := by decide +kernel
theorem dX12_barrel_66 : decode cX12_barrel 66 = .ok (.getfield 7, 3) := by decide +kernel
theorem dX12_barrel_69 : decode cX12_barrel 69 = .ok (.iload 4, 2) := by decide +kernel
theorem dX12_barrel_71 : decode cX12_barrel 71 = .ok (.iconst 1, 1) := by decide +kernel
theorem dX12_barrel_72 : decode cX12_barrel 72 = .ok (.iadd, 1) := by decide +kernel
theorem dX12_barrel_73 : decode cX12_barrel 73 = .ok (.iaload, 1) := by decide +kernel
theorem dX12_barrel_74 : decode cX12_barrel 74 = .ok (.if_icmp .gt 41, 3) := by decide +kernel
theorem dX12_barrel_77 : decode cX12_barrel 77 = .ok (.aload_n 0, 1) := by decide +kernel
theorem dX12_barrel_78 : decode cX12_barrel 78 = .ok (.getfield 7, 3) := by decide +kernel
theorem dX12_barrel_81 : decode cX12_barrel 81 = .ok (.iload 4, 2) := by decide +kernel
theorem dX12_barrel_83 : decode cX12_barrel 83 = .ok (.iconst 2, 1) := by decide +kernel
theorem dX12_barrel_84 : decode cX12_barrel 84 = .ok (.iadd, 1) := by decide +kernel
theorem dX12_barrel_85 : decode cX12_barrel 85 = .ok (.iaload, 1) := by decide +kernel
theorem dX12_barrel_86 : decode cX12_barrel 86 = .ok (.iconst 3, 1) := by decide +kernel
theorem dX12_barrel_87 : decode cX12_barrel 87 = .ok (.if_icmp .eq 24, 3) := by decide +kernel
theorem dX12_barrel_90 : decode cX12_barrel 90 = .ok (.aload_n 0, 1) := by decide +kernel
theorem dX12_barrel_91 : decode cX12_barrel 91 = .ok (.getfield 7, 3) := by decide +kernel
theorem dX12_barrel_94 : decode cX12_barrel 94 = .ok (.iload 4, 2) := by decide +kernel
theorem dX12_barrel_96 : decode cX12_barrel 96 = .ok (.iconst 2, 1) := by decide +kernel
theorem dX12_barrel_97 : decode cX12_barrel 97 = .ok (.iadd, 1) := by decide +kernel
theorem dX12_barrel_98 : decode cX12_barrel 98 = .ok (.iaload, 1) := by decide +kernel
theorem dX12_barrel_99 : decode cX12_barrel 99 = .ok (.aload_n 0, 1) := by decide +kernel
theorem dX12_barrel_100 : decode cX12_barrel 100 = .ok (.getfield 7, 3) := by decide +kernel
theorem dX12_barrel_103 : decode cX12_barrel 103 = .ok (.bipush 22, 2) := by decide +kernel
theorem dX12_barrel_105 : decode cX12_barrel 105 = .ok (.iload_n 2, 1) := by decide +kernel
theorem dX12_barrel_106 : decode cX12_barrel 106 = .ok (.iadd, 1) := by decide +kernel
theorem dX12_barrel_107 : decode cX12_barrel 107 = .ok (.iaload, 1) := by decide +kernel
theorem dX12_barrel_108 : decode cX12_barrel 108 = .ok (.if_icmp .ne 7, 3) := by decide +kernel
theorem dX12_barrel_111 : decode cX12_barrel 111 = .ok (.iconst 1, 1) := by decide +kernel
theorem dX12_barrel_112 : decode cX12_barrel 112 = .ok (.goto 4, 3) := by decide +kernel
theorem dX12_barrel_115 : decode cX12_barrel 115 = .ok (.iconst 0, 1) := by decide +kernel
theorem dX12_barrel_116 : decode cX12_barrel 116 = .ok (.istore 5, 2) := by decide +kernel
theorem dX12_barrel_118 : decode cX12_barrel 118 = .ok (.iload_n 1, 1) := by decide +kernel
theorem dX12_barrel_119 : decode cX12_barrel 119 = .ok (.iload 5, 2) := by decide +kernel
theorem dX12_barrel_121 : decode cX12_barrel 121 = .ok (.ifCond .eq 9, 3) := by decide +kernel
theorem dX12_barrel_124 : decode cX12_barrel 124 = .ok (.sipush 255, 3) := by decide +kernel
theorem dX12_barrel_127 : decode cX12_barrel 127 = .ok (.goto 8, 3) := by decide +kernel
theorem dX12_barrel_130 : decode cX12_barrel 130 = .ok (.iconst 1, 1) := by decide +kernel
theorem dX12_barrel_131 : decode cX12_barrel 131 = .ok (.iload_n 2, 1) := by decide +kernel
theorem dX12_barrel_132 : decode cX12_barrel 132 = .ok (.ishl, 1) := by decide +kernel
theorem dX12_barrel_133 : decode cX12_barrel 133 = .ok (.iconst (-1), 1) := by decide +kernel
theorem dX12_barrel_134 : decode cX12_barrel 134 = .ok (.ixor, 1) := by decide +kernel
theorem dX12_barrel_135 : decode cX12_barrel 135 = .ok (.iand, 1) := by decide +kernel
theorem dX12_barrel_136 : decode cX12_barrel 136 = .ok (.istore_n 1, 1) := by decide +kernel
theorem dX12_barrel_137 : decode cX12_barrel 137 = .ok (.iinc 3 1, 3) := by decide +kernel
theorem dX12_barrel_140 : decode cX12_barrel 140 = .ok (.goto (-121), 3) := by decide +kernel
theorem dX12_barrel_143 : decode cX12_barrel 143 = .ok (.iinc 2 1, 3) := by decide +kernel
theorem dX12_barrel_146 : decode cX12_barrel 146 = .ok (.goto (-139), 3) := by decide +kernel
theorem dX12_barrel_149 : decode cX12_barrel 149 = .ok (.iload_n 1, 1) := by decide +kernel
theorem dX12_barrel_150 : decode cX12_barrel 150 = .ok (.ireturn, 1) := by decide +kernel
theorem dX12_whose_0 : decode cX12_whose 0 = .ok (.iconst 0, 1) := by decide +kernel
theorem dX12_whose_1 : decode cX12_whose 1 = .ok (.istore_n 1, 1) := by decide +kernel
theorem dX12_whose_2 : decode cX12_whose 2 = .ok (.aload_n 0, 1) := by decide +kernel
theorem dX12_whose_3 : decode cX12_whose 3 = .ok (.invokevirtual 215, 3) := by decide +kernel
theorem dX12_whose_6 : decode cX12_whose 6 = .ok (.istore_n 2, 1) := by decide +kernel
theorem dX12_whose_7 : decode cX12_whose 7 = .ok (.iconst 0, 1) := by decide +kernel
theorem dX12_whose_8 : decode cX12_whose 8 = .ok (.istore_n 3, 1) := by decide +kernel
theorem dX12_whose_9 : decode cX12_whose 9 = .ok (.iload_n 3, 1) := by decide +kernel
theorem dX12_whose_10 : decode cX12_whose 10 = .ok (.aload_n 0, 1) := by decide +kernel
theorem dX12_whose_11 : decode cX12_whose 11 = .ok (.getfield 7, 3) := by decide +kernel
theorem dX12_whose_14 : decode cX12_whose 14 = .ok (.iconst 0, 1) := by decide +kernel
theorem dX12_whose_15 : decode cX12_whose 15 = .ok (.iaload, 1) := by decide +kernel
theorem dX12_whose_16 : decode cX12_whose 16 = .ok (.if_icmp .ge 35, 3) := by decide +kernel
theorem dX12_whose_19 : decode cX12_whose 19 = .ok (.iload_n 1, 1) := by decide +kernel
theorem dX12_whose_20 : decode cX12_whose 20 = .ok (.iload_n 2, 1) := by decide +kernel
theorem dX12_whose_21 : decode cX12_whose 21 = .ok (.iload_n 3, 1) := by decide +kernel
theorem dX12_whose_22 : decode cX12_whose 22 = .ok (.invokestatic 70, 3) := by decide +kernel
theorem dX12_whose_25 : decode cX12_whose 25 = .ok (.ifCond .eq 17, 3) := by decide +kernel
theorem dX12_whose_28 : decode cX12_whose 28 = .ok (.iconst 1, 1) := by decide +kernel
theorem dX12_whose_29 : decode cX12_whose 29 = .ok (.aload_n 0, 1) := by decide +kernel
theorem dX12_whose_30 : decode cX12_whose 30 = .ok (.getfield 7, 3) := by decide +kernel
theorem dX12_whose_33 : decode cX12_whose 33 = .ok (.bipush 14, 2) := by decide +kernel
theorem dX12_whose_35 : decode cX12_whose 35 = .ok (.iload_n 3, 1) := by decide +kernel
theorem dX12_whose_36 : decode cX12_whose 36 = .ok (.iadd, 1) := by decide +kernel
theorem dX12_whose_37 : decode cX12_whose 37 = .ok (.iaload, 1) := by decide +kernel
theorem dX12_whose_38 : decode cX12_whose 38 = .ok (.ishl, 1) := by decide +kernel
theorem dX12_whose_39 : decode cX12_whose 39 = .ok (.goto 4, 3) := by decide +kernel
theorem dX12_whose_42 : decode cX12_whose 42 = .ok (.iconst 0, 1) := by decide +kernel
theorem dX12_whose_43 : decode cX12_whose 43 = .ok (.ior, 1) := by decide +kernel
theorem dX12_whose_44 : decode cX12_whose 44 = .ok (.istore_n 1, 1) := by decide +kernel
theorem dX12_whose_45 : decode cX12_whose 45 = .ok (.iinc 3 1, 3) := by decide +kernel
theorem dX12_whose_48 : decode cX12_whose 48 = .ok (.goto (-39), 3) := by decide +kernel
theorem dX12_whose_51 : decode cX12_whose 51 = .ok (.iload_n 1, 1) := by decide +kernel
theorem dX12_whose_52 : decode cX12_whose 52 = .ok (.ireturn, 1) := by decide +kernel
theorem dX12_asks_0 : decode cX12_asks 0 = .ok (.aload_n 0, 1) := by decide +kernel
theorem dX12_asks_1 : decode cX12_asks 1 = .ok (.invokevirtual 215, 3) := by decide +kernel
theorem dX12_asks_4 : decode cX12_asks 4 = .ok (.istore_n 1, 1) := by decide +kernel
theorem dX12_asks_5 : decode cX12_asks 5 = .ok (.iconst (-1), 1) := by decide +kernel
theorem dX12_asks_6 : decode cX12_asks 6 = .ok (.istore_n 2, 1) := by decide +kernel
theorem dX12_asks_7 : decode cX12_asks 7 = .ok (.ldc 197, 2) := by decide +kernel
theorem dX12_asks_9 : decode cX12_asks 9 = .ok (.istore_n 3, 1) := by decide +kernel
theorem dX12_asks_10 : decode cX12_asks 10 = .ok (.iconst 0, 1) := by decide +kernel
theorem dX12_asks_11 : decode cX12_asks 11 = .ok (.istore 4, 2) := by decide +kernel
theorem dX12_asks_13 : decode cX12_asks 13 = .ok (.iload 4, 2) := by decide +kernel
theorem dX12_asks_15 : decode cX12_asks 15 = .ok (.bipush 9, 2) := by decide +kernel
theorem dX12_asks_17 : decode cX12_asks 17 = .ok (.if_icmp .ge 164, 3) := by decide +kernel
theorem dX12_asks_20 : decode cX12_asks 20 = .ok (.iload_n 1, 1) := by decide +kernel
theorem dX12_asks_21 : decode cX12_asks 21 = .ok (.ifCond .eq 160, 3) := by decide +kernel
theorem dX12_asks_24 : decode cX12_asks 24 = .ok (.iconst 0, 1) := by decide +kernel
theorem dX12_asks_25 : decode cX12_asks 25 = .ok (.istore 5, 2) := by decide +kernel
theorem dX12_asks_27 : decode cX12_asks 27 = .ok (.iconst 0, 1) := by decide +kernel
theorem dX12_asks_28 : decode cX12_asks 28 = .ok (.istore 6, 2) := by decide +kernel
theorem dX12_asks_30 : decode cX12_asks 30 = .ok (.iload 6, 2) := by decide +kernel
theorem dX12_asks_32 : decode cX12_asks 32 = .ok (.aload_n 0, 1) := by decide +kernel
theorem dX12_asks_33 : decode cX12_asks 33 = .ok (.getfield 7, 3) := by decide +kernel
theorem dX12_asks_36 : decode cX12_asks 36 = .ok (.iconst 0, 1) := by decide +kernel
theorem dX12_asks_37 : decode cX12_asks 37 = .ok (.iaload, 1) := by decide +kernel
theorem dX12_asks_38 : decode cX12_asks 38 = .ok (.if_icmp .ge 86, 3) := by decide +kernel
theorem dX12_asks_41 : decode cX12_asks 41 = .ok (.iload 4, 2) := by decide +kernel
theorem dX12_asks_43 : decode cX12_asks 43 = .ok (.iconst 3, 1) := by decide +kernel
theorem dX12_asks_44 : decode cX12_asks 44 = .ok (.if_icmp .ge 26, 3) := by decide +kernel
theorem dX12_asks_47 : decode cX12_asks 47 = .ok (.aload_n 0, 1) := by decide +kernel
theorem dX12_asks_48 : decode cX12_asks 48 = .ok (.getfield 7, 3) := by decide +kernel
theorem dX12_asks_51 : decode cX12_asks 51 = .ok (.bipush 22, 2) := by decide +kernel
theorem dX12_asks_53 : decode cX12_asks 53 = .ok (.iload 6, 2) := by decide +kernel
theorem dX12_asks_55 : decode cX12_asks 55 = .ok (.iadd, 1) := by decide +kernel
theorem dX12_asks_56 : decode cX12_asks 56 = .ok (.iaload, 1) := by decide +kernel
theorem dX12_asks_57 : decode cX12_asks 57 = .ok (.iload 4, 2) := by decide +kernel
theorem dX12_asks_59 : decode cX12_asks 59 = .ok (.if_icmp .ne 7, 3) := by decide +kernel
theorem dX12_asks_62 : decode cX12_asks 62 = .ok (.iconst 1, 1) := by decide +kernel
theorem dX12_asks_63 : decode cX12_asks 63 = .ok (.goto 29, 3) := by decide +kernel
theorem dX12_asks_66 : decode cX12_asks 66 = .ok (.iconst 0, 1) := by decide +kernel
theorem dX12_asks_67 : decode cX12_asks 67 = .ok (.goto 25, 3) := by decide +kernel
theorem dX12_asks_70 : decode cX12_asks 70 = .ok (.aload_n 0, 1) := by decide +kernel
theorem dX12_asks_71 : decode cX12_asks 71 = .ok (.getfield 7, 3) := by decide +kernel
theorem dX12_asks_74 : decode cX12_asks 74 = .ok (.bipush 6, 2) := by decide +kernel
theorem dX12_asks_76 : decode cX12_asks 76 = .ok (.iload 6, 2) := by decide +kernel
theorem dX12_asks_78 : decode cX12_asks 78 = .ok (.iadd, 1) := by decide +kernel
theorem dX12_asks_79 : decode cX12_asks 79 = .ok (.iaload, 1) := by decide +kernel
theorem dX12_asks_80 : decode cX12_asks 80 = .ok (.iload 4, 2) := by decide +kernel
theorem dX12_asks_82 : decode cX12_asks 82 = .ok (.iconst 3, 1) := by decide +kernel
theorem dX12_asks_83 : decode cX12_asks 83 = .ok (.isub, 1) := by decide +kernel
theorem dX12_asks_84 : decode cX12_asks 84 = .ok (.if_icmp .ne 7, 3) := by decide +kernel
theorem dX12_asks_87 : decode cX12_asks 87 = .ok (.iconst 1, 1) := by decide +kernel
theorem dX12_asks_88 : decode cX12_asks 88 = .ok (.goto 4, 3) := by decide +kernel
theorem dX12_asks_91 : decode cX12_asks 91 = .ok (.iconst 0, 1) := by decide +kernel
theorem dX12_asks_92 : decode cX12_asks 92 = .ok (.istore 7, 2) := by decide +kernel
theorem dX12_asks_94 : decode cX12_asks 94 = .ok (.iload 5, 2) := by decide +kernel
theorem dX12_asks_96 : decode cX12_asks 96 = .ok (.iload_n 1, 1) := by decide +kernel
theorem dX12_asks_97 : decode cX12_asks 97 = .ok (.iload 6, 2) := by decide +kernel
theorem dX12_asks_99 : decode cX12_asks 99 = .ok (.invokestatic 70, 3) := by decide +kernel
theorem dX12_asks_102 : decode cX12_asks 102 = .ok (.ifCond .eq 12, 3) := by decide +kernel
theorem dX12_asks_105 : decode cX12_asks 105 = .ok (.iload 7, 2) := by decide +kernel
theorem dX12_asks_107 : decode cX12_asks 107 = .ok (.ifCond .eq 7, 3) := by decide +kernel
theorem dX12_asks_110 : decode cX12_asks 110 = .ok (.iconst 1, 1) := by decide +kernel
theorem dX12_asks_111 : decode cX12_asks 111 = .ok (.goto 4, 3) := by decide +kernel
theorem dX12_asks_114 : decode cX12_asks 114 = .ok (.iconst 0, 1) := by decide +kernel
theorem dX12_asks_115 : decode cX12_asks 115 = .ok (.iadd, 1) := by decide +kernel
theorem dX12_asks_116 : decode cX12_asks 116 = .ok (.istore 5, 2) := by decide +kernel
theorem dX12_asks_118 : decode cX12_asks 118 = .ok (.iinc 6 1, 3) := by decide +kernel
theorem dX12_asks_121 : decode cX12_asks 121 = .ok (.goto (-91), 3) := by decide +kernel
theorem dX12_asks_124 : decode cX12_asks 124 = .ok (.iload_n 1, 1) := by decide +kernel
theorem dX12_asks_125 : decode cX12_asks 125 = .ok (.invokestatic 155, 3) := by decide +kernel
theorem dX12_asks_128 : decode cX12_asks 128 = .ok (.iload 5, 2) := by decide +kernel
theorem dX12_asks_130 : decode cX12_asks 130 = .ok (.isub, 1) := by decide +kernel
theorem dX12_asks_131 : decode cX12_asks 131 = .ok (.istore 6, 2) := by decide +kernel
theorem dX12_asks_133 : decode cX12_asks 133 = .ok (.iload 5, 2) := by decide +kernel
theorem dX12_asks_135 : decode cX12_asks 135 = .ok (.iload 6, 2) := by decide +kernel
theorem dX12_asks_137 : decode cX12_asks 137 = .ok (.if_icmp .le 8, 3) := by decide +kernel
theorem dX12_asks_140 : decode cX12_asks 140 = .ok (.iload 5, 2) := by decide +kernel
theorem dX12_asks_142 : decode cX12_asks 142 = .ok (.goto 5, 3) := by decide +kernel
theorem dX12_asks_145 : decode cX12_asks 145 = .ok (.iload 6, 2) := by decide +kernel
theorem dX12_asks_147 : decode cX12_asks 147 = .ok (.istore 7, 2) := by decide +kernel
theorem dX12_asks_149 : decode cX12_asks 149 = .ok (.iload 7, 2) := by decide +kernel
theorem dX12_asks_151 : decode cX12_asks 151 = .ok (.iload_n 3, 1) := by decide +kernel
theorem dX12_asks_152 : decode cX12_asks 152 = .ok (.if_icmp .ge 8, 3) := by decide +kernel
theorem dX12_asks_155 : decode cX12_asks 155 = .ok (.iload 4, 2) := by decide +kernel
theorem dX12_asks_157 : decode cX12_asks 157 = .ok (.goto 4, 3) := by decide +kernel
theorem dX12_asks_160 : decode cX12_asks 160 = .ok (.iload_n 2, 1) := by decide +kernel
theorem dX12_asks_161 : decode cX12_asks 161 = .ok (.istore_n 2, 1) := by decide +kernel
theorem dX12_asks_162 : decode cX12_asks 162 = .ok (.iload 7, 2) := by decide +kernel
theorem dX12_asks_164 : decode cX12_asks 164 = .ok (.iload_n 3, 1) := by decide +kernel
theorem dX12_asks_165 : decode cX12_asks 165 = .ok (.if_icmp .ge 8, 3) := by decide +kernel
theorem dX12_asks_168 : decode cX12_asks 168 = .ok (.iload 7, 2) := by decide +kernel
theorem dX12_asks_170 : decode cX12_asks 170 = .ok (.goto 4, 3) := by decide +kernel
theorem dX12_asks_173 : decode cX12_asks 173 = .ok (.iload_n 3, 1) := by decide +kernel
theorem dX12_asks_174 : decode cX12_asks 174 = .ok (.istore_n 3, 1) := by decide +kernel
theorem dX12_asks_175 : decode cX12_asks 175 = .ok (.iinc 4 1, 3) := by decide +kernel
theorem dX12_asks_178 : decode cX12_asks 178 = .ok (.goto (-165), 3) := by decide +kernel
theorem dX12_asks_181 : decode cX12_asks 181 = .ok (.iload_n 2, 1) := by decide +kernel
theorem dX12_asks_182 : decode cX12_asks 182 = .ok (.ireturn, 1) := by decide +kernel
theorem dX12_odds_0 : decode cX12_odds 0 = .ok (.iload_n 1, 1) := by decide +kernel
theorem dX12_odds_1 : decode cX12_odds 1 = .ok (.i2l, 1) := by decide +kernel
theorem dX12_odds_2 : decode cX12_odds 2 = .ok (.lconst 0, 1) := by decide +kernel
theorem dX12_odds_3 : decode cX12_odds 3 = .ok (.ldc2_w 218, 3) := by decide +kernel
theorem dX12_odds_6 : decode cX12_odds 6 = .ok (.invokestatic 34, 3) := by decide +kernel
theorem dX12_odds_9 : decode cX12_odds 9 = .ok (.ifCond .ne 8, 3) := by decide +kernel
theorem dX12_odds_12 : decode cX12_odds 12 = .ok (.aload_n 0, 1) := by decide +kernel
theorem dX12_odds_13 : decode cX12_odds 13 = .ok (.invokevirtual 44, 3) := by decide +kernel
theorem dX12_odds_16 : decode cX12_odds 16 = .ok (.ireturn, 1) := by decide +kernel
theorem dX12_odds_17 : decode cX12_odds 17 = .ok (.iconst 0, 1) := by decide +kernel
theorem dX12_odds_18 : decode cX12_odds 18 = .ok (.istore_n 2, 1) := by decide +kernel
theorem dX12_odds_19 : decode cX12_odds 19 = .ok (.iload_n 1, 1) := by decide +kernel
theorem dX12_odds_20 : decode cX12_odds 20 = .ok (.istore_n 3, 1) := by decide +kernel
theorem dX12_odds_21 : decode cX12_odds 21 = .ok (.iload_n 3, 1) := by decide +kernel
theorem dX12_odds_22 : decode cX12_odds 22 = .ok (.iload_n 1, 1) := by decide +kernel
theorem dX12_odds_23 : decode cX12_odds 23 = .ok (.bipush 10, 2) := by decide +kernel
theorem dX12_odds_25 : decode cX12_odds 25 = .ok (.iadd, 1) := by decide +kernel
theorem dX12_odds_26 : decode cX12_odds 26 = .ok (.if_icmp .ge 31, 3) := by decide +kernel
theorem dX12_odds_29 : decode cX12_odds 29 = .ok (.iload_n 2, 1) := by decide +kernel
theorem dX12_odds_30 : decode cX12_odds 30 = .ok (.aload_n 0, 1) := by decide +kernel
theorem dX12_odds_31 : decode cX12_odds 31 = .ok (.aload_n 0, 1) := by decide +kernel
theorem dX12_odds_32 : decode cX12_odds 32 = .ok (.getfield 7, 3) := by decide +kernel
theorem dX12_odds_35 : decode cX12_odds 35 = .ok (.iconst 5, 1) := by decide +kernel
theorem dX12_odds_36 : decode cX12_odds 36 = .ok (.iaload, 1) := by decide +kernel
theorem dX12_odds_37 : decode cX12_odds 37 = .ok (.iload_n 3, 1) := by decide +kernel
theorem dX12_odds_38 : decode cX12_odds 38 = .ok (.invokevirtual 166, 3) := by decide +kernel
theorem dX12_odds_41 : decode cX12_odds 41 = .ok (.ifCond .eq 7, 3) := by decide +kernel
theorem dX12_odds_44 : decode cX12_odds 44 = .ok (.iconst 1, 1) := by decide +kernel
theorem dX12_odds_45 : decode cX12_odds 45 = .ok (.goto 4, 3) := by decide +kernel
theorem dX12_odds_48 : decode cX12_odds 48 = .ok (.iconst 0, 1) := by decide +kernel
theorem dX12_odds_49 : decode cX12_odds 49 = .ok (.iadd, 1) := by decide +kernel
theorem dX12_odds_50 : decode cX12_odds 50 = .ok (.istore_n 2, 1) := by decide +kernel
theorem dX12_odds_51 : decode cX12_odds 51 = .ok (.iinc 3 1, 3) := by decide +kernel
theorem dX12_odds_54 : decode cX12_odds 54 = .ok (.goto (-33), 3) := by decide +kernel
theorem dX12_odds_57 : decode cX12_odds 57 = .ok (.aload_n 0, 1) := by decide +kernel
theorem dX12_odds_58 : decode cX12_odds 58 = .ok (.iload_n 2, 1) := by decide +kernel
theorem dX12_odds_59 : decode cX12_odds 59 = .ok (.i2l, 1) := by decide +kernel
theorem dX12_odds_60 : decode cX12_odds 60 = .ok (.ldc2_w 220, 3) := by decide +kernel
theorem dX12_odds_63 : decode cX12_odds 63 = .ok (.invokevirtual 186, 3) := by decide +kernel
theorem dX12_odds_66 : decode cX12_odds 66 = .ok (.ireturn, 1) := by decide +kernel
theorem dX12_safe_0 : decode cX12_safe 0 = .ok (.iconst (-1), 1) := by decide +kernel
theorem dX12_safe_1 : decode cX12_safe 1 = .ok (.istore_n 1, 1) := by decide +kernel
theorem dX12_safe_2 : decode cX12_safe 2 = .ok (.iconst 0, 1) := by decide +kernel
theorem dX12_safe_3 : decode cX12_safe 3 = .ok (.istore_n 2, 1) := by decide +kernel
theorem dX12_safe_4 : decode cX12_safe 4 = .ok (.iload_n 2, 1) := by decide +kernel
theorem dX12_safe_5 : decode cX12_safe 5 = .ok (.sipush 200, 3) := by decide +kernel
theorem dX12_safe_8 : decode cX12_safe 8 = .ok (.if_icmp .gt 29, 3) := by decide +kernel
theorem dX12_safe_11 : decode cX12_safe 11 = .ok (.aload_n 0, 1) := by decide +kernel
theorem dX12_safe_12 : decode cX12_safe 12 = .ok (.aload_n 0, 1) := by decide +kernel
theorem dX12_safe_13 : decode cX12_safe 13 = .ok (.getfield 7, 3) := by decide +kernel
theorem dX12_safe_16 : decode cX12_safe 16 = .ok (.iconst 5, 1) := by decide +kernel
theorem dX12_safe_17 : decode cX12_safe 17 = .ok (.iaload, 1) := by decide +kernel
theorem dX12_safe_18 : decode cX12_safe 18 = .ok (.iload_n 2, 1) := by decide +kernel
theorem dX12_safe_19 : decode cX12_safe 19 = .ok (.invokevirtual 166, 3) := by decide +kernel
theorem dX12_safe_22 : decode cX12_safe 22 = .ok (.ifCond .eq 7, 3) := by decide +kernel
theorem dX12_safe_25 : decode cX12_safe 25 = .ok (.iload_n 2, 1) := by decide +kernel
theorem dX12_safe_26 : decode cX12_safe 26 = .ok (.goto 4, 3) := by decide +kernel
theorem dX12_safe_29 : decode cX12_safe 29 = .ok (.iload_n 1, 1) := by decide +kernel
theorem dX12_safe_30 : decode cX12_safe 30 = .ok (.istore_n 1, 1) := by decide +kernel
theorem dX12_safe_31 : decode cX12_safe 31 = .ok (.iinc 2 1, 3) := by decide +kernel
theorem dX12_safe_34 : decode cX12_safe 34 = .ok (.goto (-30), 3) := by decide +kernel
theorem dX12_safe_37 : decode cX12_safe 37 = .ok (.iload_n 1, 1) := by decide +kernel
theorem dX12_safe_38 : decode cX12_safe 38 = .ok (.ireturn, 1) := by decide +kernel
theorem dX12_voyages_0 : decode cX12_voyages 0 = .ok (.iload_n 1, 1) := by decide +kernel
theorem dX12_voyages_1 : decode cX12_voyages 1 = .ok (.i2l, 1) := by decide +kernel
theorem dX12_voyages_2 : decode cX12_voyages 2 = .ok (.lconst 0, 1) := by decide +kernel
theorem dX12_voyages_3 : decode cX12_voyages 3 = .ok (.ldc2_w 222, 3) := by decide +kernel
theorem dX12_voyages_6 : decode cX12_voyages 6 = .ok (.invokestatic 34, 3) := by decide +kernel
theorem dX12_voyages_9 : decode cX12_voyages 9 = .ok (.ifCond .eq 15, 3) := by decide +kernel
theorem dX12_voyages_12 : decode cX12_voyages 12 = .ok (.iload_n 2, 1) := by decide +kernel
theorem dX12_voyages_13 : decode cX12_voyages 13 = .ok (.i2l, 1) := by decide +kernel
theorem dX12_voyages_14 : decode cX12_voyages 14 = .ok (.lconst 0, 1) := by decide +kernel
theorem dX12_voyages_15 : decode cX12_voyages 15 = .ok (.ldc2_w 224, 3) := by decide +kernel
theorem dX12_voyages_18 : decode cX12_voyages 18 = .ok (.invokestatic 34, 3) := by decide +kernel
theorem dX12_voyages_21 : decode cX12_voyages 21 = .ok (.ifCond .ne 8, 3) := by decide +kernel
theorem dX12_voyages_24 : decode cX12_voyages 24 = .ok (.aload_n 0, 1) := by decide +kernel
theorem dX12_voyages_25 : decode cX12_voyages 25 = .ok (.invokevirtual 44, 3) := by decide +kernel
theorem dX12_voyages_28 : decode cX12_voyages 28 = .ok (.ireturn, 1) := by decide +kernel
theorem dX12_voyages_29 : decode cX12_voyages 29 = .ok (.iload_n 1, 1) := by decide +kernel
theorem dX12_voyages_30 : decode cX12_voyages 30 = .ok (.i2l, 1) := by decide +kernel
theorem dX12_voyages_31 : decode cX12_voyages 31 = .ok (.lstore_n 3, 1) := by decide +kernel
theorem dX12_voyages_32 : decode cX12_voyages 32 = .ok (.aload_n 0, 1) := by decide +kernel
theorem dX12_voyages_33 : decode cX12_voyages 33 = .ok (.getfield 7, 3) := by decide +kernel
theorem dX12_voyages_36 : decode cX12_voyages 36 = .ok (.iconst 5, 1) := by decide +kernel
theorem dX12_voyages_37 : decode cX12_voyages 37 = .ok (.iaload, 1) := by decide +kernel
theorem dX12_voyages_38 : decode cX12_voyages 38 = .ok (.istore 5, 2) := by decide +kernel
theorem dX12_voyages_40 : decode cX12_voyages 40 = .ok (.iconst 0, 1) := by decide +kernel
theorem dX12_voyages_41 : decode cX12_voyages 41 = .ok (.istore 6, 2) := by decide +kernel
theorem dX12_voyages_43 : decode cX12_voyages 43 = .ok (.iload 6, 2) := by decide +kernel
theorem dX12_voyages_45 : decode cX12_voyages 45 = .ok (.iload_n 2, 1) := by decide +kernel
theorem dX12_voyages_46 : decode cX12_voyages 46 = .ok (.if_icmp .ge 62, 3) := by decide +kernel
theorem dX12_voyages_49 : decode cX12_voyages 49 = .ok (.lload_n 3, 1) := by decide +kernel
theorem dX12_voyages_50 : decode cX12_voyages 50 = .ok (.ldc2_w 226, 3) := by decide +kernel
theorem dX12_voyages_53 : decode cX12_voyages 53 = .ok (.lmul, 1) := by decide +kernel
theorem dX12_voyages_54 : decode cX12_voyages 54 = .ok (.ldc2_w 228, 3) := by decide +kernel
theorem dX12_voyages_57 : decode cX12_voyages 57 = .ok (.ladd, 1) := by decide +kernel
theorem dX12_voyages_58 : decode cX12_voyages 58 = .ok (.ldc2_w 230, 3) := by decide +kernel
theorem dX12_voyages_61 : decode cX12_voyages 61 = .ok (.lrem, 1) := by decide +kernel
theorem dX12_voyages_62 : decode cX12_voyages 62 = .ok (.lstore_n 3, 1) := by decide +kernel
theorem dX12_voyages_63 : decode cX12_voyages 63 = .ok (.aload_n 0, 1) := by decide +kernel
theorem dX12_voyages_64 : decode cX12_voyages 64 = .ok (.iload 5, 2) := by decide +kernel
theorem dX12_voyages_66 : decode cX12_voyages 66 = .ok (.lload_n 3, 1) := by decide +kernel
theorem dX12_voyages_67 : decode cX12_voyages 67 = .ok (.ldc2_w 232, 3) := by decide +kernel
theorem dX12_voyages_70 : decode cX12_voyages 70 = .ok (.ldiv, 1) := by decide +kernel
theorem dX12_voyages_71 : decode cX12_voyages 71 = .ok (.ldc2_w 234, 3) := by decide +kernel
theorem dX12_voyages_74 : decode cX12_voyages 74 = .ok (.lrem, 1) := by decide +kernel
theorem dX12_voyages_75 : decode cX12_voyages 75 = .ok (.l2i, 1) := by decide +kernel
theorem dX12_voyages_76 : decode cX12_voyages 76 = .ok (.iconst (-1), 1) := by decide +kernel
theorem dX12_voyages_77 : decode cX12_voyages 77 = .ok (.iconst 0, 1) := by decide +kernel
theorem dX12_voyages_78 : decode cX12_voyages 78 = .ok (.invokevirtual 208, 3) := by decide +kernel
theorem dX12_voyages_81 : decode cX12_voyages 81 = .ok (.aload_n 0, 1) := by decide +kernel
theorem dX12_voyages_82 : decode cX12_voyages 82 = .ok (.getfield 194, 3) := by decide +kernel
theorem dX12_voyages_85 : decode cX12_voyages 85 = .ok (.iconst (-1), 1) := by decide +kernel
theorem dX12_voyages_86 : decode cX12_voyages 86 = .ok (.if_icmp .ne 5, 3) := by decide +kernel
theorem dX12_voyages_89 : decode cX12_voyages 89 = .ok (.iconst 0, 1) := by decide +kernel
theorem dX12_voyages_90 : decode cX12_voyages 90 = .ok (.ireturn, 1) := by decide +kernel
theorem dX12_voyages_91 : decode cX12_voyages 91 = .ok (.iload 5, 2) := by decide +kernel
theorem dX12_voyages_93 : decode cX12_voyages 93 = .ok (.aload_n 0, 1) := by decide +kernel
theorem dX12_voyages_94 : decode cX12_voyages 94 = .ok (.getfield 194, 3) := by decide +kernel
theorem dX12_voyages_97 : decode cX12_voyages 97 = .ok (.iconst (-1), 1) := by decide +kernel
theorem dX12_voyages_98 : decode cX12_voyages 98 = .ok (.ixor, 1) := by decide +kernel
theorem dX12_voyages_99 : decode cX12_voyages 99 = .ok (.iand, 1) := by decide +kernel
theorem dX12_voyages_100 : decode cX12_voyages 100 = .ok (.istore 5, 2) := by decide +kernel
theorem dX12_voyages_102 : decode cX12_voyages 102 = .ok (.iinc 6 1, 3) := by decide +kernel
theorem dX12_voyages_105 : decode cX12_voyages 105 = .ok (.goto (-62), 3) := by decide +kernel
theorem dX12_voyages_108 : decode cX12_voyages 108 = .ok (.aload_n 0, 1) := by decide +kernel
theorem dX12_voyages_109 : decode cX12_voyages 109 = .ok (.iload 5, 2) := by decide +kernel
theorem dX12_voyages_111 : decode cX12_voyages 111 = .ok (.invokevirtual 175, 3) := by decide +kernel
theorem dX12_voyages_114 : decode cX12_voyages 114 = .ok (.ireturn, 1) := by decide +kernel
theorem dX12_part_0 : decode cX12_part 0 = .ok (.iload_n 1, 1) := by decide +kernel
theorem dX12_part_1 : decode cX12_part 1 = .ok (.ifCond .ne 10, 3) := by decide +kernel
theorem dX12_part_4 : decode cX12_part 4 = .ok (.aload_n 0, 1) := by decide +kernel
theorem dX12_part_5 : decode cX12_part 5 = .ok (.getfield 178, 3) := by decide +kernel
theorem dX12_part_8 : decode cX12_part 8 = .ok (.goto 20, 3) := by decide +kernel
theorem dX12_part_11 : decode cX12_part 11 = .ok (.iload_n 1, 1) := by decide +kernel
theorem dX12_part_12 : decode cX12_part 12 = .ok (.iconst 1, 1) := by decide +kernel
theorem dX12_part_13 : decode cX12_part 13 = .ok (.if_icmp .ne 10, 3) := by decide +kernel
theorem dX12_part_16 : decode cX12_part 16 = .ok (.aload_n 0, 1) := by decide +kernel
theorem dX12_part_17 : decode cX12_part 17 = .ok (.getfield 23, 3) := by decide +kernel
theorem dX12_part_20 : decode cX12_part 20 = .ok (.goto 8, 3) := by decide +kernel
theorem dX12_part_23 : decode cX12_part 23 = .ok (.aload_n 0, 1) := by decide +kernel
theorem dX12_part_24 : decode cX12_part 24 = .ok (.invokevirtual 44, 3) := by decide +kernel
theorem dX12_part_27 : decode cX12_part 27 = .ok (.i2l, 1) := by decide +kernel
theorem dX12_part_28 : decode cX12_part 28 = .ok (.lreturn, 1) := by decide +kernel
theorem dX12_image_0 : decode cX12_image 0 = .ok (.iload_n 1, 1) := by decide +kernel
theorem dX12_image_1 : decode cX12_image 1 = .ok (.i2l, 1) := by decide +kernel
theorem dX12_image_2 : decode cX12_image 2 = .ok (.lconst 0, 1) := by decide +kernel
theorem dX12_image_3 : decode cX12_image 3 = .ok (.lconst 1, 1) := by decide +kernel
theorem dX12_image_4 : decode cX12_image 4 = .ok (.invokestatic 34, 3) := by decide +kernel
theorem dX12_image_7 : decode cX12_image 7 = .ok (.ifCond .ne 8, 3) := by decide +kernel
theorem dX12_image_10 : decode cX12_image 10 = .ok (.aload_n 0, 1) := by decide +kernel
theorem dX12_image_11 : decode cX12_image 11 = .ok (.invokevirtual 44, 3) := by decide +kernel
theorem dX12_image_14 : decode cX12_image 14 = .ok (.ireturn, 1) := by decide +kernel
theorem dX12_image_15 : decode cX12_image 15 = .ok (.aload_n 0, 1) := by decide +kernel
theorem dX12_image_16 : decode cX12_image 16 = .ok (.iconst 0, 1) := by decide +kernel
theorem dX12_image_17 : decode cX12_image 17 = .ok (.bipush 80, 2) := by decide +kernel
theorem dX12_image_19 : decode cX12_image 19 = .ok (.iconst 1, 1) := by decide +kernel
theorem dX12_image_20 : decode cX12_image 20 = .ok (.iload_n 1, 1) := by decide +kernel
theorem dX12_image_21 : decode cX12_image 21 = .ok (.iadd, 1) := by decide +kernel
theorem dX12_image_22 : decode cX12_image 22 = .ok (.imul, 1) := by decide +kernel
theorem dX12_image_23 : decode cX12_image 23 = .ok (.invokevirtual 135, 3) := by decide +kernel
theorem dX12_image_26 : decode cX12_image 26 = .ok (.aload_n 0, 1) := by decide +kernel
theorem dX12_image_27 : decode cX12_image 27 = .ok (.getfield 13, 3) := by decide +kernel
theorem dX12_image_30 : decode cX12_image 30 = .ok (.iload_n 1, 1) := by decide +kernel
theorem dX12_image_31 : decode cX12_image 31 = .ok (.iconst 1, 1) := by decide +kernel
theorem dX12_image_32 : decode cX12_image 32 = .ok (.bastore, 1) := by decide +kernel
theorem dX12_image_33 : decode cX12_image 33 = .ok (.iconst 1, 1) := by decide +kernel
theorem dX12_image_34 : decode cX12_image 34 = .ok (.ireturn, 1) := by decide +kernel
theorem dX12_from_0 : decode cX12_from 0 = .ok (.iload_n 1, 1) := by decide +kernel
theorem dX12_from_1 : decode cX12_from 1 = .ok (.i2l, 1) := by decide +kernel
theorem dX12_from_2 : decode cX12_from 2 = .ok (.lconst 0, 1) := by decide +kernel
theorem dX12_from_3 : decode cX12_from 3 = .ok (.lconst 1, 1) := by decide +kernel
theorem dX12_from_4 : decode cX12_from 4 = .ok (.invokestatic 34, 3) := by decide +kernel
theorem dX12_from_7 : decode cX12_from 7 = .ok (.ifCond .ne 8, 3) := by decide +kernel
theorem dX12_from_10 : decode cX12_from 10 = .ok (.aload_n 0, 1) := by decide +kernel
theorem dX12_from_11 : decode cX12_from 11 = .ok (.invokevirtual 44, 3) := by decide +kernel
theorem dX12_from_14 : decode cX12_from 14 = .ok (.ireturn, 1) := by decide +kernel
theorem dX12_from_15 : decode cX12_from 15 = .ok (.aload_n 0, 1) := by decide +kernel
theorem dX12_from_16 : decode cX12_from 16 = .ok (.getfield 13, 3) := by decide +kernel
theorem dX12_from_19 : decode cX12_from 19 = .ok (.iload_n 1, 1) := by decide +kernel
theorem dX12_from_20 : decode cX12_from 20 = .ok (.baload, 1) := by decide +kernel
theorem dX12_from_21 : decode cX12_from 21 = .ok (.ifCond .ne 8, 3) := by decide +kernel
theorem dX12_from_24 : decode cX12_from 24 = .ok (.aload_n 0, 1) := by decide +kernel
theorem dX12_from_25 : decode cX12_from 25 = .ok (.invokevirtual 152, 3) := by decide +kernel
theorem dX12_from_28 : decode cX12_from 28 = .ok (.ireturn, 1) := by decide +kernel
theorem dX12_from_29 : decode cX12_from 29 = .ok (.aload_n 0, 1) := by decide +kernel
theorem dX12_from_30 : decode cX12_from 30 = .ok (.bipush 80, 2) := by decide +kernel
theorem dX12_from_32 : decode cX12_from 32 = .ok (.iconst 1, 1) := by decide +kernel
theorem dX12_from_33 : decode cX12_from 33 = .ok (.iload_n 1, 1) := by decide +kernel
theorem dX12_from_34 : decode cX12_from 34 = .ok (.iadd, 1) := by decide +kernel
theorem dX12_from_35 : decode cX12_from 35 = .ok (.imul, 1) := by decide +kernel
theorem dX12_from_36 : decode cX12_from 36 = .ok (.iconst 0, 1) := by decide +kernel
theorem dX12_from_37 : decode cX12_from 37 = .ok (.invokevirtual 135, 3) := by decide +kernel
theorem dX12_from_40 : decode cX12_from 40 = .ok (.iconst 1, 1) := by decide +kernel
theorem dX12_from_41 : decode cX12_from 41 = .ok (.ireturn, 1) := by decide +kernel
theorem dX12_status_0 : decode cX12_status 0 = .ok (.iload_n 1, 1) := by decide +kernel
theorem dX12_status_1 : decode cX12_status 1 = .ok (.i2l, 1) := by decide +kernel
theorem dX12_status_2 : decode cX12_status 2 = .ok (.lconst 0, 1) := by decide +kernel
theorem dX12_status_3 : decode cX12_status 3 = .ok (.ldc2_w 54, 3) := by decide +kernel
theorem dX12_status_6 : decode cX12_status 6 = .ok (.invokestatic 34, 3) := by decide +kernel
theorem dX12_status_9 : decode cX12_status 9 = .ok (.ifCond .eq 12, 3) := by decide +kernel
theorem dX12_status_12 : decode cX12_status 12 = .ok (.aload_n 0, 1) := by decide +kernel
theorem dX12_status_13 : decode cX12_status 13 = .ok (.getfield 20, 3) := by decide +kernel
theorem dX12_status_16 : decode cX12_status 16 = .ok (.iload_n 1, 1) := by decide +kernel
theorem dX12_status_17 : decode cX12_status 17 = .ok (.iaload, 1) := by decide +kernel
theorem dX12_status_18 : decode cX12_status 18 = .ok (.goto 8, 3) := by decide +kernel
theorem dX12_status_21 : decode cX12_status 21 = .ok (.aload_n 0, 1) := by decide +kernel
theorem dX12_status_22 : decode cX12_status 22 = .ok (.iconst (-1), 1) := by decide +kernel
theorem dX12_status_23 : decode cX12_status 23 = .ok (.invokevirtual 205, 3) := by decide +kernel
theorem dX12_status_26 : decode cX12_status 26 = .ok (.ireturn, 1) := by decide +kernel
theorem dX12_countOf_0 : decode cX12_countOf 0 = .ok (.iload_n 1, 1) := by decide +kernel
theorem dX12_countOf_1 : decode cX12_countOf 1 = .ok (.tableswitch 84 0 5 #[39, 46, 56, 63, 70, 77], 39) := by decide +kernel
theorem dX12_countOf_40 : decode cX12_countOf 40 = .ok (.aload_n 0, 1) := by decide +kernel
theorem dX12_countOf_41 : decode cX12_countOf 41 = .ok (.getfield 7, 3) := by decide +kernel
theorem dX12_countOf_44 : decode cX12_countOf 44 = .ok (.iconst 0, 1) := by decide +kernel
theorem dX12_countOf_45 : decode cX12_countOf 45 = .ok (.iaload, 1) := by decide +kernel
theorem dX12_countOf_46 : decode cX12_countOf 46 = .ok (.ireturn, 1) := by decide +kernel
theorem dX12_countOf_47 : decode cX12_countOf 47 = .ok (.aload_n 0, 1) := by decide +kernel
theorem dX12_countOf_48 : decode cX12_countOf 48 = .ok (.getfield 7, 3) := by decide +kernel
theorem dX12_countOf_51 : decode cX12_countOf 51 = .ok (.iconst 5, 1) := by decide +kernel
theorem dX12_countOf_52 : decode cX12_countOf 52 = .ok (.iaload, 1) := by decide +kernel
theorem dX12_countOf_53 : decode cX12_countOf 53 = .ok (.invokestatic 155, 3) := by decide +kernel
theorem dX12_countOf_56 : decode cX12_countOf 56 = .ok (.ireturn, 1) := by decide +kernel
theorem dX12_countOf_57 : decode cX12_countOf 57 = .ok (.aload_n 0, 1) := by decide +kernel
theorem dX12_countOf_58 : decode cX12_countOf 58 = .ok (.getfield 7, 3) := by decide +kernel
theorem dX12_countOf_61 : decode cX12_countOf 61 = .ok (.iconst 1, 1) := by decide +kernel
theorem dX12_countOf_62 : decode cX12_countOf 62 = .ok (.iaload, 1) := by decide +kernel
theorem dX12_countOf_63 : decode cX12_countOf 63 = .ok (.ireturn, 1) := by decide +kernel
theorem dX12_countOf_64 : decode cX12_countOf 64 = .ok (.aload_n 0, 1) := by decide +kernel
theorem dX12_countOf_65 : decode cX12_countOf 65 = .ok (.getfield 7, 3) := by decide +kernel
theorem dX12_countOf_68 : decode cX12_countOf 68 = .ok (.iconst 2, 1) := by decide +kernel
theorem dX12_countOf_69 : decode cX12_countOf 69 = .ok (.iaload, 1) := by decide +kernel
theorem dX12_countOf_70 : decode cX12_countOf 70 = .ok (.ireturn, 1) := by decide +kernel
theorem dX12_countOf_71 : decode cX12_countOf 71 = .ok (.aload_n 0, 1) := by decide +kernel
theorem dX12_countOf_72 : decode cX12_countOf 72 = .ok (.getfield 7, 3) := by decide +kernel
theorem dX12_countOf_75 : decode cX12_countOf 75 = .ok (.iconst 3, 1) := by decide +kernel
theorem dX12_countOf_76 : decode cX12_countOf 76 = .ok (.iaload, 1) := by decide +kernel
theorem dX12_countOf_77 : decode cX12_countOf 77 = .ok (.ireturn, 1) := by decide +kernel
theorem dX12_countOf_78 : decode cX12_countOf 78 = .ok (.aload_n 0, 1) := by decide +kernel
theorem dX12_countOf_79 : decode cX12_countOf 79 = .ok (.getfield 7, 3) := by decide +kernel
theorem dX12_countOf_82 : decode cX12_countOf 82 = .ok (.iconst 4, 1) := by decide +kernel
theorem dX12_countOf_83 : decode cX12_countOf 83 = .ok (.iaload, 1) := by decide +kernel
theorem dX12_countOf_84 : decode cX12_countOf 84 = .ok (.ireturn, 1) := by decide +kernel
theorem dX12_countOf_85 : decode cX12_countOf 85 = .ok (.aload_n 0, 1) := by decide +kernel
theorem dX12_countOf_86 : decode cX12_countOf 86 = .ok (.getfield 80, 3) := by decide +kernel
theorem dX12_countOf_89 : decode cX12_countOf 89 = .ok (.ireturn, 1) := by decide +kernel
theorem dX12_count_0 : decode cX12_count 0 = .ok (.iload_n 1, 1) := by decide +kernel
theorem dX12_count_1 : decode cX12_count 1 = .ok (.i2l, 1) := by decide +kernel
theorem dX12_count_2 : decode cX12_count 2 = .ok (.lconst 0, 1) := by decide +kernel
theorem dX12_count_3 : decode cX12_count 3 = .ok (.ldc2_w 236, 3) := by decide +kernel
theorem dX12_count_6 : decode cX12_count 6 = .ok (.invokestatic 34, 3) := by decide +kernel
theorem dX12_count_9 : decode cX12_count 9 = .ok (.ifCond .eq 11, 3) := by decide +kernel
theorem dX12_count_12 : decode cX12_count 12 = .ok (.aload_n 0, 1) := by decide +kernel
theorem dX12_count_13 : decode cX12_count 13 = .ok (.iload_n 1, 1) := by decide +kernel
theorem dX12_count_14 : decode cX12_count 14 = .ok (.invokevirtual 238, 3) := by decide +kernel
theorem dX12_count_17 : decode cX12_count 17 = .ok (.goto 7, 3) := by decide +kernel
theorem dX12_count_20 : decode cX12_count 20 = .ok (.aload_n 0, 1) := by decide +kernel
theorem dX12_count_21 : decode cX12_count 21 = .ok (.invokevirtual 44, 3) := by decide +kernel
theorem dX12_count_24 : decode cX12_count 24 = .ok (.ireturn, 1) := by decide +kernel
theorem dX12_mix_0 : decode cX12_mix 0 = .ok (.aload_n 0, 1) := by decide +kernel
theorem dX12_mix_1 : decode cX12_mix 1 = .ok (.ldc2_w 241, 3) := by decide +kernel
theorem dX12_mix_4 : decode cX12_mix 4 = .ok (.aload_n 0, 1) := by decide +kernel
theorem dX12_mix_5 : decode cX12_mix 5 = .ok (.getfield 243, 3) := by decide +kernel
theorem dX12_mix_8 : decode cX12_mix 8 = .ok (.lmul, 1) := by decide +kernel
theorem dX12_mix_9 : decode cX12_mix 9 = .ok (.lload_n 1, 1) := by decide +kernel
theorem dX12_mix_10 : decode cX12_mix 10 = .ok (.ladd, 1) := by decide +kernel
theorem dX12_mix_11 : decode cX12_mix 11 = .ok (.putfield 243, 3) := by decide +kernel
theorem dX12_mix_14 : decode cX12_mix 14 = .ok (.return_, 1) := by decide +kernel
theorem dX12_digest_0 : decode cX12_digest 0 = .ok (.aload_n 0, 1) := by decide +kernel
theorem dX12_digest_1 : decode cX12_digest 1 = .ok (.ldc2_w 246, 3) := by decide +kernel
theorem dX12_digest_4 : decode cX12_digest 4 = .ok (.putfield 243, 3) := by decide +kernel
theorem dX12_digest_7 : decode cX12_digest 7 = .ok (.iconst 0, 1) := by decide +kernel
theorem dX12_digest_8 : decode cX12_digest 8 = .ok (.istore_n 1, 1) := by decide +kernel
theorem dX12_digest_9 : decode cX12_digest 9 = .ok (.iload_n 1, 1) := by decide +kernel
theorem dX12_digest_10 : decode cX12_digest 10 = .ok (.bipush 7, 2) := by decide +kernel
theorem dX12_digest_12 : decode cX12_digest 12 = .ok (.if_icmp .ge 19, 3) := by decide +kernel
theorem dX12_digest_15 : decode cX12_digest 15 = .ok (.aload_n 0, 1) := by decide +kernel
theorem dX12_digest_16 : decode cX12_digest 16 = .ok (.aload_n 0, 1) := by decide +kernel
theorem dX12_digest_17 : decode cX12_digest 17 = .ok (.iload_n 1, 1) := by decide +kernel
theorem dX12_digest_18 : decode cX12_digest 18 = .ok (.invokevirtual 238, 3) := by decide +kernel
theorem dX12_digest_21 : decode cX12_digest 21 = .ok (.i2l, 1) := by decide +kernel
theorem dX12_digest_22 : decode cX12_digest 22 = .ok (.invokevirtual 248, 3) := by decide +kernel
theorem dX12_digest_25 : decode cX12_digest 25 = .ok (.iinc 1 1, 3) := by decide +kernel
theorem dX12_digest_28 : decode cX12_digest 28 = .ok (.goto (-19), 3) := by decide +kernel
theorem dX12_digest_31 : decode cX12_digest 31 = .ok (.iconst 0, 1) := by decide +kernel
theorem dX12_digest_32 : decode cX12_digest 32 = .ok (.istore_n 1, 1) := by decide +kernel
theorem dX12_digest_33 : decode cX12_digest 33 = .ok (.iload_n 1, 1) := by decide +kernel
theorem dX12_digest_34 : decode cX12_digest 34 = .ok (.aload_n 0, 1) := by decide +kernel
theorem dX12_digest_35 : decode cX12_digest 35 = .ok (.getfield 7, 3) := by decide +kernel
theorem dX12_digest_38 : decode cX12_digest 38 = .ok (.iconst 0, 1) := by decide +kernel
theorem dX12_digest_39 : decode cX12_digest 39 = .ok (.iaload, 1) := by decide +kernel
theorem dX12_digest_40 : decode cX12_digest 40 = .ok (.if_icmp .ge 57, 3) := by decide +kernel
theorem dX12_digest_43 : decode cX12_digest 43 = .ok (.iconst 0, 1) := by decide +kernel
theorem dX12_digest_44 : decode cX12_digest 44 = .ok (.istore_n 2, 1) := by decide +kernel
theorem dX12_digest_45 : decode cX12_digest 45 = .ok (.iload_n 2, 1) := by decide +kernel
theorem dX12_digest_46 : decode cX12_digest 46 = .ok (.bipush 6, 2) := by decide +kernel
theorem dX12_digest_48 : decode cX12_digest 48 = .ok (.if_icmp .ge 28, 3) := by decide +kernel
theorem dX12_digest_51 : decode cX12_digest 51 = .ok (.aload_n 0, 1) := by decide +kernel
theorem dX12_digest_52 : decode cX12_digest 52 = .ok (.aload_n 0, 1) := by decide +kernel
theorem dX12_digest_53 : decode cX12_digest 53 = .ok (.getfield 7, 3) := by decide +kernel
theorem dX12_digest_56 : decode cX12_digest 56 = .ok (.bipush 6, 2) := by decide +kernel
theorem dX12_digest_58 : decode cX12_digest 58 = .ok (.bipush 8, 2) := by decide +kernel
theorem dX12_digest_60 : decode cX12_digest 60 = .ok (.iload_n 2, 1) := by decide +kernel
theorem dX12_digest_61 : decode cX12_digest 61 = .ok (.imul, 1) := by decide +kernel
theorem dX12_digest_62 : decode cX12_digest 62 = .ok (.iadd, 1) := by decide +kernel
theorem dX12_digest_63 : decode cX12_digest 63 = .ok (.iload_n 1, 1) := by decide +kernel
theorem dX12_digest_64 : decode cX12_digest 64 = .ok (.iadd, 1) := by decide +kernel
theorem dX12_digest_65 : decode cX12_digest 65 = .ok (.iaload, 1) := by decide +kernel
theorem dX12_digest_66 : decode cX12_digest 66 = .ok (.i2l, 1) := by decide +kernel
theorem dX12_digest_67 : decode cX12_digest 67 = .ok (.invokevirtual 248, 3) := by decide +kernel
theorem dX12_digest_70 : decode cX12_digest 70 = .ok (.iinc 2 1, 3) := by decide +kernel
theorem dX12_digest_73 : decode cX12_digest 73 = .ok (.goto (-28), 3) := by decide +kernel
theorem dX12_digest_76 : decode cX12_digest 76 = .ok (.aload_n 0, 1) := by decide +kernel
theorem dX12_digest_77 : decode cX12_digest 77 = .ok (.aload_n 0, 1) := by decide +kernel
theorem dX12_digest_78 : decode cX12_digest 78 = .ok (.getfield 7, 3) := by decide +kernel
theorem dX12_digest_81 : decode cX12_digest 81 = .ok (.iconst 5, 1) := by decide +kernel
theorem dX12_digest_82 : decode cX12_digest 82 = .ok (.iaload, 1) := by decide +kernel
theorem dX12_digest_83 : decode cX12_digest 83 = .ok (.iload_n 1, 1) := by decide +kernel
theorem dX12_digest_84 : decode cX12_digest 84 = .ok (.ishr, 1) := by decide +kernel
theorem dX12_digest_85 : decode cX12_digest 85 = .ok (.iconst 1, 1) := by decide +kernel
theorem dX12_digest_86 : decode cX12_digest 86 = .ok (.iand, 1) := by decide +kernel
theorem dX12_digest_87 : decode cX12_digest 87 = .ok (.i2l, 1) := by decide +kernel
theorem dX12_digest_88 : decode cX12_digest 88 = .ok (.invokevirtual 248, 3) := by decide +kernel
theorem dX12_digest_91 : decode cX12_digest 91 = .ok (.iinc 1 1, 3) := by decide +kernel
theorem dX12_digest_94 : decode cX12_digest 94 = .ok (.goto (-61), 3) := by decide +kernel
theorem dX12_digest_97 : decode cX12_digest 97 = .ok (.iconst 0, 1) := by decide +kernel
theorem dX12_digest_98 : decode cX12_digest 98 = .ok (.istore_n 1, 1) := by decide +kernel
theorem dX12_digest_99 : decode cX12_digest 99 = .ok (.iload_n 1, 1) := by decide +kernel
theorem dX12_digest_100 : decode cX12_digest 100 = .ok (.iconst 3, 1) := by decide +kernel
theorem dX12_digest_101 : decode cX12_digest 101 = .ok (.aload_n 0, 1) := by decide +kernel
theorem dX12_digest_102 : decode cX12_digest 102 = .ok (.getfield 7, 3) := by decide +kernel
theorem dX12_digest_105 : decode cX12_digest 105 = .ok (.iconst 3, 1) := by decide +kernel
theorem dX12_digest_106 : decode cX12_digest 106 = .ok (.iaload, 1) := by decide +kernel
theorem dX12_digest_107 : decode cX12_digest 107 = .ok (.imul, 1) := by decide +kernel
theorem dX12_digest_108 : decode cX12_digest 108 = .ok (.if_icmp .ge 23, 3) := by decide +kernel
theorem dX12_digest_111 : decode cX12_digest 111 = .ok (.aload_n 0, 1) := by decide +kernel
theorem dX12_digest_112 : decode cX12_digest 112 = .ok (.aload_n 0, 1) := by decide +kernel
theorem dX12_digest_113 : decode cX12_digest 113 = .ok (.getfield 7, 3) := by decide +kernel
theorem dX12_digest_116 : decode cX12_digest 116 = .ok (.bipush 54, 2) := by decide +kernel
theorem dX12_digest_118 : decode cX12_digest 118 = .ok (.iload_n 1, 1) := by decide +kernel
theorem dX12_digest_119 : decode cX12_digest 119 = .ok (.iadd, 1) := by decide +kernel
theorem dX12_digest_120 : decode cX12_digest 120 = .ok (.iaload, 1) := by decide +kernel
theorem dX12_digest_121 : decode cX12_digest 121 = .ok (.i2l, 1) := by decide +kernel
theorem dX12_digest_122 : decode cX12_digest 122 = .ok (.invokevirtual 248, 3) := by decide +kernel
theorem dX12_digest_125 : decode cX12_digest 125 = .ok (.iinc 1 1, 3) := by decide +kernel
theorem dX12_digest_128 : decode cX12_digest 128 = .ok (.goto (-29), 3) := by decide +kernel
theorem dX12_digest_131 : decode cX12_digest 131 = .ok (.aload_n 0, 1) := by decide +kernel
theorem dX12_digest_132 : decode cX12_digest 132 = .ok (.aload_n 0, 1) := by decide +kernel
theorem dX12_digest_133 : decode cX12_digest 133 = .ok (.getfield 178, 3) := by decide +kernel
theorem dX12_digest_136 : decode cX12_digest 136 = .ok (.invokevirtual 248, 3) := by decide +kernel
theorem dX12_digest_139 : decode cX12_digest 139 = .ok (.aload_n 0, 1) := by decide +kernel
theorem dX12_digest_140 : decode cX12_digest 140 = .ok (.aload_n 0, 1) := by decide +kernel
theorem dX12_digest_141 : decode cX12_digest 141 = .ok (.getfield 23, 3) := by decide +kernel
theorem dX12_digest_144 : decode cX12_digest 144 = .ok (.invokevirtual 248, 3) := by decide +kernel
theorem dX12_digest_147 : decode cX12_digest 147 = .ok (.aload_n 0, 1) := by decide +kernel
theorem dX12_digest_148 : decode cX12_digest 148 = .ok (.getfield 243, 3) := by decide +kernel
theorem dX12_digest_151 : decode cX12_digest 151 = .ok (.lreturn, 1) := by decide +kernel
