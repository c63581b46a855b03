theorem dX0_init_0 : decode cX0_init 0 = .ok (.aload_n 0, 1) := by decide +kernel
theorem dX0_init_1 : decode cX0_init 1 = .ok (.invokespecial 3, 3) := by decide +kernel
theorem dX0_init_4 : decode cX0_init 4 = .ok (.aload_n 0, 1) := by decide +kernel
theorem dX0_init_5 : decode cX0_init 5 = .ok (.bipush 6, 2) := by decide +kernel
theorem dX0_init_7 : decode cX0_init 7 = .ok (.anewarray 9, 3) := by decide +kernel
theorem dX0_init_10 : decode cX0_init 10 = .ok (.putfield 11, 3) := by decide +kernel
theorem dX0_init_13 : decode cX0_init 13 = .ok (.aload_n 0, 1) := by decide +kernel
theorem dX0_init_14 : decode cX0_init 14 = .ok (.getfield 11, 3) := by decide +kernel
theorem dX0_init_17 : decode cX0_init 17 = .ok (.iconst 0, 1) := by decide +kernel
theorem dX0_init_18 : decode cX0_init 18 = .ok (.new 9, 3) := by decide +kernel
theorem dX0_init_21 : decode cX0_init 21 = .ok (.dup, 1) := by decide +kernel
theorem dX0_init_22 : decode cX0_init 22 = .ok (.invokespecial 17, 3) := by decide +kernel
theorem dX0_init_25 : decode cX0_init 25 = .ok (.aastore, 1) := by decide +kernel
theorem dX0_init_26 : decode cX0_init 26 = .ok (.aload_n 0, 1) := by decide +kernel
theorem dX0_init_27 : decode cX0_init 27 = .ok (.getfield 11, 3) := by decide +kernel
theorem dX0_init_30 : decode cX0_init 30 = .ok (.iconst 1, 1) := by decide +kernel
theorem dX0_init_31 : decode cX0_init 31 = .ok (.new 18, 3) := by decide +kernel
theorem dX0_init_34 : decode cX0_init 34 = .ok (.dup, 1) := by decide +kernel
theorem dX0_init_35 : decode cX0_init 35 = .ok (.invokespecial 20, 3) := by decide +kernel
theorem dX0_init_38 : decode cX0_init 38 = .ok (.aastore, 1) := by decide +kernel
theorem dX0_init_39 : decode cX0_init 39 = .ok (.aload_n 0, 1) := by decide +kernel
theorem dX0_init_40 : decode cX0_init 40 = .ok (.getfield 11, 3) := by decide +kernel
theorem dX0_init_43 : decode cX0_init 43 = .ok (.iconst 2, 1) := by decide +kernel
theorem dX0_init_44 : decode cX0_init 44 = .ok (.new 21, 3) := by decide +kernel
theorem dX0_init_47 : decode cX0_init 47 = .ok (.dup, 1) := by decide +kernel
theorem dX0_init_48 : decode cX0_init 48 = .ok (.invokespecial 23, 3) := by decide +kernel
theorem dX0_init_51 : decode cX0_init 51 = .ok (.aastore, 1) := by decide +kernel
theorem dX0_init_52 : decode cX0_init 52 = .ok (.aload_n 0, 1) := by decide +kernel
theorem dX0_init_53 : decode cX0_init 53 = .ok (.getfield 11, 3) := by decide +kernel
theorem dX0_init_56 : decode cX0_init 56 = .ok (.iconst 3, 1) := by decide +kernel
theorem dX0_init_57 : decode cX0_init 57 = .ok (.new 24, 3) := by decide +kernel
theorem dX0_init_60 : decode cX0_init 60 = .ok (.dup, 1) := by decide +kernel
theorem dX0_init_61 : decode cX0_init 61 = .ok (.invokespecial 26, 3) := by decide +kernel
theorem dX0_init_64 : decode cX0_init 64 = .ok (.aastore, 1) := by decide +kernel
theorem dX0_init_65 : decode cX0_init 65 = .ok (.aload_n 0, 1) := by decide +kernel
theorem dX0_init_66 : decode cX0_init 66 = .ok (.getfield 11, 3) := by decide +kernel
theorem dX0_init_69 : decode cX0_init 69 = .ok (.iconst 4, 1) := by decide +kernel
theorem dX0_init_70 : decode cX0_init 70 = .ok (.new 27, 3) := by decide +kernel
theorem dX0_init_73 : decode cX0_init 73 = .ok (.dup, 1) := by decide +kernel
theorem dX0_init_74 : decode cX0_init 74 = .ok (.invokespecial 29, 3) := by decide +kernel
theorem dX0_init_77 : decode cX0_init 77 = .ok (.aastore, 1) := by decide +kernel
theorem dX0_init_78 : decode cX0_init 78 = .ok (.aload_n 0, 1) := by decide +kernel
theorem dX0_init_79 : decode cX0_init 79 = .ok (.getfield 11, 3) := by decide +kernel
theorem dX0_init_82 : decode cX0_init 82 = .ok (.iconst 5, 1) := by decide +kernel
theorem dX0_init_83 : decode cX0_init 83 = .ok (.new 30, 3) := by decide +kernel
theorem dX0_init_86 : decode cX0_init 86 = .ok (.dup, 1) := by decide +kernel
theorem dX0_init_87 : decode cX0_init 87 = .ok (.invokespecial 32, 3) := by decide +kernel
theorem dX0_init_90 : decode cX0_init 90 = .ok (.aastore, 1) := by decide +kernel
theorem dX0_init_91 : decode cX0_init 91 = .ok (.return_, 1) := by decide +kernel
theorem dX0_reckon_0 : decode cX0_reckon 0 = .ok (.aload_n 0, 1) := by decide +kernel
theorem dX0_reckon_1 : decode cX0_reckon 1 = .ok (.aload_n 1, 1) := by decide +kernel
theorem dX0_reckon_2 : decode cX0_reckon 2 = .ok (.iload_n 2, 1) := by decide +kernel
theorem dX0_reckon_3 : decode cX0_reckon 3 = .ok (.invokevirtual 33, 3) := by decide +kernel
theorem dX0_reckon_6 : decode cX0_reckon 6 = .ok (.iconst 0, 1) := by decide +kernel
theorem dX0_reckon_7 : decode cX0_reckon 7 = .ok (.istore_n 3, 1) := by decide +kernel
theorem dX0_reckon_8 : decode cX0_reckon 8 = .ok (.iload_n 3, 1) := by decide +kernel
theorem dX0_reckon_9 : decode cX0_reckon 9 = .ok (.aload_n 1, 1) := by decide +kernel
theorem dX0_reckon_10 : decode cX0_reckon 10 = .ok (.getfield 37, 3) := by decide +kernel
theorem dX0_reckon_13 : decode cX0_reckon 13 = .ok (.if_icmp .ge 22, 3) := by decide +kernel
theorem dX0_reckon_16 : decode cX0_reckon 16 = .ok (.aload_n 0, 1) := by decide +kernel
theorem dX0_reckon_17 : decode cX0_reckon 17 = .ok (.aload_n 1, 1) := by decide +kernel
theorem dX0_reckon_18 : decode cX0_reckon 18 = .ok (.iload_n 2, 1) := by decide +kernel
theorem dX0_reckon_19 : decode cX0_reckon 19 = .ok (.iload_n 3, 1) := by decide +kernel
theorem dX0_reckon_20 : decode cX0_reckon 20 = .ok (.aload_n 1, 1) := by decide +kernel
theorem dX0_reckon_21 : decode cX0_reckon 21 = .ok (.iload_n 3, 1) := by decide +kernel
theorem dX0_reckon_22 : decode cX0_reckon 22 = .ok (.iconst 5, 1) := by decide +kernel
theorem dX0_reckon_23 : decode cX0_reckon 23 = .ok (.invokevirtual 43, 3) := by decide +kernel
theorem dX0_reckon_26 : decode cX0_reckon 26 = .ok (.invokevirtual 47, 3) := by decide +kernel
theorem dX0_reckon_29 : decode cX0_reckon 29 = .ok (.iinc 3 1, 3) := by decide +kernel
theorem dX0_reckon_32 : decode cX0_reckon 32 = .ok (.goto (-24), 3) := by decide +kernel
theorem dX0_reckon_35 : decode cX0_reckon 35 = .ok (.return_, 1) := by decide +kernel
theorem dX0_reckonMarked_0 : decode cX0_reckonMarked 0 = .ok (.aload_n 1, 1) := by decide +kernel
theorem dX0_reckonMarked_1 : decode cX0_reckonMarked 1 = .ok (.iload_n 2, 1) := by decide +kernel
theorem dX0_reckonMarked_2 : decode cX0_reckonMarked 2 = .ok (.iconst 1, 1) := by decide +kernel
theorem dX0_reckonMarked_3 : decode cX0_reckonMarked 3 = .ok (.invokevirtual 43, 3) := by decide +kernel
theorem dX0_reckonMarked_6 : decode cX0_reckonMarked 6 = .ok (.istore 4, 2) := by decide +kernel
theorem dX0_reckonMarked_8 : decode cX0_reckonMarked 8 = .ok (.aload_n 0, 1) := by decide +kernel
theorem dX0_reckonMarked_9 : decode cX0_reckonMarked 9 = .ok (.aload_n 1, 1) := by decide +kernel
theorem dX0_reckonMarked_10 : decode cX0_reckonMarked 10 = .ok (.iload 4, 2) := by decide +kernel
theorem dX0_reckonMarked_12 : decode cX0_reckonMarked 12 = .ok (.invokevirtual 33, 3) := by decide +kernel
theorem dX0_reckonMarked_15 : decode cX0_reckonMarked 15 = .ok (.iconst 0, 1) := by decide +kernel
theorem dX0_reckonMarked_16 : decode cX0_reckonMarked 16 = .ok (.istore 5, 2) := by decide +kernel
theorem dX0_reckonMarked_18 : decode cX0_reckonMarked 18 = .ok (.iload 5, 2) := by decide +kernel
theorem dX0_reckonMarked_20 : decode cX0_reckonMarked 20 = .ok (.aload_n 1, 1) := by decide +kernel
theorem dX0_reckonMarked_21 : decode cX0_reckonMarked 21 = .ok (.getfield 37, 3) := by decide +kernel
theorem dX0_reckonMarked_24 : decode cX0_reckonMarked 24 = .ok (.if_icmp .ge 35, 3) := by decide +kernel
theorem dX0_reckonMarked_27 : decode cX0_reckonMarked 27 = .ok (.aload_n 0, 1) := by decide +kernel
theorem dX0_reckonMarked_28 : decode cX0_reckonMarked 28 = .ok (.aload_n 1, 1) := by decide +kernel
theorem dX0_reckonMarked_29 : decode cX0_reckonMarked 29 = .ok (.iload 4, 2) := by decide +kernel
theorem dX0_reckonMarked_31 : decode cX0_reckonMarked 31 = .ok (.iload 5, 2) := by decide +kernel
theorem dX0_reckonMarked_33 : decode cX0_reckonMarked 33 = .ok (.iload 5, 2) := by decide +kernel
theorem dX0_reckonMarked_35 : decode cX0_reckonMarked 35 = .ok (.iload_n 2, 1) := by decide +kernel
theorem dX0_reckonMarked_36 : decode cX0_reckonMarked 36 = .ok (.if_icmp .ne 7, 3) := by decide +kernel
theorem dX0_reckonMarked_39 : decode cX0_reckonMarked 39 = .ok (.iload_n 3, 1) := by decide +kernel
theorem dX0_reckonMarked_40 : decode cX0_reckonMarked 40 = .ok (.goto 10, 3) := by decide +kernel
theorem dX0_reckonMarked_43 : decode cX0_reckonMarked 43 = .ok (.aload_n 1, 1) := by decide +kernel
theorem dX0_reckonMarked_44 : decode cX0_reckonMarked 44 = .ok (.iload 5, 2) := by decide +kernel
theorem dX0_reckonMarked_46 : decode cX0_reckonMarked 46 = .ok (.iconst 5, 1) := by decide +kernel
theorem dX0_reckonMarked_47 : decode cX0_reckonMarked 47 = .ok (.invokevirtual 43, 3) := by decide +kernel
theorem dX0_reckonMarked_50 : decode cX0_reckonMarked 50 = .ok (.invokevirtual 47, 3) := by decide +kernel
theorem dX0_reckonMarked_53 : decode cX0_reckonMarked 53 = .ok (.iinc 5 1, 3) := by decide +kernel
theorem dX0_reckonMarked_56 : decode cX0_reckonMarked 56 = .ok (.goto (-38), 3) := by decide +kernel
theorem dX0_reckonMarked_59 : decode cX0_reckonMarked 59 = .ok (.return_, 1) := by decide +kernel
theorem dX0_begin_0 : decode cX0_begin 0 = .ok (.aload_n 0, 1) := by decide +kernel
theorem dX0_begin_1 : decode cX0_begin 1 = .ok (.iconst 0, 1) := by decide +kernel
theorem dX0_begin_2 : decode cX0_begin 2 = .ok (.putfield 51, 3) := by decide +kernel
theorem dX0_begin_5 : decode cX0_begin 5 = .ok (.aload_n 0, 1) := by decide +kernel
theorem dX0_begin_6 : decode cX0_begin 6 = .ok (.aload_n 1, 1) := by decide +kernel
theorem dX0_begin_7 : decode cX0_begin 7 = .ok (.getfield 54, 3) := by decide +kernel
theorem dX0_begin_10 : decode cX0_begin 10 = .ok (.putfield 57, 3) := by decide +kernel
theorem dX0_begin_13 : decode cX0_begin 13 = .ok (.aload_n 0, 1) := by decide +kernel
theorem dX0_begin_14 : decode cX0_begin 14 = .ok (.iload_n 2, 1) := by decide +kernel
theorem dX0_begin_15 : decode cX0_begin 15 = .ok (.iconst 4, 1) := by decide +kernel
theorem dX0_begin_16 : decode cX0_begin 16 = .ok (.if_icmp .ne 10, 3) := by decide +kernel
theorem dX0_begin_19 : decode cX0_begin 19 = .ok (.aload_n 1, 1) := by decide +kernel
theorem dX0_begin_20 : decode cX0_begin 20 = .ok (.getfield 54, 3) := by decide +kernel
theorem dX0_begin_23 : decode cX0_begin 23 = .ok (.goto 4, 3) := by decide +kernel
theorem dX0_begin_26 : decode cX0_begin 26 = .ok (.iconst 0, 1) := by decide +kernel
theorem dX0_begin_27 : decode cX0_begin 27 = .ok (.putfield 60, 3) := by decide +kernel
theorem dX0_begin_30 : decode cX0_begin 30 = .ok (.aload_n 0, 1) := by decide +kernel
theorem dX0_begin_31 : decode cX0_begin 31 = .ok (.iconst 0, 1) := by decide +kernel
theorem dX0_begin_32 : decode cX0_begin 32 = .ok (.putfield 63, 3) := by decide +kernel
theorem dX0_begin_35 : decode cX0_begin 35 = .ok (.return_, 1) := by decide +kernel
theorem dX0_enter_0 : decode cX0_enter 0 = .ok (.aload_n 0, 1) := by decide +kernel
theorem dX0_enter_1 : decode cX0_enter 1 = .ok (.aload_n 1, 1) := by decide +kernel
theorem dX0_enter_2 : decode cX0_enter 2 = .ok (.iload_n 3, 1) := by decide +kernel
theorem dX0_enter_3 : decode cX0_enter 3 = .ok (.invokevirtual 66, 3) := by decide +kernel
theorem dX0_enter_6 : decode cX0_enter 6 = .ok (.astore 5, 2) := by decide +kernel
theorem dX0_enter_8 : decode cX0_enter 8 = .ok (.aload 5, 2) := by decide +kernel
theorem dX0_enter_10 : decode cX0_enter 10 = .ok (.iload 4, 2) := by decide +kernel
theorem dX0_enter_12 : decode cX0_enter 12 = .ok (.invokevirtual 70, 3) := by decide +kernel
theorem dX0_enter_15 : decode cX0_enter 15 = .ok (.istore 6, 2) := by decide +kernel
theorem dX0_enter_17 : decode cX0_enter 17 = .ok (.aload_n 1, 1) := by decide +kernel
theorem dX0_enter_18 : decode cX0_enter 18 = .ok (.getfield 74, 3) := by decide +kernel
theorem dX0_enter_21 : decode cX0_enter 21 = .ok (.iload_n 3, 1) := by decide +kernel
theorem dX0_enter_22 : decode cX0_enter 22 = .ok (.invokestatic 77, 3) := by decide +kernel
theorem dX0_enter_25 : decode cX0_enter 25 = .ok (.ifCond .eq 7, 3) := by decide +kernel
theorem dX0_enter_28 : decode cX0_enter 28 = .ok (.iconst 0, 1) := by decide +kernel
theorem dX0_enter_29 : decode cX0_enter 29 = .ok (.goto 10, 3) := by decide +kernel
theorem dX0_enter_32 : decode cX0_enter 32 = .ok (.aload 5, 2) := by decide +kernel
theorem dX0_enter_34 : decode cX0_enter 34 = .ok (.iload 4, 2) := by decide +kernel
theorem dX0_enter_36 : decode cX0_enter 36 = .ok (.invokevirtual 81, 3) := by decide +kernel
theorem dX0_enter_39 : decode cX0_enter 39 = .ok (.istore 7, 2) := by decide +kernel
theorem dX0_enter_41 : decode cX0_enter 41 = .ok (.aload_n 0, 1) := by decide +kernel
theorem dX0_enter_42 : decode cX0_enter 42 = .ok (.dup, 1) := by decide +kernel
theorem dX0_enter_43 : decode cX0_enter 43 = .ok (.getfield 57, 3) := by decide +kernel
theorem dX0_enter_46 : decode cX0_enter 46 = .ok (.iload 6, 2) := by decide +kernel
theorem dX0_enter_48 : decode cX0_enter 48 = .ok (.iadd, 1) := by decide +kernel
theorem dX0_enter_49 : decode cX0_enter 49 = .ok (.putfield 57, 3) := by decide +kernel
theorem dX0_enter_52 : decode cX0_enter 52 = .ok (.aload_n 0, 1) := by decide +kernel
theorem dX0_enter_53 : decode cX0_enter 53 = .ok (.dup, 1) := by decide +kernel
theorem dX0_enter_54 : decode cX0_enter 54 = .ok (.getfield 51, 3) := by decide +kernel
theorem dX0_enter_57 : decode cX0_enter 57 = .ok (.iload 7, 2) := by decide +kernel
theorem dX0_enter_59 : decode cX0_enter 59 = .ok (.iadd, 1) := by decide +kernel
theorem dX0_enter_60 : decode cX0_enter 60 = .ok (.putfield 51, 3) := by decide +kernel
theorem dX0_enter_63 : decode cX0_enter 63 = .ok (.aload_n 1, 1) := by decide +kernel
theorem dX0_enter_64 : decode cX0_enter 64 = .ok (.iload_n 3, 1) := by decide +kernel
theorem dX0_enter_65 : decode cX0_enter 65 = .ok (.iconst 1, 1) := by decide +kernel
theorem dX0_enter_66 : decode cX0_enter 66 = .ok (.invokevirtual 43, 3) := by decide +kernel
theorem dX0_enter_69 : decode cX0_enter 69 = .ok (.iload_n 2, 1) := by decide +kernel
theorem dX0_enter_70 : decode cX0_enter 70 = .ok (.if_icmp .ne 25, 3) := by decide +kernel
theorem dX0_enter_73 : decode cX0_enter 73 = .ok (.aload_n 0, 1) := by decide +kernel
theorem dX0_enter_74 : decode cX0_enter 74 = .ok (.dup, 1) := by decide +kernel
theorem dX0_enter_75 : decode cX0_enter 75 = .ok (.getfield 60, 3) := by decide +kernel
theorem dX0_enter_78 : decode cX0_enter 78 = .ok (.iload 6, 2) := by decide +kernel
theorem dX0_enter_80 : decode cX0_enter 80 = .ok (.iadd, 1) := by decide +kernel
theorem dX0_enter_81 : decode cX0_enter 81 = .ok (.putfield 60, 3) := by decide +kernel
theorem dX0_enter_84 : decode cX0_enter 84 = .ok (.aload_n 0, 1) := by decide +kernel
theorem dX0_enter_85 : decode cX0_enter 85 = .ok (.dup, 1) := by decide +kernel
theorem dX0_enter_86 : decode cX0_enter 86 = .ok (.getfield 63, 3) := by decide +kernel
theorem dX0_enter_89 : decode cX0_enter 89 = .ok (.iload 7, 2) := by decide +kernel
theorem dX0_enter_91 : decode cX0_enter 91 = .ok (.iadd, 1) := by decide +kernel
theorem dX0_enter_92 : decode cX0_enter 92 = .ok (.putfield 63, 3) := by decide +kernel
theorem dX0_enter_95 : decode cX0_enter 95 = .ok (.return_, 1) := by decide +kernel
theorem dX0_kindOf_0 : decode cX0_kindOf 0 = .ok (.aload_n 1, 1) := by decide +kernel
theorem dX0_kindOf_1 : decode cX0_kindOf 1 = .ok (.iload_n 2, 1) := by decide +kernel
theorem dX0_kindOf_2 : decode cX0_kindOf 2 = .ok (.iconst 0, 1) := by decide +kernel
theorem dX0_kindOf_3 : decode cX0_kindOf 3 = .ok (.invokevirtual 43, 3) := by decide +kernel
theorem dX0_kindOf_6 : decode cX0_kindOf 6 = .ok (.istore_n 3, 1) := by decide +kernel
theorem dX0_kindOf_7 : decode cX0_kindOf 7 = .ok (.aload_n 0, 1) := by decide +kernel
theorem dX0_kindOf_8 : decode cX0_kindOf 8 = .ok (.getfield 11, 3) := by decide +kernel
theorem dX0_kindOf_11 : decode cX0_kindOf 11 = .ok (.iload_n 3, 1) := by decide +kernel
theorem dX0_kindOf_12 : decode cX0_kindOf 12 = .ok (.iconst 0, 1) := by decide +kernel
theorem dX0_kindOf_13 : decode cX0_kindOf 13 = .ok (.iconst 5, 1) := by decide +kernel
theorem dX0_kindOf_14 : decode cX0_kindOf 14 = .ok (.invokestatic 84, 3) := by decide +kernel
theorem dX0_kindOf_17 : decode cX0_kindOf 17 = .ok (.ifCond .eq 7, 3) := by decide +kernel
theorem dX0_kindOf_20 : decode cX0_kindOf 20 = .ok (.iload_n 3, 1) := by decide +kernel
theorem dX0_kindOf_21 : decode cX0_kindOf 21 = .ok (.goto 4, 3) := by decide +kernel
theorem dX0_kindOf_24 : decode cX0_kindOf 24 = .ok (.iconst 0, 1) := by decide +kernel
theorem dX0_kindOf_25 : decode cX0_kindOf 25 = .ok (.aaload, 1) := by decide +kernel
theorem dX0_kindOf_26 : decode cX0_kindOf 26 = .ok (.areturn, 1) := by decide +kernel
theorem dX0_madeGoodOf_0 : decode cX0_madeGoodOf 0 = .ok (.aload_n 0, 1) := by decide +kernel
theorem dX0_madeGoodOf_1 : decode cX0_madeGoodOf 1 = .ok (.aload_n 1, 1) := by decide +kernel
theorem dX0_madeGoodOf_2 : decode cX0_madeGoodOf 2 = .ok (.iload_n 2, 1) := by decide +kernel
theorem dX0_madeGoodOf_3 : decode cX0_madeGoodOf 3 = .ok (.invokevirtual 66, 3) := by decide +kernel
theorem dX0_madeGoodOf_6 : decode cX0_madeGoodOf 6 = .ok (.aload_n 1, 1) := by decide +kernel
theorem dX0_madeGoodOf_7 : decode cX0_madeGoodOf 7 = .ok (.iload_n 2, 1) := by decide +kernel
theorem dX0_madeGoodOf_8 : decode cX0_madeGoodOf 8 = .ok (.iconst 5, 1) := by decide +kernel
theorem dX0_madeGoodOf_9 : decode cX0_madeGoodOf 9 = .ok (.invokevirtual 43, 3) := by decide +kernel
theorem dX0_madeGoodOf_12 : decode cX0_madeGoodOf 12 = .ok (.invokevirtual 81, 3) := by decide +kernel
theorem dX0_madeGoodOf_15 : decode cX0_madeGoodOf 15 = .ok (.ireturn, 1) := by decide +kernel
theorem dX0_below_0 : decode cX0_below 0 = .ok (.aload_n 0, 1) := by decide +kernel
theorem dX0_below_1 : decode cX0_below 1 = .ok (.getfield 57, 3) := by decide +kernel
theorem dX0_below_4 : decode cX0_below 4 = .ok (.ifCond .ne 7, 3) := by decide +kernel
theorem dX0_below_7 : decode cX0_below 7 = .ok (.lconst 1, 1) := by decide +kernel
theorem dX0_below_8 : decode cX0_below 8 = .ok (.goto 8, 3) := by decide +kernel
theorem dX0_below_11 : decode cX0_below 11 = .ok (.aload_n 0, 1) := by decide +kernel
theorem dX0_below_12 : decode cX0_below 12 = .ok (.getfield 57, 3) := by decide +kernel
theorem dX0_below_15 : decode cX0_below 15 = .ok (.i2l, 1) := by decide +kernel
theorem dX0_below_16 : decode cX0_below 16 = .ok (.lreturn, 1) := by decide +kernel
theorem dX0_shareAbove_0 : decode cX0_shareAbove 0 = .ok (.aload_n 0, 1) := by decide +kernel
theorem dX0_shareAbove_1 : decode cX0_shareAbove 1 = .ok (.getfield 51, 3) := by decide +kernel
theorem dX0_shareAbove_4 : decode cX0_shareAbove 4 = .ok (.i2l, 1) := by decide +kernel
theorem dX0_shareAbove_5 : decode cX0_shareAbove 5 = .ok (.aload_n 0, 1) := by decide +kernel
theorem dX0_shareAbove_6 : decode cX0_shareAbove 6 = .ok (.getfield 60, 3) := by decide +kernel
theorem dX0_shareAbove_9 : decode cX0_shareAbove 9 = .ok (.i2l, 1) := by decide +kernel
theorem dX0_shareAbove_10 : decode cX0_shareAbove 10 = .ok (.lmul, 1) := by decide +kernel
theorem dX0_shareAbove_11 : decode cX0_shareAbove 11 = .ok (.lreturn, 1) := by decide +kernel
theorem dX0_netAbove_0 : decode cX0_netAbove 0 = .ok (.aload_n 0, 1) := by decide +kernel
theorem dX0_netAbove_1 : decode cX0_netAbove 1 = .ok (.invokevirtual 88, 3) := by decide +kernel
theorem dX0_netAbove_4 : decode cX0_netAbove 4 = .ok (.aload_n 0, 1) := by decide +kernel
theorem dX0_netAbove_5 : decode cX0_netAbove 5 = .ok (.getfield 63, 3) := by decide +kernel
theorem dX0_netAbove_8 : decode cX0_netAbove 8 = .ok (.i2l, 1) := by decide +kernel
theorem dX0_netAbove_9 : decode cX0_netAbove 9 = .ok (.aload_n 0, 1) := by decide +kernel
theorem dX0_netAbove_10 : decode cX0_netAbove 10 = .ok (.invokevirtual 92, 3) := by decide +kernel
theorem dX0_netAbove_13 : decode cX0_netAbove 13 = .ok (.lmul, 1) := by decide +kernel
theorem dX0_netAbove_14 : decode cX0_netAbove 14 = .ok (.lsub, 1) := by decide +kernel
theorem dX0_netAbove_15 : decode cX0_netAbove 15 = .ok (.lreturn, 1) := by decide +kernel
theorem dX1_init_0 : decode cX1_init 0 = .ok (.aload_n 0, 1) := by decide +kernel
theorem dX1_init_1 : decode cX1_init 1 = .ok (.invokespecial 3, 3) := by decide +kernel
theorem dX1_init_4 : decode cX1_init 4 = .ok (.aload_n 0, 1) := by decide +kernel
theorem dX1_init_5 : decode cX1_init 5 = .ok (.bipush 20, 2) := by decide +kernel
theorem dX1_init_7 : decode cX1_init 7 = .ok (.putfield 9, 3) := by decide +kernel
theorem dX1_init_10 : decode cX1_init 10 = .ok (.aload_n 0, 1) := by decide +kernel
theorem dX1_init_11 : decode cX1_init 11 = .ok (.bipush 60, 2) := by decide +kernel
theorem dX1_init_13 : decode cX1_init 13 = .ok (.putfield 15, 3) := by decide +kernel
theorem dX1_init_16 : decode cX1_init 16 = .ok (.aload_n 0, 1) := by decide +kernel
theorem dX1_init_17 : decode cX1_init 17 = .ok (.bipush 48, 2) := by decide +kernel
theorem dX1_init_19 : decode cX1_init 19 = .ok (.newarray .int, 2) := by decide +kernel
theorem dX1_init_21 : decode cX1_init 21 = .ok (.putfield 18, 3) := by decide +kernel
theorem dX1_init_24 : decode cX1_init 24 = .ok (.aload_n 0, 1) := by decide +kernel
theorem dX1_init_25 : decode cX1_init 25 = .ok (.bipush 8, 2) := by decide +kernel
theorem dX1_init_27 : decode cX1_init 27 = .ok (.newarray .int, 2) := by decide +kernel
theorem dX1_init_29 : decode cX1_init 29 = .ok (.putfield 22, 3) := by decide +kernel
theorem dX1_init_32 : decode cX1_init 32 = .ok (.aload_n 0, 1) := by decide +kernel
theorem dX1_init_33 : decode cX1_init 33 = .ok (.bipush 18, 2) := by decide +kernel
theorem dX1_init_35 : decode cX1_init 35 = .ok (.newarray .int, 2) := by decide +kernel
theorem dX1_init_37 : decode cX1_init 37 = .ok (.putfield 25, 3) := by decide +kernel
theorem dX1_init_40 : decode cX1_init 40 = .ok (.return_, 1) := by decide +kernel
theorem dX1_restart_0 : decode cX1_restart 0 = .ok (.aload_n 0, 1) := by decide +kernel
theorem dX1_restart_1 : decode cX1_restart 1 = .ok (.iload_n 1, 1) := by decide +kernel
theorem dX1_restart_2 : decode cX1_restart 2 = .ok (.putfield 9, 3) := by decide +kernel
theorem dX1_restart_5 : decode cX1_restart 5 = .ok (.aload_n 0, 1) := by decide +kernel
theorem dX1_restart_6 : decode cX1_restart 6 = .ok (.iload_n 2, 1) := by decide +kernel
theorem dX1_restart_7 : decode cX1_restart 7 = .ok (.putfield 15, 3) := by decide +kernel
theorem dX1_restart_10 : decode cX1_restart 10 = .ok (.aload_n 0, 1) := by decide +kernel
theorem dX1_restart_11 : decode cX1_restart 11 = .ok (.iconst 0, 1) := by decide +kernel
theorem dX1_restart_12 : decode cX1_restart 12 = .ok (.putfield 28, 3) := by decide +kernel
theorem dX1_restart_15 : decode cX1_restart 15 = .ok (.aload_n 0, 1) := by decide +kernel
theorem dX1_restart_16 : decode cX1_restart 16 = .ok (.iconst 0, 1) := by decide +kernel
theorem dX1_restart_17 : decode cX1_restart 17 = .ok (.putfield 31, 3) := by decide +kernel
theorem dX1_restart_20 : decode cX1_restart 20 = .ok (.aload_n 0, 1) := by decide +kernel
theorem dX1_restart_21 : decode cX1_restart 21 = .ok (.iconst 0, 1) := by decide +kernel
theorem dX1_restart_22 : decode cX1_restart 22 = .ok (.putfield 34, 3) := by decide +kernel
theorem dX1_restart_25 : decode cX1_restart 25 = .ok (.aload_n 0, 1) := by decide +kernel
theorem dX1_restart_26 : decode cX1_restart 26 = .ok (.iconst 0, 1) := by decide +kernel
theorem dX1_restart_27 : decode cX1_restart 27 = .ok (.putfield 37, 3) := by decide +kernel
theorem dX1_restart_30 : decode cX1_restart 30 = .ok (.return_, 1) := by decide +kernel
theorem dX1_become_0 : decode cX1_become 0 = .ok (.aload_n 0, 1) := by decide +kernel
theorem dX1_become_1 : decode cX1_become 1 = .ok (.aload_n 1, 1) := by decide +kernel
theorem dX1_become_2 : decode cX1_become 2 = .ok (.getfield 9, 3) := by decide +kernel
theorem dX1_become_5 : decode cX1_become 5 = .ok (.putfield 9, 3) := by decide +kernel
theorem dX1_become_8 : decode cX1_become 8 = .ok (.aload_n 0, 1) := by decide +kernel
theorem dX1_become_9 : decode cX1_become 9 = .ok (.aload_n 1, 1) := by decide +kernel
theorem dX1_become_10 : decode cX1_become 10 = .ok (.getfield 15, 3) := by decide +kernel
theorem dX1_become_13 : decode cX1_become 13 = .ok (.putfield 15, 3) := by decide +kernel
theorem dX1_become_16 : decode cX1_become 16 = .ok (.aload_n 0, 1) := by decide +kernel
theorem dX1_become_17 : decode cX1_become 17 = .ok (.aload_n 1, 1) := by decide +kernel
theorem dX1_become_18 : decode cX1_become 18 = .ok (.getfield 28, 3) := by decide +kernel
theorem dX1_become_21 : decode cX1_become 21 = .ok (.putfield 28, 3) := by decide +kernel
theorem dX1_become_24 : decode cX1_become 24 = .ok (.aload_n 0, 1) := by decide +kernel
theorem dX1_become_25 : decode cX1_become 25 = .ok (.aload_n 1, 1) := by decide +kernel
theorem dX1_become_26 : decode cX1_become 26 = .ok (.getfield 31, 3) := by decide +kernel
theorem dX1_become_29 : decode cX1_become 29 = .ok (.putfield 31, 3) := by decide +kernel
theorem dX1_become_32 : decode cX1_become 32 = .ok (.aload_n 0, 1) := by decide +kernel
theorem dX1_become_33 : decode cX1_become 33 = .ok (.aload_n 1, 1) := by decide +kernel
theorem dX1_become_34 : decode cX1_become 34 = .ok (.getfield 34, 3) := by decide +kernel
theorem dX1_become_37 : decode cX1_become 37 = .ok (.putfield 34, 3) := by decide +kernel
theorem dX1_become_40 : decode cX1_become 40 = .ok (.aload_n 0, 1) := by decide +kernel
theorem dX1_become_41 : decode cX1_become 41 = .ok (.aload_n 1, 1) := by decide +kernel
theorem dX1_become_42 : decode cX1_become 42 = .ok (.getfield 37, 3) := by decide +kernel
theorem dX1_become_45 : decode cX1_become 45 = .ok (.putfield 37, 3) := by decide +kernel
theorem dX1_become_48 : decode cX1_become 48 = .ok (.aload_n 1, 1) := by decide +kernel
theorem dX1_become_49 : decode cX1_become 49 = .ok (.getfield 18, 3) := by decide +kernel
theorem dX1_become_52 : decode cX1_become 52 = .ok (.iconst 0, 1) := by decide +kernel
theorem dX1_become_53 : decode cX1_become 53 = .ok (.aload_n 0, 1) := by decide +kernel
theorem dX1_become_54 : decode cX1_become 54 = .ok (.getfield 18, 3) := by decide +kernel
theorem dX1_become_57 : decode cX1_become 57 = .ok (.iconst 0, 1) := by decide +kernel
theorem dX1_become_58 : decode cX1_become 58 = .ok (.aload_n 0, 1) := by decide +kernel
theorem dX1_become_59 : decode cX1_become 59 = .ok (.getfield 18, 3) := by decide +kernel
theorem dX1_become_62 : decode cX1_become 62 = .ok (.arraylength, 1) := by decide +kernel
theorem dX1_become_63 : decode cX1_become 63 = .ok (.invokestatic 40, 3) := by decide +kernel
theorem dX1_become_66 : decode cX1_become 66 = .ok (.aload_n 1, 1) := by decide +kernel
theorem dX1_become_67 : decode cX1_become 67 = .ok (.getfield 22, 3) := by decide +kernel
theorem dX1_become_70 : decode cX1_become 70 = .ok (.iconst 0, 1) := by decide +kernel
theorem dX1_become_71 : decode cX1_become 71 = .ok (.aload_n 0, 1) := by decide +kernel
theorem dX1_become_72 : decode cX1_become 72 = .ok (.getfield 22, 3) := by decide +kernel
theorem dX1_become_75 : decode cX1_become 75 = .ok (.iconst 0, 1) := by decide +kernel
theorem dX1_become_76 : decode cX1_become 76 = .ok (.aload_n 0, 1) := by decide +kernel
theorem dX1_become_77 : decode cX1_become 77 = .ok (.getfield 22, 3) := by decide +kernel
theorem dX1_become_80 : decode cX1_become 80 = .ok (.arraylength, 1) := by decide +kernel
theorem dX1_become_81 : decode cX1_become 81 = .ok (.invokestatic 40, 3) := by decide +kernel
theorem dX1_become_84 : decode cX1_become 84 = .ok (.aload_n 1, 1) := by decide +kernel
theorem dX1_become_85 : decode cX1_become 85 = .ok (.getfield 25, 3) := by decide +kernel
theorem dX1_become_88 : decode cX1_become 88 = .ok (.iconst 0, 1) := by decide +kernel
theorem dX1_become_89 : decode cX1_become 89 = .ok (.aload_n 0, 1) := by decide +kernel
theorem dX1_become_90 : decode cX1_become 90 = .ok (.getfield 25, 3) := by decide +kernel
theorem dX1_become_93 : decode cX1_become 93 = .ok (.iconst 0, 1) := by decide +kernel
theorem dX1_become_94 : decode cX1_become 94 = .ok (.aload_n 0, 1) := by decide +kernel
theorem dX1_become_95 : decode cX1_become 95 = .ok (.getfield 25, 3) := by decide +kernel
theorem dX1_become_98 : decode cX1_become 98 = .ok (.arraylength, 1) := by decide +kernel
theorem dX1_become_99 : decode cX1_become 99 = .ok (.invokestatic 40, 3) := by decide +kernel
theorem dX1_become_102 : decode cX1_become 102 = .ok (.return_, 1) := by decide +kernel
theorem dX1_has_0 : decode cX1_has 0 = .ok (.iload_n 1, 1) := by decide +kernel
theorem dX1_has_1 : decode cX1_has 1 = .ok (.ifCond .lt 15, 3) := by decide +kernel
theorem dX1_has_4 : decode cX1_has 4 = .ok (.iload_n 1, 1) := by decide +kernel
theorem dX1_has_5 : decode cX1_has 5 = .ok (.aload_n 0, 1) := by decide +kernel
theorem dX1_has_6 : decode cX1_has 6 = .ok (.getfield 28, 3) := by decide +kernel
theorem dX1_has_9 : decode cX1_has 9 = .ok (.if_icmp .ge 7, 3) := by decide +kernel
theorem dX1_has_12 : decode cX1_has 12 = .ok (.iconst 1, 1) := by decide +kernel
theorem dX1_has_13 : decode cX1_has 13 = .ok (.goto 4, 3) := by decide +kernel
theorem dX1_has_16 : decode cX1_has 16 = .ok (.iconst 0, 1) := by decide +kernel
theorem dX1_has_17 : decode cX1_has 17 = .ok (.ireturn, 1) := by decide +kernel
theorem dX1_fact_0 : decode cX1_fact 0 = .ok (.aload_n 0, 1) := by decide +kernel
theorem dX1_fact_1 : decode cX1_fact 1 = .ok (.iload_n 1, 1) := by decide +kernel
theorem dX1_fact_2 : decode cX1_fact 2 = .ok (.invokevirtual 46, 3) := by decide +kernel
theorem dX1_fact_5 : decode cX1_fact 5 = .ok (.ifCond .eq 26, 3) := by decide +kernel
theorem dX1_fact_8 : decode cX1_fact 8 = .ok (.iload_n 2, 1) := by decide +kernel
theorem dX1_fact_9 : decode cX1_fact 9 = .ok (.iconst 0, 1) := by decide +kernel
theorem dX1_fact_10 : decode cX1_fact 10 = .ok (.iconst 5, 1) := by decide +kernel
theorem dX1_fact_11 : decode cX1_fact 11 = .ok (.invokestatic 50, 3) := by decide +kernel
theorem dX1_fact_14 : decode cX1_fact 14 = .ok (.ifCond .eq 17, 3) := by decide +kernel
theorem dX1_fact_17 : decode cX1_fact 17 = .ok (.aload_n 0, 1) := by decide +kernel
theorem dX1_fact_18 : decode cX1_fact 18 = .ok (.getfield 18, 3) := by decide +kernel
theorem dX1_fact_21 : decode cX1_fact 21 = .ok (.iload_n 1, 1) := by decide +kernel
theorem dX1_fact_22 : decode cX1_fact 22 = .ok (.bipush 6, 2) := by decide +kernel
theorem dX1_fact_24 : decode cX1_fact 24 = .ok (.imul, 1) := by decide +kernel
theorem dX1_fact_25 : decode cX1_fact 25 = .ok (.iload_n 2, 1) := by decide +kernel
theorem dX1_fact_26 : decode cX1_fact 26 = .ok (.iadd, 1) := by decide +kernel
theorem dX1_fact_27 : decode cX1_fact 27 = .ok (.iaload, 1) := by decide +kernel
theorem dX1_fact_28 : decode cX1_fact 28 = .ok (.goto 4, 3) := by decide +kernel
theorem dX1_fact_31 : decode cX1_fact 31 = .ok (.iconst (-1), 1) := by decide +kernel
theorem dX1_fact_32 : decode cX1_fact 32 = .ok (.ireturn, 1) := by decide +kernel
theorem dX1_sighted_0 : decode cX1_sighted 0 = .ok (.iload_n 1, 1) := by decide +kernel
theorem dX1_sighted_1 : decode cX1_sighted 1 = .ok (.iconst 0, 1) := by decide +kernel
theorem dX1_sighted_2 : decode cX1_sighted 2 = .ok (.aload_n 0, 1) := by decide +kernel
theorem dX1_sighted_3 : decode cX1_sighted 3 = .ok (.getfield 37, 3) := by decide +kernel
theorem dX1_sighted_6 : decode cX1_sighted 6 = .ok (.iconst 1, 1) := by decide +kernel
theorem dX1_sighted_7 : decode cX1_sighted 7 = .ok (.isub, 1) := by decide +kernel
theorem dX1_sighted_8 : decode cX1_sighted 8 = .ok (.invokestatic 50, 3) := by decide +kernel
theorem dX1_sighted_11 : decode cX1_sighted 11 = .ok (.ifCond .eq 25, 3) := by decide +kernel
theorem dX1_sighted_14 : decode cX1_sighted 14 = .ok (.iload_n 2, 1) := by decide +kernel
theorem dX1_sighted_15 : decode cX1_sighted 15 = .ok (.iconst 0, 1) := by decide +kernel
theorem dX1_sighted_16 : decode cX1_sighted 16 = .ok (.iconst 2, 1) := by decide +kernel
theorem dX1_sighted_17 : decode cX1_sighted 17 = .ok (.invokestatic 50, 3) := by decide +kernel
theorem dX1_sighted_20 : decode cX1_sighted 20 = .ok (.ifCond .eq 16, 3) := by decide +kernel
theorem dX1_sighted_23 : decode cX1_sighted 23 = .ok (.aload_n 0, 1) := by decide +kernel
theorem dX1_sighted_24 : decode cX1_sighted 24 = .ok (.getfield 25, 3) := by decide +kernel
theorem dX1_sighted_27 : decode cX1_sighted 27 = .ok (.iload_n 1, 1) := by decide +kernel
theorem dX1_sighted_28 : decode cX1_sighted 28 = .ok (.iconst 3, 1) := by decide +kernel
theorem dX1_sighted_29 : decode cX1_sighted 29 = .ok (.imul, 1) := by decide +kernel
theorem dX1_sighted_30 : decode cX1_sighted 30 = .ok (.iload_n 2, 1) := by decide +kernel
theorem dX1_sighted_31 : decode cX1_sighted 31 = .ok (.iadd, 1) := by decide +kernel
theorem dX1_sighted_32 : decode cX1_sighted 32 = .ok (.iaload, 1) := by decide +kernel
theorem dX1_sighted_33 : decode cX1_sighted 33 = .ok (.goto 4, 3) := by decide +kernel
theorem dX1_sighted_36 : decode cX1_sighted 36 = .ok (.iconst (-1), 1) := by decide +kernel
theorem dX1_sighted_37 : decode cX1_sighted 37 = .ok (.ireturn, 1) := by decide +kernel
theorem dX1_load_0 : decode cX1_load 0 = .ok (.aload_n 0, 1) := by decide +kernel
theorem dX1_load_1 : decode cX1_load 1 = .ok (.getfield 28, 3) := by decide +kernel
theorem dX1_load_4 : decode cX1_load 4 = .ok (.bipush 8, 2) := by decide +kernel
theorem dX1_load_6 : decode cX1_load 6 = .ok (.if_icmp .ge 10, 3) := by decide +kernel
theorem dX1_load_9 : decode cX1_load 9 = .ok (.aload_n 1, 1) := by decide +kernel
theorem dX1_load_10 : decode cX1_load 10 = .ok (.arraylength, 1) := by decide +kernel
theorem dX1_load_11 : decode cX1_load 11 = .ok (.bipush 6, 2) := by decide +kernel
theorem dX1_load_13 : decode cX1_load 13 = .ok (.if_icmp .ge 5, 3) := by decide +kernel
theorem dX1_load_16 : decode cX1_load 16 = .ok (.iconst (-1), 1) := by decide +kernel
theorem dX1_load_17 : decode cX1_load 17 = .ok (.ireturn, 1) := by decide +kernel
theorem dX1_load_18 : decode cX1_load 18 = .ok (.aload_n 1, 1) := by decide +kernel
theorem dX1_load_19 : decode cX1_load 19 = .ok (.iconst 0, 1) := by decide +kernel
theorem dX1_load_20 : decode cX1_load 20 = .ok (.aload_n 0, 1) := by decide +kernel
theorem dX1_load_21 : decode cX1_load 21 = .ok (.getfield 18, 3) := by decide +kernel
theorem dX1_load_24 : decode cX1_load 24 = .ok (.aload_n 0, 1) := by decide +kernel
theorem dX1_load_25 : decode cX1_load 25 = .ok (.getfield 28, 3) := by decide +kernel
theorem dX1_load_28 : decode cX1_load 28 = .ok (.bipush 6, 2) := by decide +kernel
theorem dX1_load_30 : decode cX1_load 30 = .ok (.imul, 1) := by decide +kernel
theorem dX1_load_31 : decode cX1_load 31 = .ok (.bipush 6, 2) := by decide +kernel
theorem dX1_load_33 : decode cX1_load 33 = .ok (.invokestatic 40, 3) := by decide +kernel
theorem dX1_load_36 : decode cX1_load 36 = .ok (.aload_n 0, 1) := by decide +kernel
theorem dX1_load_37 : decode cX1_load 37 = .ok (.dup, 1) := by decide +kernel
theorem dX1_load_38 : decode cX1_load 38 = .ok (.getfield 31, 3) := by decide +kernel
theorem dX1_load_41 : decode cX1_load 41 = .ok (.iconst 1, 1) := by decide +kernel
theorem dX1_load_42 : decode cX1_load 42 = .ok (.aload_n 0, 1) := by decide +kernel
theorem dX1_load_43 : decode cX1_load 43 = .ok (.getfield 28, 3) := by decide +kernel
theorem dX1_load_46 : decode cX1_load 46 = .ok (.ishl, 1) := by decide +kernel
theorem dX1_load_47 : decode cX1_load 47 = .ok (.ior, 1) := by decide +kernel
theorem dX1_load_48 : decode cX1_load 48 = .ok (.putfield 31, 3) := by decide +kernel
theorem dX1_load_51 : decode cX1_load 51 = .ok (.aload_n 0, 1) := by decide +kernel
theorem dX1_load_52 : decode cX1_load 52 = .ok (.iconst 0, 1) := by decide +kernel
theorem dX1_load_53 : decode cX1_load 53 = .ok (.putfield 34, 3) := by decide +kernel
theorem dX1_load_56 : decode cX1_load 56 = .ok (.aload_n 0, 1) := by decide +kernel
theorem dX1_load_57 : decode cX1_load 57 = .ok (.dup, 1) := by decide +kernel
theorem dX1_load_58 : decode cX1_load 58 = .ok (.getfield 28, 3) := by decide +kernel
theorem dX1_load_61 : decode cX1_load 61 = .ok (.iconst 1, 1) := by decide +kernel
theorem dX1_load_62 : decode cX1_load 62 = .ok (.iadd, 1) := by decide +kernel
theorem dX1_load_63 : decode cX1_load 63 = .ok (.putfield 28, 3) := by decide +kernel
theorem dX1_load_66 : decode cX1_load 66 = .ok (.aload_n 0, 1) := by decide +kernel
theorem dX1_load_67 : decode cX1_load 67 = .ok (.getfield 28, 3) := by decide +kernel
theorem dX1_load_70 : decode cX1_load 70 = .ok (.iconst 1, 1) := by decide +kernel
theorem dX1_load_71 : decode cX1_load 71 = .ok (.isub, 1) := by decide +kernel
theorem dX1_load_72 : decode cX1_load 72 = .ok (.ireturn, 1) := by decide +kernel
theorem dX1_retell_0 : decode cX1_retell 0 = .ok (.aload_n 0, 1) := by decide +kernel
theorem dX1_retell_1 : decode cX1_retell 1 = .ok (.iload_n 1, 1) := by decide +kernel
theorem dX1_retell_2 : decode cX1_retell 2 = .ok (.invokevirtual 46, 3) := by decide +kernel
theorem dX1_retell_5 : decode cX1_retell 5 = .ok (.ifCond .eq 15, 3) := by decide +kernel
theorem dX1_retell_8 : decode cX1_retell 8 = .ok (.aload_n 0, 1) := by decide +kernel
theorem dX1_retell_9 : decode cX1_retell 9 = .ok (.getfield 18, 3) := by decide +kernel
theorem dX1_retell_12 : decode cX1_retell 12 = .ok (.iload_n 1, 1) := by decide +kernel
theorem dX1_retell_13 : decode cX1_retell 13 = .ok (.bipush 6, 2) := by decide +kernel
theorem dX1_retell_15 : decode cX1_retell 15 = .ok (.imul, 1) := by decide +kernel
theorem dX1_retell_16 : decode cX1_retell 16 = .ok (.iconst 5, 1) := by decide +kernel
theorem dX1_retell_17 : decode cX1_retell 17 = .ok (.iadd, 1) := by decide +kernel
theorem dX1_retell_18 : decode cX1_retell 18 = .ok (.iload_n 2, 1) := by decide +kernel
theorem dX1_retell_19 : decode cX1_retell 19 = .ok (.iastore, 1) := by decide +kernel
theorem dX1_retell_20 : decode cX1_retell 20 = .ok (.return_, 1) := by decide +kernel
theorem dX1_sight_0 : decode cX1_sight 0 = .ok (.aload_n 0, 1) := by decide +kernel
theorem dX1_sight_1 : decode cX1_sight 1 = .ok (.getfield 37, 3) := by decide +kernel
theorem dX1_sight_4 : decode cX1_sight 4 = .ok (.bipush 6, 2) := by decide +kernel
theorem dX1_sight_6 : decode cX1_sight 6 = .ok (.if_icmp .ge 9, 3) := by decide +kernel
theorem dX1_sight_9 : decode cX1_sight 9 = .ok (.aload_n 1, 1) := by decide +kernel
theorem dX1_sight_10 : decode cX1_sight 10 = .ok (.arraylength, 1) := by decide +kernel
theorem dX1_sight_11 : decode cX1_sight 11 = .ok (.iconst 3, 1) := by decide +kernel
theorem dX1_sight_12 : decode cX1_sight 12 = .ok (.if_icmp .ge 5, 3) := by decide +kernel
theorem dX1_sight_15 : decode cX1_sight 15 = .ok (.iconst 0, 1) := by decide +kernel
theorem dX1_sight_16 : decode cX1_sight 16 = .ok (.ireturn, 1) := by decide +kernel
theorem dX1_sight_17 : decode cX1_sight 17 = .ok (.aload_n 1, 1) := by decide +kernel
theorem dX1_sight_18 : decode cX1_sight 18 = .ok (.iconst 0, 1) := by decide +kernel
theorem dX1_sight_19 : decode cX1_sight 19 = .ok (.aload_n 0, 1) := by decide +kernel
theorem dX1_sight_20 : decode cX1_sight 20 = .ok (.getfield 25, 3) := by decide +kernel
theorem dX1_sight_23 : decode cX1_sight 23 = .ok (.aload_n 0, 1) := by decide +kernel
theorem dX1_sight_24 : decode cX1_sight 24 = .ok (.getfield 37, 3) := by decide +kernel
theorem dX1_sight_27 : decode cX1_sight 27 = .ok (.iconst 3, 1) := by decide +kernel
theorem dX1_sight_28 : decode cX1_sight 28 = .ok (.imul, 1) := by decide +kernel
theorem dX1_sight_29 : decode cX1_sight 29 = .ok (.iconst 3, 1) := by decide +kernel
theorem dX1_sight_30 : decode cX1_sight 30 = .ok (.invokestatic 40, 3) := by decide +kernel
theorem dX1_sight_33 : decode cX1_sight 33 = .ok (.aload_n 0, 1) := by decide +kernel
theorem dX1_sight_34 : decode cX1_sight 34 = .ok (.dup, 1) := by decide +kernel
theorem dX1_sight_35 : decode cX1_sight 35 = .ok (.getfield 37, 3) := by decide +kernel
theorem dX1_sight_38 : decode cX1_sight 38 = .ok (.iconst 1, 1) := by decide +kernel
theorem dX1_sight_39 : decode cX1_sight 39 = .ok (.iadd, 1) := by decide +kernel
theorem dX1_sight_40 : decode cX1_sight 40 = .ok (.putfield 37, 3) := by decide +kernel
theorem dX1_sight_43 : decode cX1_sight 43 = .ok (.iconst 1, 1) := by decide +kernel
theorem dX1_sight_44 : decode cX1_sight 44 = .ok (.ireturn, 1) := by decide +kernel
theorem dX1_heave_0 : decode cX1_heave 0 = .ok (.aload_n 0, 1) := by decide +kernel
theorem dX1_heave_1 : decode cX1_heave 1 = .ok (.iload_n 1, 1) := by decide +kernel
theorem dX1_heave_2 : decode cX1_heave 2 = .ok (.invokevirtual 46, 3) := by decide +kernel
theorem dX1_heave_5 : decode cX1_heave 5 = .ok (.ifCond .eq 46, 3) := by decide +kernel
theorem dX1_heave_8 : decode cX1_heave 8 = .ok (.aload_n 0, 1) := by decide +kernel
theorem dX1_heave_9 : decode cX1_heave 9 = .ok (.getfield 34, 3) := by decide +kernel
theorem dX1_heave_12 : decode cX1_heave 12 = .ok (.bipush 8, 2) := by decide +kernel
theorem dX1_heave_14 : decode cX1_heave 14 = .ok (.if_icmp .ge 37, 3) := by decide +kernel
theorem dX1_heave_17 : decode cX1_heave 17 = .ok (.aload_n 0, 1) := by decide +kernel
theorem dX1_heave_18 : decode cX1_heave 18 = .ok (.dup, 1) := by decide +kernel
theorem dX1_heave_19 : decode cX1_heave 19 = .ok (.getfield 31, 3) := by decide +kernel
theorem dX1_heave_22 : decode cX1_heave 22 = .ok (.iconst 1, 1) := by decide +kernel
theorem dX1_heave_23 : decode cX1_heave 23 = .ok (.iload_n 1, 1) := by decide +kernel
theorem dX1_heave_24 : decode cX1_heave 24 = .ok (.ishl, 1) := by decide +kernel
theorem dX1_heave_25 : decode cX1_heave 25 = .ok (.iconst (-1), 1) := by decide +kernel
theorem dX1_heave_26 : decode cX1_heave 26 = .ok (.ixor, 1) := by decide +kernel
theorem dX1_heave_27 : decode cX1_heave 27 = .ok (.iand, 1) := by decide +kernel
theorem dX1_heave_28 : decode cX1_heave 28 = .ok (.putfield 31, 3) := by decide +kernel
theorem dX1_heave_31 : decode cX1_heave 31 = .ok (.aload_n 0, 1) := by decide +kernel
theorem dX1_heave_32 : decode cX1_heave 32 = .ok (.getfield 22, 3) := by decide +kernel
theorem dX1_heave_35 : decode cX1_heave 35 = .ok (.aload_n 0, 1) := by decide +kernel
theorem dX1_heave_36 : decode cX1_heave 36 = .ok (.getfield 34, 3) := by decide +kernel
theorem dX1_heave_39 : decode cX1_heave 39 = .ok (.iload_n 1, 1) := by decide +kernel
theorem dX1_heave_40 : decode cX1_heave 40 = .ok (.iastore, 1) := by decide +kernel
theorem dX1_heave_41 : decode cX1_heave 41 = .ok (.aload_n 0, 1) := by decide +kernel
theorem dX1_heave_42 : decode cX1_heave 42 = .ok (.dup, 1) := by decide +kernel
theorem dX1_heave_43 : decode cX1_heave 43 = .ok (.getfield 34, 3) := by decide +kernel
theorem dX1_heave_46 : decode cX1_heave 46 = .ok (.iconst 1, 1) := by decide +kernel
theorem dX1_heave_47 : decode cX1_heave 47 = .ok (.iadd, 1) := by decide +kernel
theorem dX1_heave_48 : decode cX1_heave 48 = .ok (.putfield 34, 3) := by decide +kernel
theorem dX1_heave_51 : decode cX1_heave 51 = .ok (.return_, 1) := by decide +kernel
theorem dX1_takeBack_0 : decode cX1_takeBack 0 = .ok (.aload_n 0, 1) := by decide +kernel
theorem dX1_takeBack_1 : decode cX1_takeBack 1 = .ok (.getfield 34, 3) := by decide +kernel
theorem dX1_takeBack_4 : decode cX1_takeBack 4 = .ok (.iconst 1, 1) := by decide +kernel
theorem dX1_takeBack_5 : decode cX1_takeBack 5 = .ok (.bipush 8, 2) := by decide +kernel
theorem dX1_takeBack_7 : decode cX1_takeBack 7 = .ok (.invokestatic 50, 3) := by decide +kernel
theorem dX1_takeBack_10 : decode cX1_takeBack 10 = .ok (.ifCond .ne 5, 3) := by decide +kernel
theorem dX1_takeBack_13 : decode cX1_takeBack 13 = .ok (.iconst 0, 1) := by decide +kernel
theorem dX1_takeBack_14 : decode cX1_takeBack 14 = .ok (.ireturn, 1) := by decide +kernel
theorem dX1_takeBack_15 : decode cX1_takeBack 15 = .ok (.aload_n 0, 1) := by decide +kernel
theorem dX1_takeBack_16 : decode cX1_takeBack 16 = .ok (.dup, 1) := by decide +kernel
theorem dX1_takeBack_17 : decode cX1_takeBack 17 = .ok (.getfield 34, 3) := by decide +kernel
theorem dX1_takeBack_20 : decode cX1_takeBack 20 = .ok (.iconst 1, 1) := by decide +kernel
theorem dX1_takeBack_21 : decode cX1_takeBack 21 = .ok (.isub, 1) := by decide +kernel
theorem dX1_takeBack_22 : decode cX1_takeBack 22 = .ok (.putfield 34, 3) := by decide +kernel
theorem dX1_takeBack_25 : decode cX1_takeBack 25 = .ok (.aload_n 0, 1) := by decide +kernel
theorem dX1_takeBack_26 : decode cX1_takeBack 26 = .ok (.dup, 1) := by decide +kernel
theorem dX1_takeBack_27 : decode cX1_takeBack 27 = .ok (.getfield 31, 3) := by decide +kernel
theorem dX1_takeBack_30 : decode cX1_takeBack 30 = .ok (.iconst 1, 1) := by decide +kernel
theorem dX1_takeBack_31 : decode cX1_takeBack 31 = .ok (.aload_n 0, 1) := by decide +kernel
theorem dX1_takeBack_32 : decode cX1_takeBack 32 = .ok (.getfield 22, 3) := by decide +kernel
theorem dX1_takeBack_35 : decode cX1_takeBack 35 = .ok (.aload_n 0, 1) := by decide +kernel
theorem dX1_takeBack_36 : decode cX1_takeBack 36 = .ok (.getfield 34, 3) := by decide +kernel
theorem dX1_takeBack_39 : decode cX1_takeBack 39 = .ok (.iaload, 1) := by decide +kernel
theorem dX1_takeBack_40 : decode cX1_takeBack 40 = .ok (.ishl, 1) := by decide +kernel
theorem dX1_takeBack_41 : decode cX1_takeBack 41 = .ok (.ior, 1) := by decide +kernel
theorem dX1_takeBack_42 : decode cX1_takeBack 42 = .ok (.putfield 31, 3) := by decide +kernel
theorem dX1_takeBack_45 : decode cX1_takeBack 45 = .ok (.iconst 1, 1) := by decide +kernel
theorem dX1_takeBack_46 : decode cX1_takeBack 46 = .ok (.ireturn, 1) := by decide +kernel
theorem dX1_isTop_0 : decode cX1_isTop 0 = .ok (.aload_n 0, 1) := by decide +kernel
theorem dX1_isTop_1 : decode cX1_isTop 1 = .ok (.iload_n 1, 1) := by decide +kernel
theorem dX1_isTop_2 : decode cX1_isTop 2 = .ok (.invokevirtual 46, 3) := by decide +kernel
theorem dX1_isTop_5 : decode cX1_isTop 5 = .ok (.ifCond .eq 11, 3) := by decide +kernel
theorem dX1_isTop_8 : decode cX1_isTop 8 = .ok (.iload_n 2, 1) := by decide +kernel
theorem dX1_isTop_9 : decode cX1_isTop 9 = .ok (.iload_n 1, 1) := by decide +kernel
theorem dX1_isTop_10 : decode cX1_isTop 10 = .ok (.invokestatic 54, 3) := by decide +kernel
theorem dX1_isTop_13 : decode cX1_isTop 13 = .ok (.ifCond .ne 5, 3) := by decide +kernel
theorem dX1_isTop_16 : decode cX1_isTop 16 = .ok (.iconst 0, 1) := by decide +kernel
theorem dX1_isTop_17 : decode cX1_isTop 17 = .ok (.ireturn, 1) := by decide +kernel
theorem dX1_isTop_18 : decode cX1_isTop 18 = .ok (.iload_n 1, 1) := by decide +kernel
theorem dX1_isTop_19 : decode cX1_isTop 19 = .ok (.iconst 1, 1) := by decide +kernel
theorem dX1_isTop_20 : decode cX1_isTop 20 = .ok (.iadd, 1) := by decide +kernel
theorem dX1_isTop_21 : decode cX1_isTop 21 = .ok (.istore_n 3, 1) := by decide +kernel
theorem dX1_isTop_22 : decode cX1_isTop 22 = .ok (.iload_n 3, 1) := by decide +kernel
theorem dX1_isTop_23 : decode cX1_isTop 23 = .ok (.aload_n 0, 1) := by decide +kernel
theorem dX1_isTop_24 : decode cX1_isTop 24 = .ok (.getfield 28, 3) := by decide +kernel
theorem dX1_isTop_27 : decode cX1_isTop 27 = .ok (.if_icmp .ge 34, 3) := by decide +kernel
theorem dX1_isTop_30 : decode cX1_isTop 30 = .ok (.iload_n 2, 1) := by decide +kernel
theorem dX1_isTop_31 : decode cX1_isTop 31 = .ok (.iload_n 3, 1) := by decide +kernel
theorem dX1_isTop_32 : decode cX1_isTop 32 = .ok (.invokestatic 54, 3) := by decide +kernel
theorem dX1_isTop_35 : decode cX1_isTop 35 = .ok (.ifCond .eq 20, 3) := by decide +kernel
theorem dX1_isTop_38 : decode cX1_isTop 38 = .ok (.aload_n 0, 1) := by decide +kernel
theorem dX1_isTop_39 : decode cX1_isTop 39 = .ok (.iload_n 3, 1) := by decide +kernel
theorem dX1_isTop_40 : decode cX1_isTop 40 = .ok (.iconst 2, 1) := by decide +kernel
theorem dX1_isTop_41 : decode cX1_isTop 41 = .ok (.invokevirtual 58, 3) := by decide +kernel
theorem dX1_isTop_44 : decode cX1_isTop 44 = .ok (.aload_n 0, 1) := by decide +kernel
theorem dX1_isTop_45 : decode cX1_isTop 45 = .ok (.iload_n 1, 1) := by decide +kernel
theorem dX1_isTop_46 : decode cX1_isTop 46 = .ok (.iconst 2, 1) := by decide +kernel
theorem dX1_isTop_47 : decode cX1_isTop 47 = .ok (.invokevirtual 58, 3) := by decide +kernel
theorem dX1_isTop_50 : decode cX1_isTop 50 = .ok (.if_icmp .ne 5, 3) := by decide +kernel
theorem dX1_isTop_53 : decode cX1_isTop 53 = .ok (.iconst 0, 1) := by decide +kernel
theorem dX1_isTop_54 : decode cX1_isTop 54 = .ok (.ireturn, 1) := by decide +kernel
theorem dX1_isTop_55 : decode cX1_isTop 55 = .ok (.iinc 3 1, 3) := by decide +kernel
theorem dX1_isTop_58 : decode cX1_isTop 58 = .ok (.goto (-36), 3) := by decide +kernel
theorem dX1_isTop_61 : decode cX1_isTop 61 = .ok (.iconst 1, 1) := by decide +kernel
theorem dX1_isTop_62 : decode cX1_isTop 62 = .ok (.ireturn, 1) := by decide +kernel
theorem dX1_firstTop_0 : decode cX1_firstTop 0 = .ok (.iconst 0, 1) := by decide +kernel
theorem dX1_firstTop_1 : decode cX1_firstTop 1 = .ok (.istore_n 3, 1) := by decide +kernel
theorem dX1_firstTop_2 : decode cX1_firstTop 2 = .ok (.iload_n 3, 1) := by decide +kernel
theorem dX1_firstTop_3 : decode cX1_firstTop 3 = .ok (.aload_n 0, 1) := by decide +kernel
theorem dX1_firstTop_4 : decode cX1_firstTop 4 = .ok (.getfield 28, 3) := by decide +kernel
theorem dX1_firstTop_7 : decode cX1_firstTop 7 = .ok (.if_icmp .ge 28, 3) := by decide +kernel
theorem dX1_firstTop_10 : decode cX1_firstTop 10 = .ok (.iload_n 1, 1) := by decide +kernel
theorem dX1_firstTop_11 : decode cX1_firstTop 11 = .ok (.iload_n 3, 1) := by decide +kernel
theorem dX1_firstTop_12 : decode cX1_firstTop 12 = .ok (.invokestatic 54, 3) := by decide +kernel
theorem dX1_firstTop_15 : decode cX1_firstTop 15 = .ok (.ifCond .eq 14, 3) := by decide +kernel
theorem dX1_firstTop_18 : decode cX1_firstTop 18 = .ok (.aload_n 0, 1) := by decide +kernel
theorem dX1_firstTop_19 : decode cX1_firstTop 19 = .ok (.iload_n 3, 1) := by decide +kernel
theorem dX1_firstTop_20 : decode cX1_firstTop 20 = .ok (.iload_n 2, 1) := by decide +kernel
theorem dX1_firstTop_21 : decode cX1_firstTop 21 = .ok (.invokevirtual 62, 3) := by decide +kernel
theorem dX1_firstTop_24 : decode cX1_firstTop 24 = .ok (.ifCond .eq 5, 3) := by decide +kernel
theorem dX1_firstTop_27 : decode cX1_firstTop 27 = .ok (.iload_n 3, 1) := by decide +kernel
theorem dX1_firstTop_28 : decode cX1_firstTop 28 = .ok (.ireturn, 1) := by decide +kernel
theorem dX1_firstTop_29 : decode cX1_firstTop 29 = .ok (.iinc 3 1, 3) := by decide +kernel
theorem dX1_firstTop_32 : decode cX1_firstTop 32 = .ok (.goto (-30), 3) := by decide +kernel
theorem dX1_firstTop_35 : decode cX1_firstTop 35 = .ok (.iconst (-1), 1) := by decide +kernel
theorem dX1_firstTop_36 : decode cX1_firstTop 36 = .ok (.ireturn, 1) := by decide +kernel
theorem dX1_total_0 : decode cX1_total 0 = .ok (.iconst 0, 1) := by decide +kernel
theorem dX1_total_1 : decode cX1_total 1 = .ok (.istore_n 3, 1) := by decide +kernel
theorem dX1_total_2 : decode cX1_total 2 = .ok (.iconst 0, 1) := by decide +kernel
theorem dX1_total_3 : decode cX1_total 3 = .ok (.istore 4, 2) := by decide +kernel
theorem dX1_total_5 : decode cX1_total 5 = .ok (.iload 4, 2) := by decide +kernel
theorem dX1_total_7 : decode cX1_total 7 = .ok (.aload_n 0, 1) := by decide +kernel
theorem dX1_total_8 : decode cX1_total 8 = .ok (.getfield 28, 3) := by decide +kernel
theorem dX1_total_11 : decode cX1_total 11 = .ok (.if_icmp .ge 28, 3) := by decide +kernel
theorem dX1_total_14 : decode cX1_total 14 = .ok (.iload_n 1, 1) := by decide +kernel
theorem dX1_total_15 : decode cX1_total 15 = .ok (.iload 4, 2) := by decide +kernel
theorem dX1_total_17 : decode cX1_total 17 = .ok (.invokestatic 54, 3) := by decide +kernel
theorem dX1_total_20 : decode cX1_total 20 = .ok (.ifCond .eq 13, 3) := by decide +kernel
theorem dX1_total_23 : decode cX1_total 23 = .ok (.iload_n 3, 1) := by decide +kernel
theorem dX1_total_24 : decode cX1_total 24 = .ok (.aload_n 0, 1) := by decide +kernel
theorem dX1_total_25 : decode cX1_total 25 = .ok (.iload 4, 2) := by decide +kernel
theorem dX1_total_27 : decode cX1_total 27 = .ok (.iload_n 2, 1) := by decide +kernel
theorem dX1_total_28 : decode cX1_total 28 = .ok (.invokevirtual 58, 3) := by decide +kernel
theorem dX1_total_31 : decode cX1_total 31 = .ok (.iadd, 1) := by decide +kernel
theorem dX1_total_32 : decode cX1_total 32 = .ok (.istore_n 3, 1) := by decide +kernel
theorem dX1_total_33 : decode cX1_total 33 = .ok (.iinc 4 1, 3) := by decide +kernel
theorem dX1_total_36 : decode cX1_total 36 = .ok (.goto (-31), 3) := by decide +kernel
theorem dX1_total_39 : decode cX1_total 39 = .ok (.iload_n 3, 1) := by decide +kernel
theorem dX1_total_40 : decode cX1_total 40 = .ok (.ireturn, 1) := by decide +kernel
theorem dX1_outlives_0 : decode cX1_outlives 0 = .ok (.aload_n 0, 1) := by decide +kernel
theorem dX1_outlives_1 : decode cX1_outlives 1 = .ok (.iload_n 2, 1) := by decide +kernel
theorem dX1_outlives_2 : decode cX1_outlives 2 = .ok (.iconst 3, 1) := by decide +kernel
theorem dX1_outlives_3 : decode cX1_outlives 3 = .ok (.invokevirtual 65, 3) := by decide +kernel
theorem dX1_outlives_6 : decode cX1_outlives 6 = .ok (.aload_n 0, 1) := by decide +kernel
theorem dX1_outlives_7 : decode cX1_outlives 7 = .ok (.getfield 15, 3) := by decide +kernel
theorem dX1_outlives_10 : decode cX1_outlives 10 = .ok (.iload_n 1, 1) := by decide +kernel
theorem dX1_outlives_11 : decode cX1_outlives 11 = .ok (.isub, 1) := by decide +kernel
theorem dX1_outlives_12 : decode cX1_outlives 12 = .ok (.if_icmp .gt 7, 3) := by decide +kernel
theorem dX1_outlives_15 : decode cX1_outlives 15 = .ok (.iconst 1, 1) := by decide +kernel
theorem dX1_outlives_16 : decode cX1_outlives 16 = .ok (.goto 4, 3) := by decide +kernel
theorem dX1_outlives_19 : decode cX1_outlives 19 = .ok (.iconst 0, 1) := by decide +kernel
theorem dX1_outlives_20 : decode cX1_outlives 20 = .ok (.ireturn, 1) := by decide +kernel
theorem dX1_gone_0 : decode cX1_gone 0 = .ok (.iconst 1, 1) := by decide +kernel
theorem dX1_gone_1 : decode cX1_gone 1 = .ok (.aload_n 0, 1) := by decide +kernel
theorem dX1_gone_2 : decode cX1_gone 2 = .ok (.getfield 28, 3) := by decide +kernel
theorem dX1_gone_5 : decode cX1_gone 5 = .ok (.ishl, 1) := by decide +kernel
theorem dX1_gone_6 : decode cX1_gone 6 = .ok (.iconst 1, 1) := by decide +kernel
theorem dX1_gone_7 : decode cX1_gone 7 = .ok (.isub, 1) := by decide +kernel
theorem dX1_gone_8 : decode cX1_gone 8 = .ok (.aload_n 0, 1) := by decide +kernel
theorem dX1_gone_9 : decode cX1_gone 9 = .ok (.getfield 31, 3) := by decide +kernel
theorem dX1_gone_12 : decode cX1_gone 12 = .ok (.iconst (-1), 1) := by decide +kernel
theorem dX1_gone_13 : decode cX1_gone 13 = .ok (.ixor, 1) := by decide +kernel
theorem dX1_gone_14 : decode cX1_gone 14 = .ok (.iand, 1) := by decide +kernel
theorem dX1_gone_15 : decode cX1_gone 15 = .ok (.ireturn, 1) := by decide +kernel
theorem dX1_fitting_0 : decode cX1_fitting 0 = .ok (.aload_n 0, 1) := by decide +kernel
theorem dX1_fitting_1 : decode cX1_fitting 1 = .ok (.invokevirtual 68, 3) := by decide +kernel
theorem dX1_fitting_4 : decode cX1_fitting 4 = .ok (.istore_n 1, 1) := by decide +kernel
theorem dX1_fitting_5 : decode cX1_fitting 5 = .ok (.iconst 0, 1) := by decide +kernel
theorem dX1_fitting_6 : decode cX1_fitting 6 = .ok (.istore_n 2, 1) := by decide +kernel
theorem dX1_fitting_7 : decode cX1_fitting 7 = .ok (.iconst 0, 1) := by decide +kernel
theorem dX1_fitting_8 : decode cX1_fitting 8 = .ok (.istore_n 3, 1) := by decide +kernel
theorem dX1_fitting_9 : decode cX1_fitting 9 = .ok (.iload_n 3, 1) := by decide +kernel
theorem dX1_fitting_10 : decode cX1_fitting 10 = .ok (.aload_n 0, 1) := by decide +kernel
theorem dX1_fitting_11 : decode cX1_fitting 11 = .ok (.getfield 28, 3) := by decide +kernel
theorem dX1_fitting_14 : decode cX1_fitting 14 = .ok (.if_icmp .ge 31, 3) := by decide +kernel
theorem dX1_fitting_17 : decode cX1_fitting 17 = .ok (.iload_n 1, 1) := by decide +kernel
theorem dX1_fitting_18 : decode cX1_fitting 18 = .ok (.iload_n 3, 1) := by decide +kernel
theorem dX1_fitting_19 : decode cX1_fitting 19 = .ok (.invokestatic 54, 3) := by decide +kernel
theorem dX1_fitting_22 : decode cX1_fitting 22 = .ok (.ifCond .eq 17, 3) := by decide +kernel
theorem dX1_fitting_25 : decode cX1_fitting 25 = .ok (.aload_n 0, 1) := by decide +kernel
theorem dX1_fitting_26 : decode cX1_fitting 26 = .ok (.iload_n 3, 1) := by decide +kernel
theorem dX1_fitting_27 : decode cX1_fitting 27 = .ok (.invokevirtual 72, 3) := by decide +kernel
theorem dX1_fitting_30 : decode cX1_fitting 30 = .ok (.ifCond .eq 9, 3) := by decide +kernel
theorem dX1_fitting_33 : decode cX1_fitting 33 = .ok (.iload_n 2, 1) := by decide +kernel
theorem dX1_fitting_34 : decode cX1_fitting 34 = .ok (.iconst 1, 1) := by decide +kernel
theorem dX1_fitting_35 : decode cX1_fitting 35 = .ok (.iload_n 3, 1) := by decide +kernel
theorem dX1_fitting_36 : decode cX1_fitting 36 = .ok (.ishl, 1) := by decide +kernel
theorem dX1_fitting_37 : decode cX1_fitting 37 = .ok (.ior, 1) := by decide +kernel
theorem dX1_fitting_38 : decode cX1_fitting 38 = .ok (.istore_n 2, 1) := by decide +kernel
theorem dX1_fitting_39 : decode cX1_fitting 39 = .ok (.iinc 3 1, 3) := by decide +kernel
theorem dX1_fitting_42 : decode cX1_fitting 42 = .ok (.goto (-33), 3) := by decide +kernel
theorem dX1_fitting_45 : decode cX1_fitting 45 = .ok (.iload_n 2, 1) := by decide +kernel
theorem dX1_fitting_46 : decode cX1_fitting 46 = .ok (.ireturn, 1) := by decide +kernel
theorem dX1_fitsAll_0 : decode cX1_fitsAll 0 = .ok (.iconst 0, 1) := by decide +kernel
theorem dX1_fitsAll_1 : decode cX1_fitsAll 1 = .ok (.istore_n 2, 1) := by decide +kernel
theorem dX1_fitsAll_2 : decode cX1_fitsAll 2 = .ok (.iload_n 2, 1) := by decide +kernel
theorem dX1_fitsAll_3 : decode cX1_fitsAll 3 = .ok (.aload_n 0, 1) := by decide +kernel
theorem dX1_fitsAll_4 : decode cX1_fitsAll 4 = .ok (.getfield 37, 3) := by decide +kernel
theorem dX1_fitsAll_7 : decode cX1_fitsAll 7 = .ok (.if_icmp .ge 63, 3) := by decide +kernel
theorem dX1_fitsAll_10 : decode cX1_fitsAll 10 = .ok (.aload_n 0, 1) := by decide +kernel
theorem dX1_fitsAll_11 : decode cX1_fitsAll 11 = .ok (.iload_n 2, 1) := by decide +kernel
theorem dX1_fitsAll_12 : decode cX1_fitsAll 12 = .ok (.iconst 2, 1) := by decide +kernel
theorem dX1_fitsAll_13 : decode cX1_fitsAll 13 = .ok (.invokevirtual 75, 3) := by decide +kernel
theorem dX1_fitsAll_16 : decode cX1_fitsAll 16 = .ok (.istore_n 3, 1) := by decide +kernel
theorem dX1_fitsAll_17 : decode cX1_fitsAll 17 = .ok (.aload_n 0, 1) := by decide +kernel
theorem dX1_fitsAll_18 : decode cX1_fitsAll 18 = .ok (.iload_n 1, 1) := by decide +kernel
theorem dX1_fitsAll_19 : decode cX1_fitsAll 19 = .ok (.iconst 3, 1) := by decide +kernel
theorem dX1_fitsAll_20 : decode cX1_fitsAll 20 = .ok (.invokevirtual 58, 3) := by decide +kernel
theorem dX1_fitsAll_23 : decode cX1_fitsAll 23 = .ok (.aload_n 0, 1) := by decide +kernel
theorem dX1_fitsAll_24 : decode cX1_fitsAll 24 = .ok (.iload_n 2, 1) := by decide +kernel
theorem dX1_fitsAll_25 : decode cX1_fitsAll 25 = .ok (.iconst 0, 1) := by decide +kernel
theorem dX1_fitsAll_26 : decode cX1_fitsAll 26 = .ok (.invokevirtual 75, 3) := by decide +kernel
theorem dX1_fitsAll_29 : decode cX1_fitsAll 29 = .ok (.if_icmp .lt 33, 3) := by decide +kernel
theorem dX1_fitsAll_32 : decode cX1_fitsAll 32 = .ok (.aload_n 0, 1) := by decide +kernel
theorem dX1_fitsAll_33 : decode cX1_fitsAll 33 = .ok (.iload_n 1, 1) := by decide +kernel
theorem dX1_fitsAll_34 : decode cX1_fitsAll 34 = .ok (.iconst 4, 1) := by decide +kernel
theorem dX1_fitsAll_35 : decode cX1_fitsAll 35 = .ok (.invokevirtual 58, 3) := by decide +kernel
theorem dX1_fitsAll_38 : decode cX1_fitsAll 38 = .ok (.aload_n 0, 1) := by decide +kernel
theorem dX1_fitsAll_39 : decode cX1_fitsAll 39 = .ok (.iload_n 2, 1) := by decide +kernel
theorem dX1_fitsAll_40 : decode cX1_fitsAll 40 = .ok (.iconst 1, 1) := by decide +kernel
theorem dX1_fitsAll_41 : decode cX1_fitsAll 41 = .ok (.invokevirtual 75, 3) := by decide +kernel
theorem dX1_fitsAll_44 : decode cX1_fitsAll 44 = .ok (.if_icmp .gt 18, 3) := by decide +kernel
theorem dX1_fitsAll_47 : decode cX1_fitsAll 47 = .ok (.iload_n 3, 1) := by decide +kernel
theorem dX1_fitsAll_48 : decode cX1_fitsAll 48 = .ok (.iconst 3, 1) := by decide +kernel
theorem dX1_fitsAll_49 : decode cX1_fitsAll 49 = .ok (.if_icmp .eq 15, 3) := by decide +kernel
theorem dX1_fitsAll_52 : decode cX1_fitsAll 52 = .ok (.iload_n 3, 1) := by decide +kernel
theorem dX1_fitsAll_53 : decode cX1_fitsAll 53 = .ok (.aload_n 0, 1) := by decide +kernel
theorem dX1_fitsAll_54 : decode cX1_fitsAll 54 = .ok (.iload_n 1, 1) := by decide +kernel
theorem dX1_fitsAll_55 : decode cX1_fitsAll 55 = .ok (.iconst 2, 1) := by decide +kernel
theorem dX1_fitsAll_56 : decode cX1_fitsAll 56 = .ok (.invokevirtual 58, 3) := by decide +kernel
theorem dX1_fitsAll_59 : decode cX1_fitsAll 59 = .ok (.if_icmp .eq 5, 3) := by decide +kernel
theorem dX1_fitsAll_62 : decode cX1_fitsAll 62 = .ok (.iconst 0, 1) := by decide +kernel
theorem dX1_fitsAll_63 : decode cX1_fitsAll 63 = .ok (.ireturn, 1) := by decide +kernel
theorem dX1_fitsAll_64 : decode cX1_fitsAll 64 = .ok (.iinc 2 1, 3) := by decide +kernel
theorem dX1_fitsAll_67 : decode cX1_fitsAll 67 = .ok (.goto (-65), 3) := by decide +kernel
theorem dX1_fitsAll_70 : decode cX1_fitsAll 70 = .ok (.iconst 1, 1) := by decide +kernel
theorem dX1_fitsAll_71 : decode cX1_fitsAll 71 = .ok (.ireturn, 1) := by decide +kernel
theorem dX1_countWith_0 : decode cX1_countWith 0 = .ok (.iconst 0, 1) := by decide +kernel
theorem dX1_countWith_1 : decode cX1_countWith 1 = .ok (.istore 4, 2) := by decide +kernel
theorem dX1_countWith_3 : decode cX1_countWith 3 = .ok (.iconst 0, 1) := by decide +kernel
theorem dX1_countWith_4 : decode cX1_countWith 4 = .ok (.istore 5, 2) := by decide +kernel
theorem dX1_countWith_6 : decode cX1_countWith 6 = .ok (.iload 5, 2) := by decide +kernel
theorem dX1_countWith_8 : decode cX1_countWith 8 = .ok (.aload_n 0, 1) := by decide +kernel
theorem dX1_countWith_9 : decode cX1_countWith 9 = .ok (.getfield 28, 3) := by decide +kernel
theorem dX1_countWith_12 : decode cX1_countWith 12 = .ok (.if_icmp .ge 32, 3) := by decide +kernel
theorem dX1_countWith_15 : decode cX1_countWith 15 = .ok (.iload_n 1, 1) := by decide +kernel
theorem dX1_countWith_16 : decode cX1_countWith 16 = .ok (.iload 5, 2) := by decide +kernel
theorem dX1_countWith_18 : decode cX1_countWith 18 = .ok (.invokestatic 54, 3) := by decide +kernel
theorem dX1_countWith_21 : decode cX1_countWith 21 = .ok (.ifCond .eq 17, 3) := by decide +kernel
theorem dX1_countWith_24 : decode cX1_countWith 24 = .ok (.aload_n 0, 1) := by decide +kernel
theorem dX1_countWith_25 : decode cX1_countWith 25 = .ok (.iload 5, 2) := by decide +kernel
theorem dX1_countWith_27 : decode cX1_countWith 27 = .ok (.iload_n 2, 1) := by decide +kernel
theorem dX1_countWith_28 : decode cX1_countWith 28 = .ok (.invokevirtual 58, 3) := by decide +kernel
theorem dX1_countWith_31 : decode cX1_countWith 31 = .ok (.iload_n 3, 1) := by decide +kernel
theorem dX1_countWith_32 : decode cX1_countWith 32 = .ok (.if_icmp .ne 6, 3) := by decide +kernel
theorem dX1_countWith_35 : decode cX1_countWith 35 = .ok (.iinc 4 1, 3) := by decide +kernel
theorem dX1_countWith_38 : decode cX1_countWith 38 = .ok (.iinc 5 1, 3) := by decide +kernel
theorem dX1_countWith_41 : decode cX1_countWith 41 = .ok (.goto (-35), 3) := by decide +kernel
theorem dX1_countWith_44 : decode cX1_countWith 44 = .ok (.iload 4, 2) := by decide +kernel
theorem dX1_countWith_46 : decode cX1_countWith 46 = .ok (.ireturn, 1) := by decide +kernel
theorem dX2_init_0 : decode cX2_init 0 = .ok (.aload_n 0, 1) := by decide +kernel
theorem dX2_init_1 : decode cX2_init 1 = .ok (.invokespecial 1, 3) := by decide +kernel
theorem dX2_init_4 : decode cX2_init 4 = .ok (.return_, 1) := by decide +kernel
theorem dX2_madeGood_0 : decode cX2_madeGood 0 = .ok (.iconst 0, 1) := by decide +kernel
theorem dX2_madeGood_1 : decode cX2_madeGood 1 = .ok (.ireturn, 1) := by decide +kernel
theorem dX3_init_0 : decode cX3_init 0 = .ok (.aload_n 0, 1) := by decide +kernel
theorem dX3_init_1 : decode cX3_init 1 = .ok (.invokespecial 1, 3) := by decide +kernel
theorem dX3_init_4 : decode cX3_init 4 = .ok (.aload_n 0, 1) := by decide +kernel
theorem dX3_init_5 : decode cX3_init 5 = .ok (.lconst 1, 1) := by decide +kernel
theorem dX3_init_6 : decode cX3_init 6 = .ok (.putfield 7, 3) := by decide +kernel
theorem dX3_init_9 : decode cX3_init 9 = .ok (.return_, 1) := by decide +kernel
theorem dX3_become_0 : decode cX3_become 0 = .ok (.lload_n 1, 1) := by decide +kernel
theorem dX3_become_1 : decode cX3_become 1 = .ok (.invokestatic 13, 3) := by decide +kernel
theorem dX3_become_4 : decode cX3_become 4 = .ok (.lload_n 3, 1) := by decide +kernel
theorem dX3_become_5 : decode cX3_become 5 = .ok (.invokestatic 19, 3) := by decide +kernel
theorem dX3_become_8 : decode cX3_become 8 = .ok (.lstore 5, 2) := by decide +kernel
theorem dX3_become_10 : decode cX3_become 10 = .ok (.lload 5, 2) := by decide +kernel
theorem dX3_become_12 : decode cX3_become 12 = .ok (.lconst 0, 1) := by decide +kernel
theorem dX3_become_13 : decode cX3_become 13 = .ok (.lcmp, 1) := by decide +kernel
theorem dX3_become_14 : decode cX3_become 14 = .ok (.ifCond .le 19, 3) := by decide +kernel
theorem dX3_become_17 : decode cX3_become 17 = .ok (.aload_n 0, 1) := by decide +kernel
theorem dX3_become_18 : decode cX3_become 18 = .ok (.lload_n 1, 1) := by decide +kernel
theorem dX3_become_19 : decode cX3_become 19 = .ok (.lload 5, 2) := by decide +kernel
theorem dX3_become_21 : decode cX3_become 21 = .ok (.ldiv, 1) := by decide +kernel
theorem dX3_become_22 : decode cX3_become 22 = .ok (.putfield 23, 3) := by decide +kernel
theorem dX3_become_25 : decode cX3_become 25 = .ok (.aload_n 0, 1) := by decide +kernel
theorem dX3_become_26 : decode cX3_become 26 = .ok (.lload_n 3, 1) := by decide +kernel
theorem dX3_become_27 : decode cX3_become 27 = .ok (.lload 5, 2) := by decide +kernel
theorem dX3_become_29 : decode cX3_become 29 = .ok (.ldiv, 1) := by decide +kernel
theorem dX3_become_30 : decode cX3_become 30 = .ok (.putfield 7, 3) := by decide +kernel
theorem dX3_become_33 : decode cX3_become 33 = .ok (.return_, 1) := by decide +kernel
theorem dX3_greatestCommon_0 : decode cX3_greatestCommon 0 = .ok (.iconst 0, 1) := by decide +kernel
theorem dX3_greatestCommon_1 : decode cX3_greatestCommon 1 = .ok (.istore 4, 2) := by decide +kernel
theorem dX3_greatestCommon_3 : decode cX3_greatestCommon 3 = .ok (.iload 4, 2) := by decide +kernel
theorem dX3_greatestCommon_5 : decode cX3_greatestCommon 5 = .ok (.bipush 100, 2) := by decide +kernel
theorem dX3_greatestCommon_7 : decode cX3_greatestCommon 7 = .ok (.if_icmp .ge 25, 3) := by decide +kernel
theorem dX3_greatestCommon_10 : decode cX3_greatestCommon 10 = .ok (.lload_n 2, 1) := by decide +kernel
theorem dX3_greatestCommon_11 : decode cX3_greatestCommon 11 = .ok (.lconst 0, 1) := by decide +kernel
theorem dX3_greatestCommon_12 : decode cX3_greatestCommon 12 = .ok (.lcmp, 1) := by decide +kernel
theorem dX3_greatestCommon_13 : decode cX3_greatestCommon 13 = .ok (.ifCond .eq 19, 3) := by decide +kernel
theorem dX3_greatestCommon_16 : decode cX3_greatestCommon 16 = .ok (.lload_n 0, 1) := by decide +kernel
theorem dX3_greatestCommon_17 : decode cX3_greatestCommon 17 = .ok (.lload_n 2, 1) := by decide +kernel
theorem dX3_greatestCommon_18 : decode cX3_greatestCommon 18 = .ok (.lrem, 1) := by decide +kernel
theorem dX3_greatestCommon_19 : decode cX3_greatestCommon 19 = .ok (.lstore 5, 2) := by decide +kernel
theorem dX3_greatestCommon_21 : decode cX3_greatestCommon 21 = .ok (.lload_n 2, 1) := by decide +kernel
theorem dX3_greatestCommon_22 : decode cX3_greatestCommon 22 = .ok (.lstore_n 0, 1) := by decide +kernel
theorem dX3_greatestCommon_23 : decode cX3_greatestCommon 23 = .ok (.lload 5, 2) := by decide +kernel
theorem dX3_greatestCommon_25 : decode cX3_greatestCommon 25 = .ok (.lstore_n 2, 1) := by decide +kernel
theorem dX3_greatestCommon_26 : decode cX3_greatestCommon 26 = .ok (.iinc 4 1, 3) := by decide +kernel
theorem dX3_greatestCommon_29 : decode cX3_greatestCommon 29 = .ok (.goto (-26), 3) := by decide +kernel
theorem dX3_greatestCommon_32 : decode cX3_greatestCommon 32 = .ok (.lload_n 0, 1) := by decide +kernel
theorem dX3_greatestCommon_33 : decode cX3_greatestCommon 33 = .ok (.lreturn, 1) := by decide +kernel
theorem dX4_init_0 : decode cX4_init 0 = .ok (.aload_n 0, 1) := by decide +kernel
theorem dX4_init_1 : decode cX4_init 1 = .ok (.invokespecial 1, 3) := by decide +kernel
theorem dX4_init_4 : decode cX4_init 4 = .ok (.return_, 1) := by decide +kernel
theorem dX4_madeGood_0 : decode cX4_madeGood 0 = .ok (.aload_n 0, 1) := by decide +kernel
theorem dX4_madeGood_1 : decode cX4_madeGood 1 = .ok (.iload_n 1, 1) := by decide +kernel
theorem dX4_madeGood_2 : decode cX4_madeGood 2 = .ok (.invokespecial 7, 3) := by decide +kernel
theorem dX4_madeGood_5 : decode cX4_madeGood 5 = .ok (.iconst 2, 1) := by decide +kernel
theorem dX4_madeGood_6 : decode cX4_madeGood 6 = .ok (.idiv, 1) := by decide +kernel
theorem dX4_madeGood_7 : decode cX4_madeGood 7 = .ok (.ireturn, 1) := by decide +kernel
theorem dX4_bears_0 : decode cX4_bears 0 = .ok (.aload_n 0, 1) := by decide +kernel
theorem dX4_bears_1 : decode cX4_bears 1 = .ok (.iload_n 1, 1) := by decide +kernel
theorem dX4_bears_2 : decode cX4_bears 2 = .ok (.invokespecial 11, 3) := by decide +kernel
theorem dX4_bears_5 : decode cX4_bears 5 = .ok (.iconst 3, 1) := by decide +kernel
theorem dX4_bears_6 : decode cX4_bears 6 = .ok (.iadd, 1) := by decide +kernel
theorem dX4_bears_7 : decode cX4_bears 7 = .ok (.ireturn, 1) := by decide +kernel
theorem dX5_init_0 : decode cX5_init 0 = .ok (.aload_n 0, 1) := by decide +kernel
theorem dX5_init_1 : decode cX5_init 1 = .ok (.invokespecial 1, 3) := by decide +kernel
theorem dX5_init_4 : decode cX5_init 4 = .ok (.return_, 1) := by decide +kernel
theorem dX5_bears_0 : decode cX5_bears 0 = .ok (.aload_n 0, 1) := by decide +kernel
theorem dX5_bears_1 : decode cX5_bears 1 = .ok (.iload_n 1, 1) := by decide +kernel
theorem dX5_bears_2 : decode cX5_bears 2 = .ok (.invokespecial 7, 3) := by decide +kernel
theorem dX5_bears_5 : decode cX5_bears 5 = .ok (.iconst 2, 1) := by decide +kernel
theorem dX5_bears_6 : decode cX5_bears 6 = .ok (.idiv, 1) := by decide +kernel
theorem dX5_bears_7 : decode cX5_bears 7 = .ok (.ireturn, 1) := by decide +kernel
theorem dX6_init_0 : decode cX6_init 0 = .ok (.aload_n 0, 1) := by decide +kernel
theorem dX6_init_1 : decode cX6_init 1 = .ok (.invokespecial 3, 3) := by decide +kernel
theorem dX6_init_4 : decode cX6_init 4 = .ok (.aload_n 0, 1) := by decide +kernel
theorem dX6_init_5 : decode cX6_init 5 = .ok (.iconst 3, 1) := by decide +kernel
theorem dX6_init_6 : decode cX6_init 6 = .ok (.newarray .int, 2) := by decide +kernel
theorem dX6_init_8 : decode cX6_init 8 = .ok (.putfield 9, 3) := by decide +kernel
theorem dX6_init_11 : decode cX6_init 11 = .ok (.aload_n 0, 1) := by decide +kernel
theorem dX6_init_12 : decode cX6_init 12 = .ok (.bipush 27, 2) := by decide +kernel
theorem dX6_init_14 : decode cX6_init 14 = .ok (.newarray .int, 2) := by decide +kernel
theorem dX6_init_16 : decode cX6_init 16 = .ok (.putfield 15, 3) := by decide +kernel
theorem dX6_init_19 : decode cX6_init 19 = .ok (.aload_n 0, 1) := by decide +kernel
theorem dX6_init_20 : decode cX6_init 20 = .ok (.bipush 27, 2) := by decide +kernel
theorem dX6_init_22 : decode cX6_init 22 = .ok (.newarray .int, 2) := by decide +kernel
theorem dX6_init_24 : decode cX6_init 24 = .ok (.putfield 18, 3) := by decide +kernel
theorem dX6_init_27 : decode cX6_init 27 = .ok (.aload_n 0, 1) := by decide +kernel
theorem dX6_init_28 : decode cX6_init 28 = .ok (.bipush 27, 2) := by decide +kernel
theorem dX6_init_30 : decode cX6_init 30 = .ok (.newarray .int, 2) := by decide +kernel
theorem dX6_init_32 : decode cX6_init 32 = .ok (.putfield 21, 3) := by decide +kernel
theorem dX6_init_35 : decode cX6_init 35 = .ok (.return_, 1) := by decide +kernel
theorem dX6_find_0 : decode cX6_find 0 = .ok (.aload_n 0, 1) := by decide +kernel
theorem dX6_find_1 : decode cX6_find 1 = .ok (.aload_n 1, 1) := by decide +kernel
theorem dX6_find_2 : decode cX6_find 2 = .ok (.iload_n 2, 1) := by decide +kernel
theorem dX6_find_3 : decode cX6_find 3 = .ok (.iconst (-1), 1) := by decide +kernel
theorem dX6_find_4 : decode cX6_find 4 = .ok (.iconst (-1), 1) := by decide +kernel
theorem dX6_find_5 : decode cX6_find 5 = .ok (.invokevirtual 24, 3) := by decide +kernel
theorem dX6_find_8 : decode cX6_find 8 = .ok (.aload_n 0, 1) := by decide +kernel
theorem dX6_find_9 : decode cX6_find 9 = .ok (.aload_n 1, 1) := by decide +kernel
theorem dX6_find_10 : decode cX6_find 10 = .ok (.iload_n 2, 1) := by decide +kernel
theorem dX6_find_11 : decode cX6_find 11 = .ok (.iload_n 3, 1) := by decide +kernel
theorem dX6_find_12 : decode cX6_find 12 = .ok (.invokevirtual 28, 3) := by decide +kernel
theorem dX6_find_15 : decode cX6_find 15 = .ok (.ireturn, 1) := by decide +kernel
theorem dX6_findStowed_0 : decode cX6_findStowed 0 = .ok (.aload_n 0, 1) := by decide +kernel
theorem dX6_findStowed_1 : decode cX6_findStowed 1 = .ok (.aload_n 1, 1) := by decide +kernel
theorem dX6_findStowed_2 : decode cX6_findStowed 2 = .ok (.aload_n 1, 1) := by decide +kernel
theorem dX6_findStowed_3 : decode cX6_findStowed 3 = .ok (.getfield 32, 3) := by decide +kernel
theorem dX6_findStowed_6 : decode cX6_findStowed 6 = .ok (.iload_n 3, 1) := by decide +kernel
theorem dX6_findStowed_7 : decode cX6_findStowed 7 = .ok (.iload 4, 2) := by decide +kernel
theorem dX6_findStowed_9 : decode cX6_findStowed 9 = .ok (.invokevirtual 24, 3) := by decide +kernel
theorem dX6_findStowed_12 : decode cX6_findStowed 12 = .ok (.aload_n 0, 1) := by decide +kernel
theorem dX6_findStowed_13 : decode cX6_findStowed 13 = .ok (.aload_n 1, 1) := by decide +kernel
theorem dX6_findStowed_14 : decode cX6_findStowed 14 = .ok (.aload_n 1, 1) := by decide +kernel
theorem dX6_findStowed_15 : decode cX6_findStowed 15 = .ok (.getfield 32, 3) := by decide +kernel
theorem dX6_findStowed_18 : decode cX6_findStowed 18 = .ok (.iload_n 2, 1) := by decide +kernel
theorem dX6_findStowed_19 : decode cX6_findStowed 19 = .ok (.invokevirtual 28, 3) := by decide +kernel
theorem dX6_findStowed_22 : decode cX6_findStowed 22 = .ok (.ireturn, 1) := by decide +kernel
theorem dX6_pileUp_0 : decode cX6_pileUp 0 = .ok (.iconst 0, 1) := by decide +kernel
theorem dX6_pileUp_1 : decode cX6_pileUp 1 = .ok (.istore 5, 2) := by decide +kernel
theorem dX6_pileUp_3 : decode cX6_pileUp 3 = .ok (.iload 5, 2) := by decide +kernel
theorem dX6_pileUp_5 : decode cX6_pileUp 5 = .ok (.iconst 3, 1) := by decide +kernel
theorem dX6_pileUp_6 : decode cX6_pileUp 6 = .ok (.if_icmp .ge 87, 3) := by decide +kernel
theorem dX6_pileUp_9 : decode cX6_pileUp 9 = .ok (.aload_n 0, 1) := by decide +kernel
theorem dX6_pileUp_10 : decode cX6_pileUp 10 = .ok (.getfield 9, 3) := by decide +kernel
theorem dX6_pileUp_13 : decode cX6_pileUp 13 = .ok (.iload 5, 2) := by decide +kernel
theorem dX6_pileUp_15 : decode cX6_pileUp 15 = .ok (.iconst 0, 1) := by decide +kernel
theorem dX6_pileUp_16 : decode cX6_pileUp 16 = .ok (.iastore, 1) := by decide +kernel
theorem dX6_pileUp_17 : decode cX6_pileUp 17 = .ok (.iload 5, 2) := by decide +kernel
theorem dX6_pileUp_19 : decode cX6_pileUp 19 = .ok (.iload 4, 2) := by decide +kernel
theorem dX6_pileUp_21 : decode cX6_pileUp 21 = .ok (.if_icmp .ne 11, 3) := by decide +kernel
theorem dX6_pileUp_24 : decode cX6_pileUp 24 = .ok (.aload_n 0, 1) := by decide +kernel
theorem dX6_pileUp_25 : decode cX6_pileUp 25 = .ok (.aload_n 1, 1) := by decide +kernel
theorem dX6_pileUp_26 : decode cX6_pileUp 26 = .ok (.iload_n 3, 1) := by decide +kernel
theorem dX6_pileUp_27 : decode cX6_pileUp 27 = .ok (.iload 5, 2) := by decide +kernel
theorem dX6_pileUp_29 : decode cX6_pileUp 29 = .ok (.invokevirtual 38, 3) := by decide +kernel
theorem dX6_pileUp_32 : decode cX6_pileUp 32 = .ok (.aload_n 1, 1) := by decide +kernel
theorem dX6_pileUp_33 : decode cX6_pileUp 33 = .ok (.getfield 42, 3) := by decide +kernel
theorem dX6_pileUp_36 : decode cX6_pileUp 36 = .ok (.iconst 1, 1) := by decide +kernel
theorem dX6_pileUp_37 : decode cX6_pileUp 37 = .ok (.isub, 1) := by decide +kernel
theorem dX6_pileUp_38 : decode cX6_pileUp 38 = .ok (.istore 6, 2) := by decide +kernel
theorem dX6_pileUp_40 : decode cX6_pileUp 40 = .ok (.iload 6, 2) := by decide +kernel
theorem dX6_pileUp_42 : decode cX6_pileUp 42 = .ok (.ifCond .lt 45, 3) := by decide +kernel
theorem dX6_pileUp_45 : decode cX6_pileUp 45 = .ok (.iload 6, 2) := by decide +kernel
theorem dX6_pileUp_47 : decode cX6_pileUp 47 = .ok (.iload_n 3, 1) := by decide +kernel
theorem dX6_pileUp_48 : decode cX6_pileUp 48 = .ok (.if_icmp .eq 33, 3) := by decide +kernel
theorem dX6_pileUp_51 : decode cX6_pileUp 51 = .ok (.iload_n 2, 1) := by decide +kernel
theorem dX6_pileUp_52 : decode cX6_pileUp 52 = .ok (.iload 6, 2) := by decide +kernel
theorem dX6_pileUp_54 : decode cX6_pileUp 54 = .ok (.invokestatic 45, 3) := by decide +kernel
theorem dX6_pileUp_57 : decode cX6_pileUp 57 = .ok (.ifCond .eq 24, 3) := by decide +kernel
theorem dX6_pileUp_60 : decode cX6_pileUp 60 = .ok (.aload_n 1, 1) := by decide +kernel
theorem dX6_pileUp_61 : decode cX6_pileUp 61 = .ok (.iload 6, 2) := by decide +kernel
theorem dX6_pileUp_63 : decode cX6_pileUp 63 = .ok (.iconst 2, 1) := by decide +kernel
theorem dX6_pileUp_64 : decode cX6_pileUp 64 = .ok (.invokevirtual 49, 3) := by decide +kernel
theorem dX6_pileUp_67 : decode cX6_pileUp 67 = .ok (.iload 5, 2) := by decide +kernel
theorem dX6_pileUp_69 : decode cX6_pileUp 69 = .ok (.if_icmp .ne 12, 3) := by decide +kernel
theorem dX6_pileUp_72 : decode cX6_pileUp 72 = .ok (.aload_n 0, 1) := by decide +kernel
theorem dX6_pileUp_73 : decode cX6_pileUp 73 = .ok (.aload_n 1, 1) := by decide +kernel
theorem dX6_pileUp_74 : decode cX6_pileUp 74 = .ok (.iload 6, 2) := by decide +kernel
theorem dX6_pileUp_76 : decode cX6_pileUp 76 = .ok (.iload 5, 2) := by decide +kernel
theorem dX6_pileUp_78 : decode cX6_pileUp 78 = .ok (.invokevirtual 38, 3) := by decide +kernel
theorem dX6_pileUp_81 : decode cX6_pileUp 81 = .ok (.iinc 6 (-1), 3) := by decide +kernel
theorem dX6_pileUp_84 : decode cX6_pileUp 84 = .ok (.goto (-44), 3) := by decide +kernel
theorem dX6_pileUp_87 : decode cX6_pileUp 87 = .ok (.iinc 5 1, 3) := by decide +kernel
theorem dX6_pileUp_90 : decode cX6_pileUp 90 = .ok (.goto (-87), 3) := by decide +kernel
theorem dX6_pileUp_93 : decode cX6_pileUp 93 = .ok (.return_, 1) := by decide +kernel
theorem dX6_lay_0 : decode cX6_lay 0 = .ok (.iload_n 3, 1) := by decide +kernel
theorem dX6_lay_1 : decode cX6_lay 1 = .ok (.iconst 0, 1) := by decide +kernel
theorem dX6_lay_2 : decode cX6_lay 2 = .ok (.iconst 2, 1) := by decide +kernel
theorem dX6_lay_3 : decode cX6_lay 3 = .ok (.invokestatic 53, 3) := by decide +kernel
theorem dX6_lay_6 : decode cX6_lay 6 = .ok (.ifCond .eq 18, 3) := by decide +kernel
theorem dX6_lay_9 : decode cX6_lay 9 = .ok (.aload_n 0, 1) := by decide +kernel
theorem dX6_lay_10 : decode cX6_lay 10 = .ok (.getfield 9, 3) := by decide +kernel
theorem dX6_lay_13 : decode cX6_lay 13 = .ok (.iload_n 3, 1) := by decide +kernel
theorem dX6_lay_14 : decode cX6_lay 14 = .ok (.iaload, 1) := by decide +kernel
theorem dX6_lay_15 : decode cX6_lay 15 = .ok (.iconst 0, 1) := by decide +kernel
theorem dX6_lay_16 : decode cX6_lay 16 = .ok (.bipush 7, 2) := by decide +kernel
theorem dX6_lay_18 : decode cX6_lay 18 = .ok (.invokestatic 53, 3) := by decide +kernel
theorem dX6_lay_21 : decode cX6_lay 21 = .ok (.ifCond .ne 4, 3) := by decide +kernel
theorem dX6_lay_24 : decode cX6_lay 24 = .ok (.return_, 1) := by decide +kernel
theorem dX6_lay_25 : decode cX6_lay 25 = .ok (.iload_n 3, 1) := by decide +kernel
theorem dX6_lay_26 : decode cX6_lay 26 = .ok (.bipush 9, 2) := by decide +kernel
theorem dX6_lay_28 : decode cX6_lay 28 = .ok (.imul, 1) := by decide +kernel
theorem dX6_lay_29 : decode cX6_lay 29 = .ok (.aload_n 0, 1) := by decide +kernel
theorem dX6_lay_30 : decode cX6_lay 30 = .ok (.getfield 9, 3) := by decide +kernel
theorem dX6_lay_33 : decode cX6_lay 33 = .ok (.iload_n 3, 1) := by decide +kernel
theorem dX6_lay_34 : decode cX6_lay 34 = .ok (.iaload, 1) := by decide +kernel
theorem dX6_lay_35 : decode cX6_lay 35 = .ok (.iadd, 1) := by decide +kernel
theorem dX6_lay_36 : decode cX6_lay 36 = .ok (.istore 4, 2) := by decide +kernel
theorem dX6_lay_38 : decode cX6_lay 38 = .ok (.aload_n 0, 1) := by decide +kernel
theorem dX6_lay_39 : decode cX6_lay 39 = .ok (.getfield 15, 3) := by decide +kernel
theorem dX6_lay_42 : decode cX6_lay 42 = .ok (.iload 4, 2) := by decide +kernel
theorem dX6_lay_44 : decode cX6_lay 44 = .ok (.iconst 1, 1) := by decide +kernel
theorem dX6_lay_45 : decode cX6_lay 45 = .ok (.iadd, 1) := by decide +kernel
theorem dX6_lay_46 : decode cX6_lay 46 = .ok (.aload_n 0, 1) := by decide +kernel
theorem dX6_lay_47 : decode cX6_lay 47 = .ok (.getfield 15, 3) := by decide +kernel
theorem dX6_lay_50 : decode cX6_lay 50 = .ok (.iload 4, 2) := by decide +kernel
theorem dX6_lay_52 : decode cX6_lay 52 = .ok (.iaload, 1) := by decide +kernel
theorem dX6_lay_53 : decode cX6_lay 53 = .ok (.iconst 1, 1) := by decide +kernel
theorem dX6_lay_54 : decode cX6_lay 54 = .ok (.iload_n 2, 1) := by decide +kernel
theorem dX6_lay_55 : decode cX6_lay 55 = .ok (.ishl, 1) := by decide +kernel
theorem dX6_lay_56 : decode cX6_lay 56 = .ok (.ior, 1) := by decide +kernel
theorem dX6_lay_57 : decode cX6_lay 57 = .ok (.iastore, 1) := by decide +kernel
theorem dX6_lay_58 : decode cX6_lay 58 = .ok (.aload_n 0, 1) := by decide +kernel
theorem dX6_lay_59 : decode cX6_lay 59 = .ok (.getfield 18, 3) := by decide +kernel
theorem dX6_lay_62 : decode cX6_lay 62 = .ok (.iload 4, 2) := by decide +kernel
theorem dX6_lay_64 : decode cX6_lay 64 = .ok (.iconst 1, 1) := by decide +kernel
theorem dX6_lay_65 : decode cX6_lay 65 = .ok (.iadd, 1) := by decide +kernel
theorem dX6_lay_66 : decode cX6_lay 66 = .ok (.aload_n 0, 1) := by decide +kernel
theorem dX6_lay_67 : decode cX6_lay 67 = .ok (.getfield 18, 3) := by decide +kernel
theorem dX6_lay_70 : decode cX6_lay 70 = .ok (.iload 4, 2) := by decide +kernel
theorem dX6_lay_72 : decode cX6_lay 72 = .ok (.iaload, 1) := by decide +kernel
theorem dX6_lay_73 : decode cX6_lay 73 = .ok (.aload_n 1, 1) := by decide +kernel
theorem dX6_lay_74 : decode cX6_lay 74 = .ok (.iload_n 2, 1) := by decide +kernel
theorem dX6_lay_75 : decode cX6_lay 75 = .ok (.iconst 3, 1) := by decide +kernel
theorem dX6_lay_76 : decode cX6_lay 76 = .ok (.invokevirtual 49, 3) := by decide +kernel
theorem dX6_lay_79 : decode cX6_lay 79 = .ok (.iadd, 1) := by decide +kernel
theorem dX6_lay_80 : decode cX6_lay 80 = .ok (.iastore, 1) := by decide +kernel
theorem dX6_lay_81 : decode cX6_lay 81 = .ok (.aload_n 0, 1) := by decide +kernel
theorem dX6_lay_82 : decode cX6_lay 82 = .ok (.getfield 21, 3) := by decide +kernel
theorem dX6_lay_85 : decode cX6_lay 85 = .ok (.iload 4, 2) := by decide +kernel
theorem dX6_lay_87 : decode cX6_lay 87 = .ok (.iconst 1, 1) := by decide +kernel
theorem dX6_lay_88 : decode cX6_lay 88 = .ok (.iadd, 1) := by decide +kernel
theorem dX6_lay_89 : decode cX6_lay 89 = .ok (.aload_n 0, 1) := by decide +kernel
theorem dX6_lay_90 : decode cX6_lay 90 = .ok (.getfield 21, 3) := by decide +kernel
theorem dX6_lay_93 : decode cX6_lay 93 = .ok (.iload 4, 2) := by decide +kernel
theorem dX6_lay_95 : decode cX6_lay 95 = .ok (.iaload, 1) := by decide +kernel
theorem dX6_lay_96 : decode cX6_lay 96 = .ok (.aload_n 1, 1) := by decide +kernel
theorem dX6_lay_97 : decode cX6_lay 97 = .ok (.iload_n 2, 1) := by decide +kernel
theorem dX6_lay_98 : decode cX6_lay 98 = .ok (.iconst 4, 1) := by decide +kernel
theorem dX6_lay_99 : decode cX6_lay 99 = .ok (.invokevirtual 49, 3) := by decide +kernel
theorem dX6_lay_102 : decode cX6_lay 102 = .ok (.iadd, 1) := by decide +kernel
theorem dX6_lay_103 : decode cX6_lay 103 = .ok (.iastore, 1) := by decide +kernel
theorem dX6_lay_104 : decode cX6_lay 104 = .ok (.aload_n 0, 1) := by decide +kernel
theorem dX6_lay_105 : decode cX6_lay 105 = .ok (.getfield 9, 3) := by decide +kernel
theorem dX6_lay_108 : decode cX6_lay 108 = .ok (.iload_n 3, 1) := by decide +kernel
theorem dX6_lay_109 : decode cX6_lay 109 = .ok (.dup2, 1) := by decide +kernel
theorem dX6_lay_110 : decode cX6_lay 110 = .ok (.iaload, 1) := by decide +kernel
theorem dX6_lay_111 : decode cX6_lay 111 = .ok (.iconst 1, 1) := by decide +kernel
theorem dX6_lay_112 : decode cX6_lay 112 = .ok (.iadd, 1) := by decide +kernel
theorem dX6_lay_113 : decode cX6_lay 113 = .ok (.iastore, 1) := by decide +kernel
theorem dX6_lay_114 : decode cX6_lay 114 = .ok (.return_, 1) := by decide +kernel
theorem dX6_choose_0 : decode cX6_choose 0 = .ok (.aload_n 0, 1) := by decide +kernel
theorem dX6_choose_1 : decode cX6_choose 1 = .ok (.aload_n 1, 1) := by decide +kernel
theorem dX6_choose_2 : decode cX6_choose 2 = .ok (.iload_n 2, 1) := by decide +kernel
theorem dX6_choose_3 : decode cX6_choose 3 = .ok (.iconst 3, 1) := by decide +kernel
theorem dX6_choose_4 : decode cX6_choose 4 = .ok (.invokevirtual 57, 3) := by decide +kernel
theorem dX6_choose_7 : decode cX6_choose 7 = .ok (.aload_n 1, 1) := by decide +kernel
theorem dX6_choose_8 : decode cX6_choose 8 = .ok (.getfield 60, 3) := by decide +kernel
theorem dX6_choose_11 : decode cX6_choose 11 = .ok (.iload_n 3, 1) := by decide +kernel
theorem dX6_choose_12 : decode cX6_choose 12 = .ok (.isub, 1) := by decide +kernel
theorem dX6_choose_13 : decode cX6_choose 13 = .ok (.isub, 1) := by decide +kernel
theorem dX6_choose_14 : decode cX6_choose 14 = .ok (.putfield 63, 3) := by decide +kernel
theorem dX6_choose_17 : decode cX6_choose 17 = .ok (.aload_n 0, 1) := by decide +kernel
theorem dX6_choose_18 : decode cX6_choose 18 = .ok (.iconst (-1), 1) := by decide +kernel
theorem dX6_choose_19 : decode cX6_choose 19 = .ok (.putfield 66, 3) := by decide +kernel
theorem dX6_choose_22 : decode cX6_choose 22 = .ok (.iconst 0, 1) := by decide +kernel
theorem dX6_choose_23 : decode cX6_choose 23 = .ok (.istore 4, 2) := by decide +kernel
theorem dX6_choose_25 : decode cX6_choose 25 = .ok (.iload 4, 2) := by decide +kernel
theorem dX6_choose_27 : decode cX6_choose 27 = .ok (.aload_n 0, 1) := by decide +kernel
theorem dX6_choose_28 : decode cX6_choose 28 = .ok (.getfield 9, 3) := by decide +kernel
theorem dX6_choose_31 : decode cX6_choose 31 = .ok (.iconst 0, 1) := by decide +kernel
theorem dX6_choose_32 : decode cX6_choose 32 = .ok (.iaload, 1) := by decide +kernel
theorem dX6_choose_33 : decode cX6_choose 33 = .ok (.if_icmp .gt 59, 3) := by decide +kernel
theorem dX6_choose_36 : decode cX6_choose 36 = .ok (.iconst 0, 1) := by decide +kernel
theorem dX6_choose_37 : decode cX6_choose 37 = .ok (.istore 5, 2) := by decide +kernel
theorem dX6_choose_39 : decode cX6_choose 39 = .ok (.iload 5, 2) := by decide +kernel
theorem dX6_choose_41 : decode cX6_choose 41 = .ok (.aload_n 0, 1) := by decide +kernel
theorem dX6_choose_42 : decode cX6_choose 42 = .ok (.getfield 9, 3) := by decide +kernel
theorem dX6_choose_45 : decode cX6_choose 45 = .ok (.iconst 1, 1) := by decide +kernel
theorem dX6_choose_46 : decode cX6_choose 46 = .ok (.iaload, 1) := by decide +kernel
theorem dX6_choose_47 : decode cX6_choose 47 = .ok (.if_icmp .gt 39, 3) := by decide +kernel
theorem dX6_choose_50 : decode cX6_choose 50 = .ok (.iconst 0, 1) := by decide +kernel
theorem dX6_choose_51 : decode cX6_choose 51 = .ok (.istore 6, 2) := by decide +kernel
theorem dX6_choose_53 : decode cX6_choose 53 = .ok (.iload 6, 2) := by decide +kernel
theorem dX6_choose_55 : decode cX6_choose 55 = .ok (.aload_n 0, 1) := by decide +kernel
theorem dX6_choose_56 : decode cX6_choose 56 = .ok (.getfield 9, 3) := by decide +kernel
theorem dX6_choose_59 : decode cX6_choose 59 = .ok (.iconst 2, 1) := by decide +kernel
theorem dX6_choose_60 : decode cX6_choose 60 = .ok (.iaload, 1) := by decide +kernel
theorem dX6_choose_61 : decode cX6_choose 61 = .ok (.if_icmp .gt 19, 3) := by decide +kernel
theorem dX6_choose_64 : decode cX6_choose 64 = .ok (.aload_n 0, 1) := by decide +kernel
theorem dX6_choose_65 : decode cX6_choose 65 = .ok (.iload 4, 2) := by decide +kernel
theorem dX6_choose_67 : decode cX6_choose 67 = .ok (.iload 5, 2) := by decide +kernel
theorem dX6_choose_69 : decode cX6_choose 69 = .ok (.iload 6, 2) := by decide +kernel
theorem dX6_choose_71 : decode cX6_choose 71 = .ok (.invokevirtual 69, 3) := by decide +kernel
theorem dX6_choose_74 : decode cX6_choose 74 = .ok (.iinc 6 1, 3) := by decide +kernel
theorem dX6_choose_77 : decode cX6_choose 77 = .ok (.goto (-24), 3) := by decide +kernel
theorem dX6_choose_80 : decode cX6_choose 80 = .ok (.iinc 5 1, 3) := by decide +kernel
theorem dX6_choose_83 : decode cX6_choose 83 = .ok (.goto (-44), 3) := by decide +kernel
theorem dX6_choose_86 : decode cX6_choose 86 = .ok (.iinc 4 1, 3) := by decide +kernel
theorem dX6_choose_89 : decode cX6_choose 89 = .ok (.goto (-64), 3) := by decide +kernel
theorem dX6_choose_92 : decode cX6_choose 92 = .ok (.aload_n 0, 1) := by decide +kernel
theorem dX6_choose_93 : decode cX6_choose 93 = .ok (.getfield 66, 3) := by decide +kernel
theorem dX6_choose_96 : decode cX6_choose 96 = .ok (.ireturn, 1) := by decide +kernel
theorem dX6_consider_0 : decode cX6_consider 0 = .ok (.iload_n 1, 1) := by decide +kernel
theorem dX6_consider_1 : decode cX6_consider 1 = .ok (.istore 4, 2) := by decide +kernel
theorem dX6_consider_3 : decode cX6_consider 3 = .ok (.bipush 9, 2) := by decide +kernel
theorem dX6_consider_5 : decode cX6_consider 5 = .ok (.iload_n 2, 1) := by decide +kernel
theorem dX6_consider_6 : decode cX6_consider 6 = .ok (.iadd, 1) := by decide +kernel
theorem dX6_consider_7 : decode cX6_consider 7 = .ok (.istore 5, 2) := by decide +kernel
theorem dX6_consider_9 : decode cX6_consider 9 = .ok (.bipush 18, 2) := by decide +kernel
theorem dX6_consider_11 : decode cX6_consider 11 = .ok (.iload_n 3, 1) := by decide +kernel
theorem dX6_consider_12 : decode cX6_consider 12 = .ok (.iadd, 1) := by decide +kernel
theorem dX6_consider_13 : decode cX6_consider 13 = .ok (.istore 6, 2) := by decide +kernel
theorem dX6_consider_15 : decode cX6_consider 15 = .ok (.iload 4, 2) := by decide +kernel
theorem dX6_consider_17 : decode cX6_consider 17 = .ok (.iconst 0, 1) := by decide +kernel
theorem dX6_consider_18 : decode cX6_consider 18 = .ok (.bipush 8, 2) := by decide +kernel
theorem dX6_consider_20 : decode cX6_consider 20 = .ok (.invokestatic 53, 3) := by decide +kernel
theorem dX6_consider_23 : decode cX6_consider 23 = .ok (.ifCond .eq 27, 3) := by decide +kernel
theorem dX6_consider_26 : decode cX6_consider 26 = .ok (.iload 5, 2) := by decide +kernel
theorem dX6_consider_28 : decode cX6_consider 28 = .ok (.bipush 9, 2) := by decide +kernel
theorem dX6_consider_30 : decode cX6_consider 30 = .ok (.bipush 17, 2) := by decide +kernel
theorem dX6_consider_32 : decode cX6_consider 32 = .ok (.invokestatic 53, 3) := by decide +kernel
theorem dX6_consider_35 : decode cX6_consider 35 = .ok (.ifCond .eq 15, 3) := by decide +kernel
theorem dX6_consider_38 : decode cX6_consider 38 = .ok (.iload 6, 2) := by decide +kernel
theorem dX6_consider_40 : decode cX6_consider 40 = .ok (.bipush 18, 2) := by decide +kernel
theorem dX6_consider_42 : decode cX6_consider 42 = .ok (.bipush 26, 2) := by decide +kernel
theorem dX6_consider_44 : decode cX6_consider 44 = .ok (.invokestatic 53, 3) := by decide +kernel
theorem dX6_consider_47 : decode cX6_consider 47 = .ok (.ifCond .ne 4, 3) := by decide +kernel
theorem dX6_consider_50 : decode cX6_consider 50 = .ok (.return_, 1) := by decide +kernel
theorem dX6_consider_51 : decode cX6_consider 51 = .ok (.aload_n 0, 1) := by decide +kernel
theorem dX6_consider_52 : decode cX6_consider 52 = .ok (.getfield 18, 3) := by decide +kernel
theorem dX6_consider_55 : decode cX6_consider 55 = .ok (.iload 4, 2) := by decide +kernel
theorem dX6_consider_57 : decode cX6_consider 57 = .ok (.iaload, 1) := by decide +kernel
theorem dX6_consider_58 : decode cX6_consider 58 = .ok (.aload_n 0, 1) := by decide +kernel
theorem dX6_consider_59 : decode cX6_consider 59 = .ok (.getfield 18, 3) := by decide +kernel
theorem dX6_consider_62 : decode cX6_consider 62 = .ok (.iload 5, 2) := by decide +kernel
theorem dX6_consider_64 : decode cX6_consider 64 = .ok (.iaload, 1) := by decide +kernel
theorem dX6_consider_65 : decode cX6_consider 65 = .ok (.iadd, 1) := by decide +kernel
theorem dX6_consider_66 : decode cX6_consider 66 = .ok (.aload_n 0, 1) := by decide +kernel
theorem dX6_consider_67 : decode cX6_consider 67 = .ok (.getfield 18, 3) := by decide +kernel
theorem dX6_consider_70 : decode cX6_consider 70 = .ok (.iload 6, 2) := by decide +kernel
theorem dX6_consider_72 : decode cX6_consider 72 = .ok (.iaload, 1) := by decide +kernel
theorem dX6_consider_73 : decode cX6_consider 73 = .ok (.iadd, 1) := by decide +kernel
theorem dX6_consider_74 : decode cX6_consider 74 = .ok (.aload_n 0, 1) := by decide +kernel
theorem dX6_consider_75 : decode cX6_consider 75 = .ok (.getfield 63, 3) := by decide +kernel
theorem dX6_consider_78 : decode cX6_consider 78 = .ok (.if_icmp .ge 4, 3) := by decide +kernel
theorem dX6_consider_81 : decode cX6_consider 81 = .ok (.return_, 1) := by decide +kernel
theorem dX6_consider_82 : decode cX6_consider 82 = .ok (.aload_n 0, 1) := by decide +kernel
theorem dX6_consider_83 : decode cX6_consider 83 = .ok (.aload_n 0, 1) := by decide +kernel
theorem dX6_consider_84 : decode cX6_consider 84 = .ok (.getfield 15, 3) := by decide +kernel
theorem dX6_consider_87 : decode cX6_consider 87 = .ok (.iload 4, 2) := by decide +kernel
theorem dX6_consider_89 : decode cX6_consider 89 = .ok (.iaload, 1) := by decide +kernel
theorem dX6_consider_90 : decode cX6_consider 90 = .ok (.aload_n 0, 1) := by decide +kernel
theorem dX6_consider_91 : decode cX6_consider 91 = .ok (.getfield 15, 3) := by decide +kernel
theorem dX6_consider_94 : decode cX6_consider 94 = .ok (.iload 5, 2) := by decide +kernel
theorem dX6_consider_96 : decode cX6_consider 96 = .ok (.iaload, 1) := by decide +kernel
theorem dX6_consider_97 : decode cX6_consider 97 = .ok (.ior, 1) := by decide +kernel
theorem dX6_consider_98 : decode cX6_consider 98 = .ok (.aload_n 0, 1) := by decide +kernel
theorem dX6_consider_99 : decode cX6_consider 99 = .ok (.getfield 15, 3) := by decide +kernel
theorem dX6_consider_102 : decode cX6_consider 102 = .ok (.iload 6, 2) := by decide +kernel
theorem dX6_consider_104 : decode cX6_consider 104 = .ok (.iaload, 1) := by decide +kernel
theorem dX6_consider_105 : decode cX6_consider 105 = .ok (.ior, 1) := by decide +kernel
theorem dX6_consider_106 : decode cX6_consider 106 = .ok (.iload_n 1, 1) := by decide +kernel
theorem dX6_consider_107 : decode cX6_consider 107 = .ok (.iload_n 2, 1) := by decide +kernel
theorem dX6_consider_108 : decode cX6_consider 108 = .ok (.iadd, 1) := by decide +kernel
theorem dX6_consider_109 : decode cX6_consider 109 = .ok (.iload_n 3, 1) := by decide +kernel
theorem dX6_consider_110 : decode cX6_consider 110 = .ok (.iadd, 1) := by decide +kernel
theorem dX6_consider_111 : decode cX6_consider 111 = .ok (.aload_n 0, 1) := by decide +kernel
theorem dX6_consider_112 : decode cX6_consider 112 = .ok (.getfield 21, 3) := by decide +kernel
theorem dX6_consider_115 : decode cX6_consider 115 = .ok (.iload 4, 2) := by decide +kernel
theorem dX6_consider_117 : decode cX6_consider 117 = .ok (.iaload, 1) := by decide +kernel
theorem dX6_consider_118 : decode cX6_consider 118 = .ok (.aload_n 0, 1) := by decide +kernel
theorem dX6_consider_119 : decode cX6_consider 119 = .ok (.getfield 21, 3) := by decide +kernel
theorem dX6_consider_122 : decode cX6_consider 122 = .ok (.iload 5, 2) := by decide +kernel
theorem dX6_consider_124 : decode cX6_consider 124 = .ok (.iaload, 1) := by decide +kernel
theorem dX6_consider_125 : decode cX6_consider 125 = .ok (.iadd, 1) := by decide +kernel
theorem dX6_consider_126 : decode cX6_consider 126 = .ok (.aload_n 0, 1) := by decide +kernel
theorem dX6_consider_127 : decode cX6_consider 127 = .ok (.getfield 21, 3) := by decide +kernel
theorem dX6_consider_130 : decode cX6_consider 130 = .ok (.iload 6, 2) := by decide +kernel
theorem dX6_consider_132 : decode cX6_consider 132 = .ok (.iaload, 1) := by decide +kernel
theorem dX6_consider_133 : decode cX6_consider 133 = .ok (.iadd, 1) := by decide +kernel
theorem dX6_consider_134 : decode cX6_consider 134 = .ok (.invokevirtual 73, 3) := by decide +kernel
theorem dX6_consider_137 : decode cX6_consider 137 = .ok (.return_, 1) := by decide +kernel
theorem dX6_keepIfBetter_0 : decode cX6_keepIfBetter 0 = .ok (.aload_n 0, 1) := by decide +kernel
theorem dX6_keepIfBetter_1 : decode cX6_keepIfBetter 1 = .ok (.getfield 66, 3) := by decide +kernel
theorem dX6_keepIfBetter_4 : decode cX6_keepIfBetter 4 = .ok (.iconst (-1), 1) := by decide +kernel
theorem dX6_keepIfBetter_5 : decode cX6_keepIfBetter 5 = .ok (.if_icmp .eq 14, 3) := by decide +kernel
theorem dX6_keepIfBetter_8 : decode cX6_keepIfBetter 8 = .ok (.aload_n 0, 1) := by decide +kernel
theorem dX6_keepIfBetter_9 : decode cX6_keepIfBetter 9 = .ok (.iload_n 1, 1) := by decide +kernel
theorem dX6_keepIfBetter_10 : decode cX6_keepIfBetter 10 = .ok (.iload_n 2, 1) := by decide +kernel
theorem dX6_keepIfBetter_11 : decode cX6_keepIfBetter 11 = .ok (.iload_n 3, 1) := by decide +kernel
theorem dX6_keepIfBetter_12 : decode cX6_keepIfBetter 12 = .ok (.invokevirtual 76, 3) := by decide +kernel
theorem dX6_keepIfBetter_15 : decode cX6_keepIfBetter 15 = .ok (.ifCond .ne 4, 3) := by decide +kernel
theorem dX6_keepIfBetter_18 : decode cX6_keepIfBetter 18 = .ok (.return_, 1) := by decide +kernel
theorem dX6_keepIfBetter_19 : decode cX6_keepIfBetter 19 = .ok (.aload_n 0, 1) := by decide +kernel
theorem dX6_keepIfBetter_20 : decode cX6_keepIfBetter 20 = .ok (.iload_n 1, 1) := by decide +kernel
theorem dX6_keepIfBetter_21 : decode cX6_keepIfBetter 21 = .ok (.putfield 66, 3) := by decide +kernel
theorem dX6_keepIfBetter_24 : decode cX6_keepIfBetter 24 = .ok (.aload_n 0, 1) := by decide +kernel
theorem dX6_keepIfBetter_25 : decode cX6_keepIfBetter 25 = .ok (.iload_n 2, 1) := by decide +kernel
theorem dX6_keepIfBetter_26 : decode cX6_keepIfBetter 26 = .ok (.putfield 79, 3) := by decide +kernel
theorem dX6_keepIfBetter_29 : decode cX6_keepIfBetter 29 = .ok (.aload_n 0, 1) := by decide +kernel
theorem dX6_keepIfBetter_30 : decode cX6_keepIfBetter 30 = .ok (.iload_n 3, 1) := by decide +kernel
theorem dX6_keepIfBetter_31 : decode cX6_keepIfBetter 31 = .ok (.putfield 82, 3) := by decide +kernel
theorem dX6_keepIfBetter_34 : decode cX6_keepIfBetter 34 = .ok (.return_, 1) := by decide +kernel
theorem dX6_isBetter_0 : decode cX6_isBetter 0 = .ok (.iload_n 3, 1) := by decide +kernel
theorem dX6_isBetter_1 : decode cX6_isBetter 1 = .ok (.aload_n 0, 1) := by decide +kernel
theorem dX6_isBetter_2 : decode cX6_isBetter 2 = .ok (.getfield 82, 3) := by decide +kernel
theorem dX6_isBetter_5 : decode cX6_isBetter 5 = .ok (.if_icmp .eq 17, 3) := by decide +kernel
theorem dX6_isBetter_8 : decode cX6_isBetter 8 = .ok (.iload_n 3, 1) := by decide +kernel
theorem dX6_isBetter_9 : decode cX6_isBetter 9 = .ok (.aload_n 0, 1) := by decide +kernel
theorem dX6_isBetter_10 : decode cX6_isBetter 10 = .ok (.getfield 82, 3) := by decide +kernel
theorem dX6_isBetter_13 : decode cX6_isBetter 13 = .ok (.if_icmp .ge 7, 3) := by decide +kernel
theorem dX6_isBetter_16 : decode cX6_isBetter 16 = .ok (.iconst 1, 1) := by decide +kernel
theorem dX6_isBetter_17 : decode cX6_isBetter 17 = .ok (.goto 4, 3) := by decide +kernel
theorem dX6_isBetter_20 : decode cX6_isBetter 20 = .ok (.iconst 0, 1) := by decide +kernel
theorem dX6_isBetter_21 : decode cX6_isBetter 21 = .ok (.ireturn, 1) := by decide +kernel
theorem dX6_isBetter_22 : decode cX6_isBetter 22 = .ok (.iload_n 2, 1) := by decide +kernel
theorem dX6_isBetter_23 : decode cX6_isBetter 23 = .ok (.aload_n 0, 1) := by decide +kernel
theorem dX6_isBetter_24 : decode cX6_isBetter 24 = .ok (.getfield 79, 3) := by decide +kernel
theorem dX6_isBetter_27 : decode cX6_isBetter 27 = .ok (.if_icmp .eq 19, 3) := by decide +kernel
theorem dX6_isBetter_30 : decode cX6_isBetter 30 = .ok (.iload_n 2, 1) := by decide +kernel
theorem dX6_isBetter_31 : decode cX6_isBetter 31 = .ok (.aload_n 0, 1) := by decide +kernel
theorem dX6_isBetter_32 : decode cX6_isBetter 32 = .ok (.getfield 79, 3) := by decide +kernel
theorem dX6_isBetter_35 : decode cX6_isBetter 35 = .ok (.if_icmp .ge 7, 3) := by decide +kernel
theorem dX6_isBetter_38 : decode cX6_isBetter 38 = .ok (.iconst 1, 1) := by decide +kernel
theorem dX6_isBetter_39 : decode cX6_isBetter 39 = .ok (.goto 20, 3) := by decide +kernel
theorem dX6_isBetter_42 : decode cX6_isBetter 42 = .ok (.iconst 0, 1) := by decide +kernel
theorem dX6_isBetter_43 : decode cX6_isBetter 43 = .ok (.goto 16, 3) := by decide +kernel
theorem dX6_isBetter_46 : decode cX6_isBetter 46 = .ok (.iload_n 1, 1) := by decide +kernel
theorem dX6_isBetter_47 : decode cX6_isBetter 47 = .ok (.aload_n 0, 1) := by decide +kernel
theorem dX6_isBetter_48 : decode cX6_isBetter 48 = .ok (.getfield 66, 3) := by decide +kernel
theorem dX6_isBetter_51 : decode cX6_isBetter 51 = .ok (.if_icmp .ge 7, 3) := by decide +kernel
theorem dX6_isBetter_54 : decode cX6_isBetter 54 = .ok (.iconst 1, 1) := by decide +kernel
theorem dX6_isBetter_55 : decode cX6_isBetter 55 = .ok (.goto 4, 3) := by decide +kernel
theorem dX6_isBetter_58 : decode cX6_isBetter 58 = .ok (.iconst 0, 1) := by decide +kernel
theorem dX6_isBetter_59 : decode cX6_isBetter 59 = .ok (.ireturn, 1) := by decide +kernel
theorem dX7_init_0 : decode cX7_init 0 = .ok (.aload_n 0, 1) := by decide +kernel
theorem dX7_init_1 : decode cX7_init 1 = .ok (.invokespecial 1, 3) := by decide +kernel
theorem dX7_init_4 : decode cX7_init 4 = .ok (.return_, 1) := by decide +kernel
theorem dX7_madeGood_0 : decode cX7_madeGood 0 = .ok (.aload_n 0, 1) := by decide +kernel
theorem dX7_madeGood_1 : decode cX7_madeGood 1 = .ok (.iload_n 1, 1) := by decide +kernel
theorem dX7_madeGood_2 : decode cX7_madeGood 2 = .ok (.invokespecial 7, 3) := by decide +kernel
theorem dX7_madeGood_5 : decode cX7_madeGood 5 = .ok (.iconst 5, 1) := by decide +kernel
theorem dX7_madeGood_6 : decode cX7_madeGood 6 = .ok (.iadd, 1) := by decide +kernel
theorem dX7_madeGood_7 : decode cX7_madeGood 7 = .ok (.ireturn, 1) := by decide +kernel
theorem dX7_bears_0 : decode cX7_bears 0 = .ok (.iconst 0, 1) := by decide +kernel
theorem dX7_bears_1 : decode cX7_bears 1 = .ok (.ireturn, 1) := by decide +kernel
theorem dX8_init_0 : decode cX8_init 0 = .ok (.aload_n 0, 1) := by decide +kernel
theorem dX8_init_1 : decode cX8_init 1 = .ok (.invokespecial 1, 3) := by decide +kernel
theorem dX8_init_4 : decode cX8_init 4 = .ok (.return_, 1) := by decide +kernel
theorem dX8_madeGood_0 : decode cX8_madeGood 0 = .ok (.iload_n 1, 1) := by decide +kernel
theorem dX8_madeGood_1 : decode cX8_madeGood 1 = .ok (.ireturn, 1) := by decide +kernel
theorem dX8_bears_0 : decode cX8_bears 0 = .ok (.iload_n 1, 1) := by decide +kernel
theorem dX8_bears_1 : decode cX8_bears 1 = .ok (.ireturn, 1) := by decide +kernel
theorem dX9_init_0 : decode cX9_init 0 = .ok (.aload_n 0, 1) := by decide +kernel
theorem dX9_init_1 : decode cX9_init 1 = .ok (.invokespecial 1, 3) := by decide +kernel
theorem dX9_init_4 : decode cX9_init 4 = .ok (.return_, 1) := by decide +kernel
theorem dX9_madeGood_0 : decode cX9_madeGood 0 = .ok (.aload_n 0, 1) := by decide +kernel
theorem dX9_madeGood_1 : decode cX9_madeGood 1 = .ok (.iload_n 1, 1) := by decide +kernel
theorem dX9_madeGood_2 : decode cX9_madeGood 2 = .ok (.invokespecial 7, 3) := by decide +kernel
theorem dX9_madeGood_5 : decode cX9_madeGood 5 = .ok (.iconst 3, 1) := by decide +kernel
theorem dX9_madeGood_6 : decode cX9_madeGood 6 = .ok (.imul, 1) := by decide +kernel
theorem dX9_madeGood_7 : decode cX9_madeGood 7 = .ok (.iconst 4, 1) := by decide +kernel
theorem dX9_madeGood_8 : decode cX9_madeGood 8 = .ok (.idiv, 1) := by decide +kernel
theorem dX9_madeGood_9 : decode cX9_madeGood 9 = .ok (.ireturn, 1) := by decide +kernel
theorem dX10_init_0 : decode cX10_init 0 = .ok (.aload_n 0, 1) := by decide +kernel
theorem dX10_init_1 : decode cX10_init 1 = .ok (.invokespecial 3, 3) := by decide +kernel
theorem dX10_init_4 : decode cX10_init 4 = .ok (.aload_n 0, 1) := by decide +kernel
theorem dX10_init_5 : decode cX10_init 5 = .ok (.sipush 150, 3) := by decide +kernel
theorem dX10_init_8 : decode cX10_init 8 = .ok (.newarray .byte, 2) := by decide +kernel
theorem dX10_init_10 : decode cX10_init 10 = .ok (.putfield 9, 3) := by decide +kernel
theorem dX10_init_13 : decode cX10_init 13 = .ok (.aload_n 0, 1) := by decide +kernel
theorem dX10_init_14 : decode cX10_init 14 = .ok (.bipush 6, 2) := by decide +kernel
theorem dX10_init_16 : decode cX10_init 16 = .ok (.newarray .int, 2) := by decide +kernel
theorem dX10_init_18 : decode cX10_init 18 = .ok (.putfield 15, 3) := by decide +kernel
theorem dX10_init_21 : decode cX10_init 21 = .ok (.return_, 1) := by decide +kernel
theorem dX10_append_0 : decode cX10_append 0 = .ok (.aload_n 0, 1) := by decide +kernel
theorem dX10_append_1 : decode cX10_append 1 = .ok (.getfield 19, 3) := by decide +kernel
theorem dX10_append_4 : decode cX10_append 4 = .ok (.iconst 0, 1) := by decide +kernel
theorem dX10_append_5 : decode cX10_append 5 = .ok (.sipush 149, 3) := by decide +kernel
theorem dX10_append_8 : decode cX10_append 8 = .ok (.invokestatic 23, 3) := by decide +kernel
theorem dX10_append_11 : decode cX10_append 11 = .ok (.ifCond .ne 5, 3) := by decide +kernel
theorem dX10_append_14 : decode cX10_append 14 = .ok (.iconst 0, 1) := by decide +kernel
theorem dX10_append_15 : decode cX10_append 15 = .ok (.ireturn, 1) := by decide +kernel
theorem dX10_append_16 : decode cX10_append 16 = .ok (.aload_n 0, 1) := by decide +kernel
theorem dX10_append_17 : decode cX10_append 17 = .ok (.getfield 9, 3) := by decide +kernel
theorem dX10_append_20 : decode cX10_append 20 = .ok (.aload_n 0, 1) := by decide +kernel
theorem dX10_append_21 : decode cX10_append 21 = .ok (.getfield 19, 3) := by decide +kernel
theorem dX10_append_24 : decode cX10_append 24 = .ok (.iload_n 1, 1) := by decide +kernel
theorem dX10_append_25 : decode cX10_append 25 = .ok (.i2b, 1) := by decide +kernel
theorem dX10_append_26 : decode cX10_append 26 = .ok (.bastore, 1) := by decide +kernel
theorem dX10_append_27 : decode cX10_append 27 = .ok (.aload_n 0, 1) := by decide +kernel
theorem dX10_append_28 : decode cX10_append 28 = .ok (.dup, 1) := by decide +kernel
theorem dX10_append_29 : decode cX10_append 29 = .ok (.getfield 19, 3) := by decide +kernel
theorem dX10_append_32 : decode cX10_append 32 = .ok (.iconst 1, 1) := by decide +kernel
theorem dX10_append_33 : decode cX10_append 33 = .ok (.iadd, 1) := by decide +kernel
theorem dX10_append_34 : decode cX10_append 34 = .ok (.putfield 19, 3) := by decide +kernel
theorem dX10_append_37 : decode cX10_append 37 = .ok (.iconst 1, 1) := by decide +kernel
theorem dX10_append_38 : decode cX10_append 38 = .ok (.ireturn, 1) := by decide +kernel
theorem dX10_readInto_0 : decode cX10_readInto 0 = .ok (.aload_n 0, 1) := by decide +kernel
theorem dX10_readInto_1 : decode cX10_readInto 1 = .ok (.iconst 0, 1) := by decide +kernel
theorem dX10_readInto_2 : decode cX10_readInto 2 = .ok (.putfield 27, 3) := by decide +kernel
theorem dX10_readInto_5 : decode cX10_readInto 5 = .ok (.aload_n 0, 1) := by decide +kernel
theorem dX10_readInto_6 : decode cX10_readInto 6 = .ok (.iconst 0, 1) := by decide +kernel
theorem dX10_readInto_7 : decode cX10_readInto 7 = .ok (.putfield 30, 3) := by decide +kernel
theorem dX10_readInto_10 : decode cX10_readInto 10 = .ok (.aload_n 0, 1) := by decide +kernel
theorem dX10_readInto_11 : decode cX10_readInto 11 = .ok (.iconst (-1), 1) := by decide +kernel
theorem dX10_readInto_12 : decode cX10_readInto 12 = .ok (.putfield 33, 3) := by decide +kernel
theorem dX10_readInto_15 : decode cX10_readInto 15 = .ok (.aload_n 0, 1) := by decide +kernel
theorem dX10_readInto_16 : decode cX10_readInto 16 = .ok (.invokevirtual 36, 3) := by decide +kernel
theorem dX10_readInto_19 : decode cX10_readInto 19 = .ok (.iconst 0, 1) := by decide +kernel
theorem dX10_readInto_20 : decode cX10_readInto 20 = .ok (.istore_n 2, 1) := by decide +kernel
theorem dX10_readInto_21 : decode cX10_readInto 21 = .ok (.iload_n 2, 1) := by decide +kernel
theorem dX10_readInto_22 : decode cX10_readInto 22 = .ok (.sipush 150, 3) := by decide +kernel
theorem dX10_readInto_25 : decode cX10_readInto 25 = .ok (.if_icmp .gt 40, 3) := by decide +kernel
theorem dX10_readInto_28 : decode cX10_readInto 28 = .ok (.aload_n 0, 1) := by decide +kernel
theorem dX10_readInto_29 : decode cX10_readInto 29 = .ok (.getfield 33, 3) := by decide +kernel
theorem dX10_readInto_32 : decode cX10_readInto 32 = .ok (.iconst (-1), 1) := by decide +kernel
theorem dX10_readInto_33 : decode cX10_readInto 33 = .ok (.if_icmp .ne 32, 3) := by decide +kernel
theorem dX10_readInto_36 : decode cX10_readInto 36 = .ok (.aload_n 0, 1) := by decide +kernel
theorem dX10_readInto_37 : decode cX10_readInto 37 = .ok (.getfield 30, 3) := by decide +kernel
theorem dX10_readInto_40 : decode cX10_readInto 40 = .ok (.ifCond .eq 10, 3) := by decide +kernel
theorem dX10_readInto_43 : decode cX10_readInto 43 = .ok (.aload_n 0, 1) := by decide +kernel
theorem dX10_readInto_44 : decode cX10_readInto 44 = .ok (.getfield 39, 3) := by decide +kernel
theorem dX10_readInto_47 : decode cX10_readInto 47 = .ok (.ifCond .eq 18, 3) := by decide +kernel
theorem dX10_readInto_50 : decode cX10_readInto 50 = .ok (.aload_n 0, 1) := by decide +kernel
theorem dX10_readInto_51 : decode cX10_readInto 51 = .ok (.aload_n 1, 1) := by decide +kernel
theorem dX10_readInto_52 : decode cX10_readInto 52 = .ok (.invokevirtual 42, 3) := by decide +kernel
theorem dX10_readInto_55 : decode cX10_readInto 55 = .ok (.aload_n 0, 1) := by decide +kernel
theorem dX10_readInto_56 : decode cX10_readInto 56 = .ok (.invokevirtual 46, 3) := by decide +kernel
theorem dX10_readInto_59 : decode cX10_readInto 59 = .ok (.iinc 2 1, 3) := by decide +kernel
theorem dX10_readInto_62 : decode cX10_readInto 62 = .ok (.goto (-41), 3) := by decide +kernel
theorem dX10_readInto_65 : decode cX10_readInto 65 = .ok (.aload_n 0, 1) := by decide +kernel
theorem dX10_readInto_66 : decode cX10_readInto 66 = .ok (.getfield 33, 3) := by decide +kernel
theorem dX10_readInto_69 : decode cX10_readInto 69 = .ok (.iconst (-1), 1) := by decide +kernel
theorem dX10_readInto_70 : decode cX10_readInto 70 = .ok (.if_icmp .ne 10, 3) := by decide +kernel
theorem dX10_readInto_73 : decode cX10_readInto 73 = .ok (.aload_n 0, 1) := by decide +kernel
theorem dX10_readInto_74 : decode cX10_readInto 74 = .ok (.getfield 30, 3) := by decide +kernel
theorem dX10_readInto_77 : decode cX10_readInto 77 = .ok (.goto 10, 3) := by decide +kernel
theorem dX10_readInto_80 : decode cX10_readInto 80 = .ok (.bipush (-10), 2) := by decide +kernel
theorem dX10_readInto_82 : decode cX10_readInto 82 = .ok (.aload_n 0, 1) := by decide +kernel
theorem dX10_readInto_83 : decode cX10_readInto 83 = .ok (.getfield 33, 3) := by decide +kernel
theorem dX10_readInto_86 : decode cX10_readInto 86 = .ok (.isub, 1) := by decide +kernel
theorem dX10_readInto_87 : decode cX10_readInto 87 = .ok (.ireturn, 1) := by decide +kernel
theorem dX10_readItem_0 : decode cX10_readItem 0 = .ok (.aload_n 0, 1) := by decide +kernel
theorem dX10_readItem_1 : decode cX10_readItem 1 = .ok (.getfield 39, 3) := by decide +kernel
theorem dX10_readItem_4 : decode cX10_readItem 4 = .ok (.iconst 1, 1) := by decide +kernel
theorem dX10_readItem_5 : decode cX10_readItem 5 = .ok (.if_icmp .ne 42, 3) := by decide +kernel
theorem dX10_readItem_8 : decode cX10_readItem 8 = .ok (.aload_n 0, 1) := by decide +kernel
theorem dX10_readItem_9 : decode cX10_readItem 9 = .ok (.getfield 30, 3) := by decide +kernel
theorem dX10_readItem_12 : decode cX10_readItem 12 = .ok (.ifCond .ne 35, 3) := by decide +kernel
theorem dX10_readItem_15 : decode cX10_readItem 15 = .ok (.aload_n 0, 1) := by decide +kernel
theorem dX10_readItem_16 : decode cX10_readItem 16 = .ok (.getstatic 49, 3) := by decide +kernel
theorem dX10_readItem_19 : decode cX10_readItem 19 = .ok (.getstatic 52, 3) := by decide +kernel
theorem dX10_readItem_22 : decode cX10_readItem 22 = .ok (.invokevirtual 55, 3) := by decide +kernel
theorem dX10_readItem_25 : decode cX10_readItem 25 = .ok (.ifCond .eq 102, 3) := by decide +kernel
theorem dX10_readItem_28 : decode cX10_readItem 28 = .ok (.aload_n 1, 1) := by decide +kernel
theorem dX10_readItem_29 : decode cX10_readItem 29 = .ok (.aload_n 0, 1) := by decide +kernel
theorem dX10_readItem_30 : decode cX10_readItem 30 = .ok (.getfield 15, 3) := by decide +kernel
theorem dX10_readItem_33 : decode cX10_readItem 33 = .ok (.iconst 0, 1) := by decide +kernel
theorem dX10_readItem_34 : decode cX10_readItem 34 = .ok (.iaload, 1) := by decide +kernel
theorem dX10_readItem_35 : decode cX10_readItem 35 = .ok (.aload_n 0, 1) := by decide +kernel
theorem dX10_readItem_36 : decode cX10_readItem 36 = .ok (.getfield 15, 3) := by decide +kernel
theorem dX10_readItem_39 : decode cX10_readItem 39 = .ok (.iconst 1, 1) := by decide +kernel
theorem dX10_readItem_40 : decode cX10_readItem 40 = .ok (.iaload, 1) := by decide +kernel
theorem dX10_readItem_41 : decode cX10_readItem 41 = .ok (.invokevirtual 59, 3) := by decide +kernel
theorem dX10_readItem_44 : decode cX10_readItem 44 = .ok (.goto 83, 3) := by decide +kernel
theorem dX10_readItem_47 : decode cX10_readItem 47 = .ok (.aload_n 0, 1) := by decide +kernel
theorem dX10_readItem_48 : decode cX10_readItem 48 = .ok (.getfield 39, 3) := by decide +kernel
theorem dX10_readItem_51 : decode cX10_readItem 51 = .ok (.iconst 2, 1) := by decide +kernel
theorem dX10_readItem_52 : decode cX10_readItem 52 = .ok (.if_icmp .ne 44, 3) := by decide +kernel
theorem dX10_readItem_55 : decode cX10_readItem 55 = .ok (.aload_n 0, 1) := by decide +kernel
theorem dX10_readItem_56 : decode cX10_readItem 56 = .ok (.getfield 30, 3) := by decide +kernel
theorem dX10_readItem_59 : decode cX10_readItem 59 = .ok (.ifCond .le 37, 3) := by decide +kernel
theorem dX10_readItem_62 : decode cX10_readItem 62 = .ok (.aload_n 1, 1) := by decide +kernel
theorem dX10_readItem_63 : decode cX10_readItem 63 = .ok (.getfield 65, 3) := by decide +kernel
theorem dX10_readItem_66 : decode cX10_readItem 66 = .ok (.bipush 8, 2) := by decide +kernel
theorem dX10_readItem_68 : decode cX10_readItem 68 = .ok (.if_icmp .ge 28, 3) := by decide +kernel
theorem dX10_readItem_71 : decode cX10_readItem 71 = .ok (.aload_n 0, 1) := by decide +kernel
theorem dX10_readItem_72 : decode cX10_readItem 72 = .ok (.getstatic 68, 3) := by decide +kernel
theorem dX10_readItem_75 : decode cX10_readItem 75 = .ok (.getstatic 71, 3) := by decide +kernel
theorem dX10_readItem_78 : decode cX10_readItem 78 = .ok (.invokevirtual 55, 3) := by decide +kernel
theorem dX10_readItem_81 : decode cX10_readItem 81 = .ok (.ifCond .eq 46, 3) := by decide +kernel
theorem dX10_readItem_84 : decode cX10_readItem 84 = .ok (.aload_n 1, 1) := by decide +kernel
theorem dX10_readItem_85 : decode cX10_readItem 85 = .ok (.aload_n 0, 1) := by decide +kernel
theorem dX10_readItem_86 : decode cX10_readItem 86 = .ok (.getfield 15, 3) := by decide +kernel
theorem dX10_readItem_89 : decode cX10_readItem 89 = .ok (.invokevirtual 74, 3) := by decide +kernel
theorem dX10_readItem_92 : decode cX10_readItem 92 = .ok (.pop, 1) := by decide +kernel
theorem dX10_readItem_93 : decode cX10_readItem 93 = .ok (.goto 34, 3) := by decide +kernel
theorem dX10_readItem_96 : decode cX10_readItem 96 = .ok (.aload_n 0, 1) := by decide +kernel
theorem dX10_readItem_97 : decode cX10_readItem 97 = .ok (.getfield 39, 3) := by decide +kernel
theorem dX10_readItem_100 : decode cX10_readItem 100 = .ok (.iconst 3, 1) := by decide +kernel
theorem dX10_readItem_101 : decode cX10_readItem 101 = .ok (.if_icmp .ne 18, 3) := by decide +kernel
theorem dX10_readItem_104 : decode cX10_readItem 104 = .ok (.aload_n 0, 1) := by decide +kernel
theorem dX10_readItem_105 : decode cX10_readItem 105 = .ok (.getfield 30, 3) := by decide +kernel
theorem dX10_readItem_108 : decode cX10_readItem 108 = .ok (.ifCond .le 11, 3) := by decide +kernel
theorem dX10_readItem_111 : decode cX10_readItem 111 = .ok (.aload_n 0, 1) := by decide +kernel
theorem dX10_readItem_112 : decode cX10_readItem 112 = .ok (.aload_n 1, 1) := by decide +kernel
theorem dX10_readItem_113 : decode cX10_readItem 113 = .ok (.invokevirtual 78, 3) := by decide +kernel
theorem dX10_readItem_116 : decode cX10_readItem 116 = .ok (.goto 11, 3) := by decide +kernel
theorem dX10_readItem_119 : decode cX10_readItem 119 = .ok (.aload_n 0, 1) := by decide +kernel
theorem dX10_readItem_120 : decode cX10_readItem 120 = .ok (.aload_n 0, 1) := by decide +kernel
theorem dX10_readItem_121 : decode cX10_readItem 121 = .ok (.getfield 81, 3) := by decide +kernel
theorem dX10_readItem_124 : decode cX10_readItem 124 = .ok (.putfield 33, 3) := by decide +kernel
theorem dX10_readItem_127 : decode cX10_readItem 127 = .ok (.return_, 1) := by decide +kernel
theorem dX10_takeStop_0 : decode cX10_takeStop 0 = .ok (.aload_n 0, 1) := by decide +kernel
theorem dX10_takeStop_1 : decode cX10_takeStop 1 = .ok (.getfield 33, 3) := by decide +kernel
theorem dX10_takeStop_4 : decode cX10_takeStop 4 = .ok (.iconst (-1), 1) := by decide +kernel
theorem dX10_takeStop_5 : decode cX10_takeStop 5 = .ok (.if_icmp .eq 4, 3) := by decide +kernel
theorem dX10_takeStop_8 : decode cX10_takeStop 8 = .ok (.return_, 1) := by decide +kernel
theorem dX10_takeStop_9 : decode cX10_takeStop 9 = .ok (.aload_n 0, 1) := by decide +kernel
theorem dX10_takeStop_10 : decode cX10_takeStop 10 = .ok (.getfield 39, 3) := by decide +kernel
theorem dX10_takeStop_13 : decode cX10_takeStop 13 = .ok (.iconst 5, 1) := by decide +kernel
theorem dX10_takeStop_14 : decode cX10_takeStop 14 = .ok (.if_icmp .ne 20, 3) := by decide +kernel
theorem dX10_takeStop_17 : decode cX10_takeStop 17 = .ok (.aload_n 0, 1) := by decide +kernel
theorem dX10_takeStop_18 : decode cX10_takeStop 18 = .ok (.dup, 1) := by decide +kernel
theorem dX10_takeStop_19 : decode cX10_takeStop 19 = .ok (.getfield 30, 3) := by decide +kernel
theorem dX10_takeStop_22 : decode cX10_takeStop 22 = .ok (.iconst 1, 1) := by decide +kernel
theorem dX10_takeStop_23 : decode cX10_takeStop 23 = .ok (.iadd, 1) := by decide +kernel
theorem dX10_takeStop_24 : decode cX10_takeStop 24 = .ok (.putfield 30, 3) := by decide +kernel
theorem dX10_takeStop_27 : decode cX10_takeStop 27 = .ok (.aload_n 0, 1) := by decide +kernel
theorem dX10_takeStop_28 : decode cX10_takeStop 28 = .ok (.invokevirtual 36, 3) := by decide +kernel
theorem dX10_takeStop_31 : decode cX10_takeStop 31 = .ok (.goto 11, 3) := by decide +kernel
theorem dX10_takeStop_34 : decode cX10_takeStop 34 = .ok (.aload_n 0, 1) := by decide +kernel
theorem dX10_takeStop_35 : decode cX10_takeStop 35 = .ok (.aload_n 0, 1) := by decide +kernel
theorem dX10_takeStop_36 : decode cX10_takeStop 36 = .ok (.getfield 81, 3) := by decide +kernel
theorem dX10_takeStop_39 : decode cX10_takeStop 39 = .ok (.putfield 33, 3) := by decide +kernel
theorem dX10_takeStop_42 : decode cX10_takeStop 42 = .ok (.return_, 1) := by decide +kernel
theorem dX10_takeNumbers_0 : decode cX10_takeNumbers 0 = .ok (.aload_n 0, 1) := by decide +kernel
theorem dX10_takeNumbers_1 : decode cX10_takeNumbers 1 = .ok (.invokevirtual 36, 3) := by decide +kernel
theorem dX10_takeNumbers_4 : decode cX10_takeNumbers 4 = .ok (.iconst 0, 1) := by decide +kernel
theorem dX10_takeNumbers_5 : decode cX10_takeNumbers 5 = .ok (.istore_n 3, 1) := by decide +kernel
theorem dX10_takeNumbers_6 : decode cX10_takeNumbers 6 = .ok (.iload_n 3, 1) := by decide +kernel
theorem dX10_takeNumbers_7 : decode cX10_takeNumbers 7 = .ok (.aload_n 1, 1) := by decide +kernel
theorem dX10_takeNumbers_8 : decode cX10_takeNumbers 8 = .ok (.arraylength, 1) := by decide +kernel
theorem dX10_takeNumbers_9 : decode cX10_takeNumbers 9 = .ok (.if_icmp .ge 72, 3) := by decide +kernel
theorem dX10_takeNumbers_12 : decode cX10_takeNumbers 12 = .ok (.iload_n 3, 1) := by decide +kernel
theorem dX10_takeNumbers_13 : decode cX10_takeNumbers 13 = .ok (.aload_n 2, 1) := by decide +kernel
theorem dX10_takeNumbers_14 : decode cX10_takeNumbers 14 = .ok (.arraylength, 1) := by decide +kernel
theorem dX10_takeNumbers_15 : decode cX10_takeNumbers 15 = .ok (.if_icmp .ge 66, 3) := by decide +kernel
theorem dX10_takeNumbers_18 : decode cX10_takeNumbers 18 = .ok (.iload_n 3, 1) := by decide +kernel
theorem dX10_takeNumbers_19 : decode cX10_takeNumbers 19 = .ok (.aload_n 0, 1) := by decide +kernel
theorem dX10_takeNumbers_20 : decode cX10_takeNumbers 20 = .ok (.getfield 15, 3) := by decide +kernel
theorem dX10_takeNumbers_23 : decode cX10_takeNumbers 23 = .ok (.arraylength, 1) := by decide +kernel
theorem dX10_takeNumbers_24 : decode cX10_takeNumbers 24 = .ok (.if_icmp .ge 57, 3) := by decide +kernel
theorem dX10_takeNumbers_27 : decode cX10_takeNumbers 27 = .ok (.aload_n 0, 1) := by decide +kernel
theorem dX10_takeNumbers_28 : decode cX10_takeNumbers 28 = .ok (.getfield 39, 3) := by decide +kernel
theorem dX10_takeNumbers_31 : decode cX10_takeNumbers 31 = .ok (.iconst 4, 1) := by decide +kernel
theorem dX10_takeNumbers_32 : decode cX10_takeNumbers 32 = .ok (.if_icmp .ne 19, 3) := by decide +kernel
theorem dX10_takeNumbers_35 : decode cX10_takeNumbers 35 = .ok (.aload_n 0, 1) := by decide +kernel
theorem dX10_takeNumbers_36 : decode cX10_takeNumbers 36 = .ok (.getfield 84, 3) := by decide +kernel
theorem dX10_takeNumbers_39 : decode cX10_takeNumbers 39 = .ok (.aload_n 1, 1) := by decide +kernel
theorem dX10_takeNumbers_40 : decode cX10_takeNumbers 40 = .ok (.iload_n 3, 1) := by decide +kernel
theorem dX10_takeNumbers_41 : decode cX10_takeNumbers 41 = .ok (.iaload, 1) := by decide +kernel
theorem dX10_takeNumbers_42 : decode cX10_takeNumbers 42 = .ok (.aload_n 2, 1) := by decide +kernel
theorem dX10_takeNumbers_43 : decode cX10_takeNumbers 43 = .ok (.iload_n 3, 1) := by decide +kernel
theorem dX10_takeNumbers_44 : decode cX10_takeNumbers 44 = .ok (.iaload, 1) := by decide +kernel
theorem dX10_takeNumbers_45 : decode cX10_takeNumbers 45 = .ok (.invokestatic 23, 3) := by decide +kernel
theorem dX10_takeNumbers_48 : decode cX10_takeNumbers 48 = .ok (.ifCond .ne 13, 3) := by decide +kernel
theorem dX10_takeNumbers_51 : decode cX10_takeNumbers 51 = .ok (.aload_n 0, 1) := by decide +kernel
theorem dX10_takeNumbers_52 : decode cX10_takeNumbers 52 = .ok (.aload_n 0, 1) := by decide +kernel
theorem dX10_takeNumbers_53 : decode cX10_takeNumbers 53 = .ok (.getfield 81, 3) := by decide +kernel
theorem dX10_takeNumbers_56 : decode cX10_takeNumbers 56 = .ok (.putfield 33, 3) := by decide +kernel
theorem dX10_takeNumbers_59 : decode cX10_takeNumbers 59 = .ok (.iconst 0, 1) := by decide +kernel
theorem dX10_takeNumbers_60 : decode cX10_takeNumbers 60 = .ok (.ireturn, 1) := by decide +kernel
theorem dX10_takeNumbers_61 : decode cX10_takeNumbers 61 = .ok (.aload_n 0, 1) := by decide +kernel
theorem dX10_takeNumbers_62 : decode cX10_takeNumbers 62 = .ok (.getfield 15, 3) := by decide +kernel
theorem dX10_takeNumbers_65 : decode cX10_takeNumbers 65 = .ok (.iload_n 3, 1) := by decide +kernel
theorem dX10_takeNumbers_66 : decode cX10_takeNumbers 66 = .ok (.aload_n 0, 1) := by decide +kernel
theorem dX10_takeNumbers_67 : decode cX10_takeNumbers 67 = .ok (.getfield 84, 3) := by decide +kernel
theorem dX10_takeNumbers_70 : decode cX10_takeNumbers 70 = .ok (.iastore, 1) := by decide +kernel
theorem dX10_takeNumbers_71 : decode cX10_takeNumbers 71 = .ok (.aload_n 0, 1) := by decide +kernel
theorem dX10_takeNumbers_72 : decode cX10_takeNumbers 72 = .ok (.invokevirtual 36, 3) := by decide +kernel
theorem dX10_takeNumbers_75 : decode cX10_takeNumbers 75 = .ok (.iinc 3 1, 3) := by decide +kernel
theorem dX10_takeNumbers_78 : decode cX10_takeNumbers 78 = .ok (.goto (-72), 3) := by decide +kernel
theorem dX10_takeNumbers_81 : decode cX10_takeNumbers 81 = .ok (.iconst 1, 1) := by decide +kernel
theorem dX10_takeNumbers_82 : decode cX10_takeNumbers 82 = .ok (.ireturn, 1) := by decide +kernel
theorem dX10_takeOver_0 : decode cX10_takeOver 0 = .ok (.aload_n 0, 1) := by decide +kernel
theorem dX10_takeOver_1 : decode cX10_takeOver 1 = .ok (.invokevirtual 36, 3) := by decide +kernel
theorem dX10_takeOver_4 : decode cX10_takeOver 4 = .ok (.aload_n 0, 1) := by decide +kernel
theorem dX10_takeOver_5 : decode cX10_takeOver 5 = .ok (.getfield 39, 3) := by decide +kernel
theorem dX10_takeOver_8 : decode cX10_takeOver 8 = .ok (.iconst 4, 1) := by decide +kernel
theorem dX10_takeOver_9 : decode cX10_takeOver 9 = .ok (.if_icmp .ne 33, 3) := by decide +kernel
theorem dX10_takeOver_12 : decode cX10_takeOver 12 = .ok (.aload_n 1, 1) := by decide +kernel
theorem dX10_takeOver_13 : decode cX10_takeOver 13 = .ok (.aload_n 0, 1) := by decide +kernel
theorem dX10_takeOver_14 : decode cX10_takeOver 14 = .ok (.getfield 84, 3) := by decide +kernel
theorem dX10_takeOver_17 : decode cX10_takeOver 17 = .ok (.aload_n 1, 1) := by decide +kernel
theorem dX10_takeOver_18 : decode cX10_takeOver 18 = .ok (.getfield 87, 3) := by decide +kernel
theorem dX10_takeOver_21 : decode cX10_takeOver 21 = .ok (.invokevirtual 90, 3) := by decide +kernel
theorem dX10_takeOver_24 : decode cX10_takeOver 24 = .ok (.ifCond .eq 18, 3) := by decide +kernel
theorem dX10_takeOver_27 : decode cX10_takeOver 27 = .ok (.aload_n 1, 1) := by decide +kernel
theorem dX10_takeOver_28 : decode cX10_takeOver 28 = .ok (.aload_n 0, 1) := by decide +kernel
theorem dX10_takeOver_29 : decode cX10_takeOver 29 = .ok (.getfield 84, 3) := by decide +kernel
theorem dX10_takeOver_32 : decode cX10_takeOver 32 = .ok (.invokevirtual 94, 3) := by decide +kernel
theorem dX10_takeOver_35 : decode cX10_takeOver 35 = .ok (.aload_n 0, 1) := by decide +kernel
theorem dX10_takeOver_36 : decode cX10_takeOver 36 = .ok (.invokevirtual 36, 3) := by decide +kernel
theorem dX10_takeOver_39 : decode cX10_takeOver 39 = .ok (.goto 11, 3) := by decide +kernel
theorem dX10_takeOver_42 : decode cX10_takeOver 42 = .ok (.aload_n 0, 1) := by decide +kernel
theorem dX10_takeOver_43 : decode cX10_takeOver 43 = .ok (.aload_n 0, 1) := by decide +kernel
theorem dX10_takeOver_44 : decode cX10_takeOver 44 = .ok (.getfield 81, 3) := by decide +kernel
theorem dX10_takeOver_47 : decode cX10_takeOver 47 = .ok (.putfield 33, 3) := by decide +kernel
theorem dX10_takeOver_50 : decode cX10_takeOver 50 = .ok (.return_, 1) := by decide +kernel
theorem dX10_step_0 : decode cX10_step 0 = .ok (.aload_n 0, 1) := by decide +kernel
theorem dX10_step_1 : decode cX10_step 1 = .ok (.getfield 27, 3) := by decide +kernel
theorem dX10_step_4 : decode cX10_step 4 = .ok (.aload_n 0, 1) := by decide +kernel
theorem dX10_step_5 : decode cX10_step 5 = .ok (.getfield 19, 3) := by decide +kernel
theorem dX10_step_8 : decode cX10_step 8 = .ok (.if_icmp .ge 29, 3) := by decide +kernel
theorem dX10_step_11 : decode cX10_step 11 = .ok (.aload_n 0, 1) := by decide +kernel
theorem dX10_step_12 : decode cX10_step 12 = .ok (.aload_n 0, 1) := by decide +kernel
theorem dX10_step_13 : decode cX10_step 13 = .ok (.getfield 27, 3) := by decide +kernel
theorem dX10_step_16 : decode cX10_step 16 = .ok (.invokevirtual 98, 3) := by decide +kernel
theorem dX10_step_19 : decode cX10_step 19 = .ok (.bipush 32, 2) := by decide +kernel
theorem dX10_step_21 : decode cX10_step 21 = .ok (.if_icmp .ne 16, 3) := by decide +kernel
theorem dX10_step_24 : decode cX10_step 24 = .ok (.aload_n 0, 1) := by decide +kernel
theorem dX10_step_25 : decode cX10_step 25 = .ok (.dup, 1) := by decide +kernel
theorem dX10_step_26 : decode cX10_step 26 = .ok (.getfield 27, 3) := by decide +kernel
theorem dX10_step_29 : decode cX10_step 29 = .ok (.iconst 1, 1) := by decide +kernel
theorem dX10_step_30 : decode cX10_step 30 = .ok (.iadd, 1) := by decide +kernel
theorem dX10_step_31 : decode cX10_step 31 = .ok (.putfield 27, 3) := by decide +kernel
theorem dX10_step_34 : decode cX10_step 34 = .ok (.goto (-34), 3) := by decide +kernel
theorem dX10_step_37 : decode cX10_step 37 = .ok (.aload_n 0, 1) := by decide +kernel
theorem dX10_step_38 : decode cX10_step 38 = .ok (.aload_n 0, 1) := by decide +kernel
theorem dX10_step_39 : decode cX10_step 39 = .ok (.getfield 27, 3) := by decide +kernel
theorem dX10_step_42 : decode cX10_step 42 = .ok (.putfield 81, 3) := by decide +kernel
theorem dX10_step_45 : decode cX10_step 45 = .ok (.aload_n 0, 1) := by decide +kernel
theorem dX10_step_46 : decode cX10_step 46 = .ok (.getfield 27, 3) := by decide +kernel
theorem dX10_step_49 : decode cX10_step 49 = .ok (.aload_n 0, 1) := by decide +kernel
theorem dX10_step_50 : decode cX10_step 50 = .ok (.getfield 19, 3) := by decide +kernel
theorem dX10_step_53 : decode cX10_step 53 = .ok (.if_icmp .lt 11, 3) := by decide +kernel
theorem dX10_step_56 : decode cX10_step 56 = .ok (.aload_n 0, 1) := by decide +kernel
theorem dX10_step_57 : decode cX10_step 57 = .ok (.iconst 0, 1) := by decide +kernel
theorem dX10_step_58 : decode cX10_step 58 = .ok (.putfield 39, 3) := by decide +kernel
theorem dX10_step_61 : decode cX10_step 61 = .ok (.goto 78, 3) := by decide +kernel
theorem dX10_step_64 : decode cX10_step 64 = .ok (.aload_n 0, 1) := by decide +kernel
theorem dX10_step_65 : decode cX10_step 65 = .ok (.aload_n 0, 1) := by decide +kernel
theorem dX10_step_66 : decode cX10_step 66 = .ok (.getfield 27, 3) := by decide +kernel
theorem dX10_step_69 : decode cX10_step 69 = .ok (.invokevirtual 98, 3) := by decide +kernel
theorem dX10_step_72 : decode cX10_step 72 = .ok (.invokestatic 102, 3) := by decide +kernel
theorem dX10_step_75 : decode cX10_step 75 = .ok (.ifCond .eq 10, 3) := by decide +kernel
theorem dX10_step_78 : decode cX10_step 78 = .ok (.aload_n 0, 1) := by decide +kernel
theorem dX10_step_79 : decode cX10_step 79 = .ok (.invokevirtual 106, 3) := by decide +kernel
theorem dX10_step_82 : decode cX10_step 82 = .ok (.goto 57, 3) := by decide +kernel
theorem dX10_step_85 : decode cX10_step 85 = .ok (.aload_n 0, 1) := by decide +kernel
theorem dX10_step_86 : decode cX10_step 86 = .ok (.aload_n 0, 1) := by decide +kernel
theorem dX10_step_87 : decode cX10_step 87 = .ok (.getfield 27, 3) := by decide +kernel
theorem dX10_step_90 : decode cX10_step 90 = .ok (.invokevirtual 98, 3) := by decide +kernel
theorem dX10_step_93 : decode cX10_step 93 = .ok (.invokestatic 109, 3) := by decide +kernel
theorem dX10_step_96 : decode cX10_step 96 = .ok (.ifCond .eq 10, 3) := by decide +kernel
theorem dX10_step_99 : decode cX10_step 99 = .ok (.aload_n 0, 1) := by decide +kernel
theorem dX10_step_100 : decode cX10_step 100 = .ok (.invokevirtual 112, 3) := by decide +kernel
theorem dX10_step_103 : decode cX10_step 103 = .ok (.goto 36, 3) := by decide +kernel
theorem dX10_step_106 : decode cX10_step 106 = .ok (.aload_n 0, 1) := by decide +kernel
theorem dX10_step_107 : decode cX10_step 107 = .ok (.aload_n 0, 1) := by decide +kernel
theorem dX10_step_108 : decode cX10_step 108 = .ok (.aload_n 0, 1) := by decide +kernel
theorem dX10_step_109 : decode cX10_step 109 = .ok (.getfield 27, 3) := by decide +kernel
theorem dX10_step_112 : decode cX10_step 112 = .ok (.invokevirtual 98, 3) := by decide +kernel
theorem dX10_step_115 : decode cX10_step 115 = .ok (.bipush 59, 2) := by decide +kernel
theorem dX10_step_117 : decode cX10_step 117 = .ok (.if_icmp .ne 7, 3) := by decide +kernel
theorem dX10_step_120 : decode cX10_step 120 = .ok (.iconst 5, 1) := by decide +kernel
theorem dX10_step_121 : decode cX10_step 121 = .ok (.goto 5, 3) := by decide +kernel
theorem dX10_step_124 : decode cX10_step 124 = .ok (.bipush 6, 2) := by decide +kernel
theorem dX10_step_126 : decode cX10_step 126 = .ok (.putfield 39, 3) := by decide +kernel
theorem dX10_step_129 : decode cX10_step 129 = .ok (.aload_n 0, 1) := by decide +kernel
theorem dX10_step_130 : decode cX10_step 130 = .ok (.dup, 1) := by decide +kernel
theorem dX10_step_131 : decode cX10_step 131 = .ok (.getfield 27, 3) := by decide +kernel
theorem dX10_step_134 : decode cX10_step 134 = .ok (.iconst 1, 1) := by decide +kernel
theorem dX10_step_135 : decode cX10_step 135 = .ok (.iadd, 1) := by decide +kernel
theorem dX10_step_136 : decode cX10_step 136 = .ok (.putfield 27, 3) := by decide +kernel
theorem dX10_step_139 : decode cX10_step 139 = .ok (.return_, 1) := by decide +kernel
theorem dX10_takeWord_0 : decode cX10_takeWord 0 = .ok (.aload_n 0, 1) := by decide +kernel
theorem dX10_takeWord_1 : decode cX10_takeWord 1 = .ok (.getfield 27, 3) := by decide +kernel
theorem dX10_takeWord_4 : decode cX10_takeWord 4 = .ok (.aload_n 0, 1) := by decide +kernel
theorem dX10_takeWord_5 : decode cX10_takeWord 5 = .ok (.getfield 19, 3) := by decide +kernel
theorem dX10_takeWord_8 : decode cX10_takeWord 8 = .ok (.if_icmp .ge 30, 3) := by decide +kernel
theorem dX10_takeWord_11 : decode cX10_takeWord 11 = .ok (.aload_n 0, 1) := by decide +kernel
theorem dX10_takeWord_12 : decode cX10_takeWord 12 = .ok (.aload_n 0, 1) := by decide +kernel
theorem dX10_takeWord_13 : decode cX10_takeWord 13 = .ok (.getfield 27, 3) := by decide +kernel
theorem dX10_takeWord_16 : decode cX10_takeWord 16 = .ok (.invokevirtual 98, 3) := by decide +kernel
theorem dX10_takeWord_19 : decode cX10_takeWord 19 = .ok (.invokestatic 102, 3) := by decide +kernel
theorem dX10_takeWord_22 : decode cX10_takeWord 22 = .ok (.ifCond .eq 16, 3) := by decide +kernel
theorem dX10_takeWord_25 : decode cX10_takeWord 25 = .ok (.aload_n 0, 1) := by decide +kernel
theorem dX10_takeWord_26 : decode cX10_takeWord 26 = .ok (.dup, 1) := by decide +kernel
theorem dX10_takeWord_27 : decode cX10_takeWord 27 = .ok (.getfield 27, 3) := by decide +kernel
theorem dX10_takeWord_30 : decode cX10_takeWord 30 = .ok (.iconst 1, 1) := by decide +kernel
theorem dX10_takeWord_31 : decode cX10_takeWord 31 = .ok (.iadd, 1) := by decide +kernel
theorem dX10_takeWord_32 : decode cX10_takeWord 32 = .ok (.putfield 27, 3) := by decide +kernel
theorem dX10_takeWord_35 : decode cX10_takeWord 35 = .ok (.goto (-35), 3) := by decide +kernel
theorem dX10_takeWord_38 : decode cX10_takeWord 38 = .ok (.aload_n 0, 1) := by decide +kernel
theorem dX10_takeWord_39 : decode cX10_takeWord 39 = .ok (.ldc 115, 2) := by decide +kernel
theorem dX10_takeWord_41 : decode cX10_takeWord 41 = .ok (.invokevirtual 117, 3) := by decide +kernel
theorem dX10_takeWord_44 : decode cX10_takeWord 44 = .ok (.ifCond .eq 11, 3) := by decide +kernel
theorem dX10_takeWord_47 : decode cX10_takeWord 47 = .ok (.aload_n 0, 1) := by decide +kernel
theorem dX10_takeWord_48 : decode cX10_takeWord 48 = .ok (.iconst 1, 1) := by decide +kernel
theorem dX10_takeWord_49 : decode cX10_takeWord 49 = .ok (.putfield 39, 3) := by decide +kernel
theorem dX10_takeWord_52 : decode cX10_takeWord 52 = .ok (.goto 39, 3) := by decide +kernel
theorem dX10_takeWord_55 : decode cX10_takeWord 55 = .ok (.aload_n 0, 1) := by decide +kernel
theorem dX10_takeWord_56 : decode cX10_takeWord 56 = .ok (.ldc 121, 2) := by decide +kernel
theorem dX10_takeWord_58 : decode cX10_takeWord 58 = .ok (.invokevirtual 117, 3) := by decide +kernel
theorem dX10_takeWord_61 : decode cX10_takeWord 61 = .ok (.ifCond .eq 11, 3) := by decide +kernel
theorem dX10_takeWord_64 : decode cX10_takeWord 64 = .ok (.aload_n 0, 1) := by decide +kernel
theorem dX10_takeWord_65 : decode cX10_takeWord 65 = .ok (.iconst 2, 1) := by decide +kernel
theorem dX10_takeWord_66 : decode cX10_takeWord 66 = .ok (.putfield 39, 3) := by decide +kernel
theorem dX10_takeWord_69 : decode cX10_takeWord 69 = .ok (.goto 22, 3) := by decide +kernel
theorem dX10_takeWord_72 : decode cX10_takeWord 72 = .ok (.aload_n 0, 1) := by decide +kernel
theorem dX10_takeWord_73 : decode cX10_takeWord 73 = .ok (.aload_n 0, 1) := by decide +kernel
theorem dX10_takeWord_74 : decode cX10_takeWord 74 = .ok (.ldc 123, 2) := by decide +kernel
theorem dX10_takeWord_76 : decode cX10_takeWord 76 = .ok (.invokevirtual 117, 3) := by decide +kernel
theorem dX10_takeWord_79 : decode cX10_takeWord 79 = .ok (.ifCond .eq 7, 3) := by decide +kernel
theorem dX10_takeWord_82 : decode cX10_takeWord 82 = .ok (.iconst 3, 1) := by decide +kernel
theorem dX10_takeWord_83 : decode cX10_takeWord 83 = .ok (.goto 5, 3) := by decide +kernel
theorem dX10_takeWord_86 : decode cX10_takeWord 86 = .ok (.bipush 6, 2) := by decide +kernel
theorem dX10_takeWord_88 : decode cX10_takeWord 88 = .ok (.putfield 39, 3) := by decide +kernel
theorem dX10_takeWord_91 : decode cX10_takeWord 91 = .ok (.return_, 1) := by decide +kernel
theorem dX10_spells_0 : decode cX10_spells 0 = .ok (.aload_n 1, 1) := by decide +kernel
theorem dX10_spells_1 : decode cX10_spells 1 = .ok (.invokevirtual 125, 3) := by decide +kernel
theorem dX10_spells_4 : decode cX10_spells 4 = .ok (.aload_n 0, 1) := by decide +kernel
theorem dX10_spells_5 : decode cX10_spells 5 = .ok (.getfield 27, 3) := by decide +kernel
theorem dX10_spells_8 : decode cX10_spells 8 = .ok (.aload_n 0, 1) := by decide +kernel
theorem dX10_spells_9 : decode cX10_spells 9 = .ok (.getfield 81, 3) := by decide +kernel
theorem dX10_spells_12 : decode cX10_spells 12 = .ok (.isub, 1) := by decide +kernel
theorem dX10_spells_13 : decode cX10_spells 13 = .ok (.if_icmp .eq 5, 3) := by decide +kernel
theorem dX10_spells_16 : decode cX10_spells 16 = .ok (.iconst 0, 1) := by decide +kernel
theorem dX10_spells_17 : decode cX10_spells 17 = .ok (.ireturn, 1) := by decide +kernel
theorem dX10_spells_18 : decode cX10_spells 18 = .ok (.iconst 0, 1) := by decide +kernel
theorem dX10_spells_19 : decode cX10_spells 19 = .ok (.istore_n 2, 1) := by decide +kernel
theorem dX10_spells_20 : decode cX10_spells 20 = .ok (.iload_n 2, 1) := by decide +kernel
theorem dX10_spells_21 : decode cX10_spells 21 = .ok (.aload_n 1, 1) := by decide +kernel
theorem dX10_spells_22 : decode cX10_spells 22 = .ok (.invokevirtual 125, 3) := by decide +kernel
theorem dX10_spells_25 : decode cX10_spells 25 = .ok (.if_icmp .ge 29, 3) := by decide +kernel
theorem dX10_spells_28 : decode cX10_spells 28 = .ok (.aload_n 1, 1) := by decide +kernel
theorem dX10_spells_29 : decode cX10_spells 29 = .ok (.iload_n 2, 1) := by decide +kernel
theorem dX10_spells_30 : decode cX10_spells 30 = .ok (.invokevirtual 130, 3) := by decide +kernel
theorem dX10_spells_33 : decode cX10_spells 33 = .ok (.aload_n 0, 1) := by decide +kernel
theorem dX10_spells_34 : decode cX10_spells 34 = .ok (.aload_n 0, 1) := by decide +kernel
theorem dX10_spells_35 : decode cX10_spells 35 = .ok (.getfield 81, 3) := by decide +kernel
theorem dX10_spells_38 : decode cX10_spells 38 = .ok (.iload_n 2, 1) := by decide +kernel
theorem dX10_spells_39 : decode cX10_spells 39 = .ok (.iadd, 1) := by decide +kernel
theorem dX10_spells_40 : decode cX10_spells 40 = .ok (.invokevirtual 98, 3) := by decide +kernel
theorem dX10_spells_43 : decode cX10_spells 43 = .ok (.if_icmp .eq 5, 3) := by decide +kernel
theorem dX10_spells_46 : decode cX10_spells 46 = .ok (.iconst 0, 1) := by decide +kernel
theorem dX10_spells_47 : decode cX10_spells 47 = .ok (.ireturn, 1) := by decide +kernel
theorem dX10_spells_48 : decode cX10_spells 48 = .ok (.iinc 2 1, 3) := by decide +kernel
theorem dX10_spells_51 : decode cX10_spells 51 = .ok (.goto (-31), 3) := by decide +kernel
theorem dX10_spells_54 : decode cX10_spells 54 = .ok (.iconst 1, 1) := by decide +kernel
theorem dX10_spells_55 : decode cX10_spells 55 = .ok (.ireturn, 1) := by decide +kernel
theorem dX10_takeFigures_0 : decode cX10_takeFigures 0 = .ok (.aload_n 0, 1) := by decide +kernel
theorem dX10_takeFigures_1 : decode cX10_takeFigures 1 = .ok (.iconst 0, 1) := by decide +kernel
theorem dX10_takeFigures_2 : decode cX10_takeFigures 2 = .ok (.putfield 84, 3) := by decide +kernel
theorem dX10_takeFigures_5 : decode cX10_takeFigures 5 = .ok (.aload_n 0, 1) := by decide +kernel
theorem dX10_takeFigures_6 : decode cX10_takeFigures 6 = .ok (.getfield 27, 3) := by decide +kernel
theorem dX10_takeFigures_9 : decode cX10_takeFigures 9 = .ok (.aload_n 0, 1) := by decide +kernel
theorem dX10_takeFigures_10 : decode cX10_takeFigures 10 = .ok (.getfield 19, 3) := by decide +kernel
theorem dX10_takeFigures_13 : decode cX10_takeFigures 13 = .ok (.if_icmp .ge 66, 3) := by decide +kernel
theorem dX10_takeFigures_16 : decode cX10_takeFigures 16 = .ok (.aload_n 0, 1) := by decide +kernel
theorem dX10_takeFigures_17 : decode cX10_takeFigures 17 = .ok (.aload_n 0, 1) := by decide +kernel
theorem dX10_takeFigures_18 : decode cX10_takeFigures 18 = .ok (.getfield 27, 3) := by decide +kernel
theorem dX10_takeFigures_21 : decode cX10_takeFigures 21 = .ok (.invokevirtual 98, 3) := by decide +kernel
theorem dX10_takeFigures_24 : decode cX10_takeFigures 24 = .ok (.invokestatic 109, 3) := by decide +kernel
theorem dX10_takeFigures_27 : decode cX10_takeFigures 27 = .ok (.ifCond .eq 52, 3) := by decide +kernel
theorem dX10_takeFigures_30 : decode cX10_takeFigures 30 = .ok (.aload_n 0, 1) := by decide +kernel
theorem dX10_takeFigures_31 : decode cX10_takeFigures 31 = .ok (.getfield 27, 3) := by decide +kernel
theorem dX10_takeFigures_34 : decode cX10_takeFigures 34 = .ok (.aload_n 0, 1) := by decide +kernel
theorem dX10_takeFigures_35 : decode cX10_takeFigures 35 = .ok (.getfield 81, 3) := by decide +kernel
theorem dX10_takeFigures_38 : decode cX10_takeFigures 38 = .ok (.isub, 1) := by decide +kernel
theorem dX10_takeFigures_39 : decode cX10_takeFigures 39 = .ok (.iconst 3, 1) := by decide +kernel
theorem dX10_takeFigures_40 : decode cX10_takeFigures 40 = .ok (.if_icmp .ge 26, 3) := by decide +kernel
theorem dX10_takeFigures_43 : decode cX10_takeFigures 43 = .ok (.aload_n 0, 1) := by decide +kernel
theorem dX10_takeFigures_44 : decode cX10_takeFigures 44 = .ok (.aload_n 0, 1) := by decide +kernel
theorem dX10_takeFigures_45 : decode cX10_takeFigures 45 = .ok (.getfield 84, 3) := by decide +kernel
theorem dX10_takeFigures_48 : decode cX10_takeFigures 48 = .ok (.bipush 10, 2) := by decide +kernel
theorem dX10_takeFigures_50 : decode cX10_takeFigures 50 = .ok (.imul, 1) := by decide +kernel
theorem dX10_takeFigures_51 : decode cX10_takeFigures 51 = .ok (.aload_n 0, 1) := by decide +kernel
theorem dX10_takeFigures_52 : decode cX10_takeFigures 52 = .ok (.aload_n 0, 1) := by decide +kernel
theorem dX10_takeFigures_53 : decode cX10_takeFigures 53 = .ok (.getfield 27, 3) := by decide +kernel
theorem dX10_takeFigures_56 : decode cX10_takeFigures 56 = .ok (.invokevirtual 98, 3) := by decide +kernel
theorem dX10_takeFigures_59 : decode cX10_takeFigures 59 = .ok (.iadd, 1) := by decide +kernel
theorem dX10_takeFigures_60 : decode cX10_takeFigures 60 = .ok (.bipush 48, 2) := by decide +kernel
theorem dX10_takeFigures_62 : decode cX10_takeFigures 62 = .ok (.isub, 1) := by decide +kernel
theorem dX10_takeFigures_63 : decode cX10_takeFigures 63 = .ok (.putfield 84, 3) := by decide +kernel
theorem dX10_takeFigures_66 : decode cX10_takeFigures 66 = .ok (.aload_n 0, 1) := by decide +kernel
theorem dX10_takeFigures_67 : decode cX10_takeFigures 67 = .ok (.dup, 1) := by decide +kernel
theorem dX10_takeFigures_68 : decode cX10_takeFigures 68 = .ok (.getfield 27, 3) := by decide +kernel
theorem dX10_takeFigures_71 : decode cX10_takeFigures 71 = .ok (.iconst 1, 1) := by decide +kernel
theorem dX10_takeFigures_72 : decode cX10_takeFigures 72 = .ok (.iadd, 1) := by decide +kernel
theorem dX10_takeFigures_73 : decode cX10_takeFigures 73 = .ok (.putfield 27, 3) := by decide +kernel
theorem dX10_takeFigures_76 : decode cX10_takeFigures 76 = .ok (.goto (-71), 3) := by decide +kernel
theorem dX10_takeFigures_79 : decode cX10_takeFigures 79 = .ok (.aload_n 0, 1) := by decide +kernel
theorem dX10_takeFigures_80 : decode cX10_takeFigures 80 = .ok (.aload_n 0, 1) := by decide +kernel
theorem dX10_takeFigures_81 : decode cX10_takeFigures 81 = .ok (.getfield 27, 3) := by decide +kernel
theorem dX10_takeFigures_84 : decode cX10_takeFigures 84 = .ok (.aload_n 0, 1) := by decide +kernel
theorem dX10_takeFigures_85 : decode cX10_takeFigures 85 = .ok (.getfield 81, 3) := by decide +kernel
theorem dX10_takeFigures_88 : decode cX10_takeFigures 88 = .ok (.isub, 1) := by decide +kernel
theorem dX10_takeFigures_89 : decode cX10_takeFigures 89 = .ok (.iconst 3, 1) := by decide +kernel
theorem dX10_takeFigures_90 : decode cX10_takeFigures 90 = .ok (.if_icmp .gt 7, 3) := by decide +kernel
theorem dX10_takeFigures_93 : decode cX10_takeFigures 93 = .ok (.iconst 4, 1) := by decide +kernel
theorem dX10_takeFigures_94 : decode cX10_takeFigures 94 = .ok (.goto 5, 3) := by decide +kernel
theorem dX10_takeFigures_97 : decode cX10_takeFigures 97 = .ok (.bipush 6, 2) := by decide +kernel
theorem dX10_takeFigures_99 : decode cX10_takeFigures 99 = .ok (.putfield 39, 3) := by decide +kernel
theorem dX10_takeFigures_102 : decode cX10_takeFigures 102 = .ok (.return_, 1) := by decide +kernel
theorem dX10_byteAt_0 : decode cX10_byteAt 0 = .ok (.iload_n 1, 1) := by decide +kernel
theorem dX10_byteAt_1 : decode cX10_byteAt 1 = .ok (.ifCond .lt 19, 3) := by decide +kernel
theorem dX10_byteAt_4 : decode cX10_byteAt 4 = .ok (.iload_n 1, 1) := by decide +kernel
theorem dX10_byteAt_5 : decode cX10_byteAt 5 = .ok (.sipush 150, 3) := by decide +kernel
theorem dX10_byteAt_8 : decode cX10_byteAt 8 = .ok (.if_icmp .ge 12, 3) := by decide +kernel
theorem dX10_byteAt_11 : decode cX10_byteAt 11 = .ok (.aload_n 0, 1) := by decide +kernel
theorem dX10_byteAt_12 : decode cX10_byteAt 12 = .ok (.getfield 9, 3) := by decide +kernel
theorem dX10_byteAt_15 : decode cX10_byteAt 15 = .ok (.iload_n 1, 1) := by decide +kernel
theorem dX10_byteAt_16 : decode cX10_byteAt 16 = .ok (.baload, 1) := by decide +kernel
theorem dX10_byteAt_17 : decode cX10_byteAt 17 = .ok (.goto 4, 3) := by decide +kernel
theorem dX10_byteAt_20 : decode cX10_byteAt 20 = .ok (.iconst (-1), 1) := by decide +kernel
theorem dX10_byteAt_21 : decode cX10_byteAt 21 = .ok (.ireturn, 1) := by decide +kernel
theorem dX10_isLetter_0 : decode cX10_isLetter 0 = .ok (.iload_n 0, 1) := by decide +kernel
theorem dX10_isLetter_1 : decode cX10_isLetter 1 = .ok (.bipush 97, 2) := by decide +kernel
theorem dX10_isLetter_3 : decode cX10_isLetter 3 = .ok (.if_icmp .lt 13, 3) := by decide +kernel
theorem dX10_isLetter_6 : decode cX10_isLetter 6 = .ok (.iload_n 0, 1) := by decide +kernel
theorem dX10_isLetter_7 : decode cX10_isLetter 7 = .ok (.bipush 122, 2) := by decide +kernel
theorem dX10_isLetter_9 : decode cX10_isLetter 9 = .ok (.if_icmp .gt 7, 3) := by decide +kernel
theorem dX10_isLetter_12 : decode cX10_isLetter 12 = .ok (.iconst 1, 1) := by decide +kernel
theorem dX10_isLetter_13 : decode cX10_isLetter 13 = .ok (.goto 4, 3) := by decide +kernel
theorem dX10_isLetter_16 : decode cX10_isLetter 16 = .ok (.iconst 0, 1) := by decide +kernel
theorem dX10_isLetter_17 : decode cX10_isLetter 17 = .ok (.ireturn, 1) := by decide +kernel
theorem dX10_isFigure_0 : decode cX10_isFigure 0 = .ok (.iload_n 0, 1) := by decide +kernel
theorem dX10_isFigure_1 : decode cX10_isFigure 1 = .ok (.bipush 48, 2) := by decide +kernel
theorem dX10_isFigure_3 : decode cX10_isFigure 3 = .ok (.if_icmp .lt 13, 3) := by decide +kernel
theorem dX10_isFigure_6 : decode cX10_isFigure 6 = .ok (.iload_n 0, 1) := by decide +kernel
theorem dX10_isFigure_7 : decode cX10_isFigure 7 = .ok (.bipush 57, 2) := by decide +kernel
theorem dX10_isFigure_9 : decode cX10_isFigure 9 = .ok (.if_icmp .gt 7, 3) := by decide +kernel
theorem dX10_isFigure_12 : decode cX10_isFigure 12 = .ok (.iconst 1, 1) := by decide +kernel
theorem dX10_isFigure_13 : decode cX10_isFigure 13 = .ok (.goto 4, 3) := by decide +kernel
theorem dX10_isFigure_16 : decode cX10_isFigure 16 = .ok (.iconst 0, 1) := by decide +kernel
theorem dX10_isFigure_17 : decode cX10_isFigure 17 = .ok (.ireturn, 1) := by decide +kernel
theorem dJ6_bitCount_0f7a4_0 : decode cJ6_bitCount_0f7a4 0 = .ok (.iload_n 0, 1) := by decide +kernel
theorem dJ6_bitCount_0f7a4_1 : decode cJ6_bitCount_0f7a4 1 = .ok (.iload_n 0, 1) := by decide +kernel
theorem dJ6_bitCount_0f7a4_2 : decode cJ6_bitCount_0f7a4 2 = .ok (.iconst 1, 1) := by decide +kernel
theorem dJ6_bitCount_0f7a4_3 : decode cJ6_bitCount_0f7a4 3 = .ok (.iushr, 1) := by decide +kernel
theorem dJ6_bitCount_0f7a4_4 : decode cJ6_bitCount_0f7a4 4 = .ok (.ldc_w 265, 3) := by decide +kernel
theorem dJ6_bitCount_0f7a4_7 : decode cJ6_bitCount_0f7a4 7 = .ok (.iand, 1) := by decide +kernel
theorem dJ6_bitCount_0f7a4_8 : decode cJ6_bitCount_0f7a4 8 = .ok (.isub, 1) := by decide +kernel
theorem dJ6_bitCount_0f7a4_9 : decode cJ6_bitCount_0f7a4 9 = .ok (.istore_n 0, 1) := by decide +kernel
theorem dJ6_bitCount_0f7a4_10 : decode cJ6_bitCount_0f7a4 10 = .ok (.iload_n 0, 1) := by decide +kernel
theorem dJ6_bitCount_0f7a4_11 : decode cJ6_bitCount_0f7a4 11 = .ok (.ldc_w 266, 3) := by decide +kernel
theorem dJ6_bitCount_0f7a4_14 : decode cJ6_bitCount_0f7a4 14 = .ok (.iand, 1) := by decide +kernel
theorem dJ6_bitCount_0f7a4_15 : decode cJ6_bitCount_0f7a4 15 = .ok (.iload_n 0, 1) := by decide +kernel
theorem dJ6_bitCount_0f7a4_16 : decode cJ6_bitCount_0f7a4 16 = .ok (.iconst 2, 1) := by decide +kernel
theorem dJ6_bitCount_0f7a4_17 : decode cJ6_bitCount_0f7a4 17 = .ok (.iushr, 1) := by decide +kernel
theorem dJ6_bitCount_0f7a4_18 : decode cJ6_bitCount_0f7a4 18 = .ok (.ldc_w 266, 3) := by decide +kernel
theorem dJ6_bitCount_0f7a4_21 : decode cJ6_bitCount_0f7a4 21 = .ok (.iand, 1) := by decide +kernel
theorem dJ6_bitCount_0f7a4_22 : decode cJ6_bitCount_0f7a4 22 = .ok (.iadd, 1) := by decide +kernel
theorem dJ6_bitCount_0f7a4_23 : decode cJ6_bitCount_0f7a4 23 = .ok (.istore_n 0, 1) := by decide +kernel
theorem dJ6_bitCount_0f7a4_24 : decode cJ6_bitCount_0f7a4 24 = .ok (.iload_n 0, 1) := by decide +kernel
theorem dJ6_bitCount_0f7a4_25 : decode cJ6_bitCount_0f7a4 25 = .ok (.iload_n 0, 1) := by decide +kernel
theorem dJ6_bitCount_0f7a4_26 : decode cJ6_bitCount_0f7a4 26 = .ok (.iconst 4, 1) := by decide +kernel
theorem dJ6_bitCount_0f7a4_27 : decode cJ6_bitCount_0f7a4 27 = .ok (.iushr, 1) := by decide +kernel
theorem dJ6_bitCount_0f7a4_28 : decode cJ6_bitCount_0f7a4 28 = .ok (.iadd, 1) := by decide +kernel
theorem dJ6_bitCount_0f7a4_29 : decode cJ6_bitCount_0f7a4 29 = .ok (.ldc_w 267, 3) := by decide +kernel
theorem dJ6_bitCount_0f7a4_32 : decode cJ6_bitCount_0f7a4 32 = .ok (.iand, 1) := by decide +kernel
theorem dJ6_bitCount_0f7a4_33 : decode cJ6_bitCount_0f7a4 33 = .ok (.istore_n 0, 1) := by decide +kernel
theorem dJ6_bitCount_0f7a4_34 : decode cJ6_bitCount_0f7a4 34 = .ok (.iload_n 0, 1) := by decide +kernel
theorem dJ6_bitCount_0f7a4_35 : decode cJ6_bitCount_0f7a4 35 = .ok (.iload_n 0, 1) := by decide +kernel
theorem dJ6_bitCount_0f7a4_36 : decode cJ6_bitCount_0f7a4 36 = .ok (.bipush 8, 2) := by decide +kernel
theorem dJ6_bitCount_0f7a4_38 : decode cJ6_bitCount_0f7a4 38 = .ok (.iushr, 1) := by decide +kernel
theorem dJ6_bitCount_0f7a4_39 : decode cJ6_bitCount_0f7a4 39 = .ok (.iadd, 1) := by decide +kernel
theorem dJ6_bitCount_0f7a4_40 : decode cJ6_bitCount_0f7a4 40 = .ok (.istore_n 0, 1) := by decide +kernel
theorem dJ6_bitCount_0f7a4_41 : decode cJ6_bitCount_0f7a4 41 = .ok (.iload_n 0, 1) := by decide +kernel
theorem dJ6_bitCount_0f7a4_42 : decode cJ6_bitCount_0f7a4 42 = .ok (.iload_n 0, 1) := by decide +kernel
theorem dJ6_bitCount_0f7a4_43 : decode cJ6_bitCount_0f7a4 43 = .ok (.bipush 16, 2) := by decide +kernel
theorem dJ6_bitCount_0f7a4_45 : decode cJ6_bitCount_0f7a4 45 = .ok (.iushr, 1) := by decide +kernel
theorem dJ6_bitCount_0f7a4_46 : decode cJ6_bitCount_0f7a4 46 = .ok (.iadd, 1) := by decide +kernel
theorem dJ6_bitCount_0f7a4_47 : decode cJ6_bitCount_0f7a4 47 = .ok (.istore_n 0, 1) := by decide +kernel
theorem dJ6_bitCount_0f7a4_48 : decode cJ6_bitCount_0f7a4 48 = .ok (.iload_n 0, 1) := by decide +kernel
theorem dJ6_bitCount_0f7a4_49 : decode cJ6_bitCount_0f7a4 49 = .ok (.bipush 63, 2) := by decide +kernel
theorem dJ6_bitCount_0f7a4_51 : decode cJ6_bitCount_0f7a4 51 = .ok (.iand, 1) := by decide +kernel
theorem dJ6_bitCount_0f7a4_52 : decode cJ6_bitCount_0f7a4 52 = .ok (.ireturn, 1) := by decide +kernel
theorem dJ9_abs_067f4_0 : decode cJ9_abs_067f4 0 = .ok (.lload_n 0, 1) := by decide +kernel
theorem dJ9_abs_067f4_1 : decode cJ9_abs_067f4 1 = .ok (.lconst 0, 1) := by decide +kernel
theorem dJ9_abs_067f4_2 : decode cJ9_abs_067f4 2 = .ok (.lcmp, 1) := by decide +kernel
theorem dJ9_abs_067f4_3 : decode cJ9_abs_067f4 3 = .ok (.ifCond .ge 8, 3) := by decide +kernel
theorem dJ9_abs_067f4_6 : decode cJ9_abs_067f4 6 = .ok (.lload_n 0, 1) := by decide +kernel
theorem dJ9_abs_067f4_7 : decode cJ9_abs_067f4 7 = .ok (.lneg, 1) := by decide +kernel
theorem dJ9_abs_067f4_8 : decode cJ9_abs_067f4 8 = .ok (.goto 4, 3) := by decide +kernel
theorem dJ9_abs_067f4_11 : decode cJ9_abs_067f4 11 = .ok (.lload_n 0, 1) := by decide +kernel
theorem dJ9_abs_067f4_12 : decode cJ9_abs_067f4 12 = .ok (.lreturn, 1) := by decide +kernel
theorem dJ9_max_7cf53_0 : decode cJ9_max_7cf53 0 = .ok (.iload_n 0, 1) := by decide +kernel
theorem dJ9_max_7cf53_1 : decode cJ9_max_7cf53 1 = .ok (.iload_n 1, 1) := by decide +kernel
theorem dJ9_max_7cf53_2 : decode cJ9_max_7cf53 2 = .ok (.if_icmp .lt 7, 3) := by decide +kernel
theorem dJ9_max_7cf53_5 : decode cJ9_max_7cf53 5 = .ok (.iload_n 0, 1) := by decide +kernel
theorem dJ9_max_7cf53_6 : decode cJ9_max_7cf53 6 = .ok (.goto 4, 3) := by decide +kernel
theorem dJ9_max_7cf53_9 : decode cJ9_max_7cf53 9 = .ok (.iload_n 1, 1) := by decide +kernel
theorem dJ9_max_7cf53_10 : decode cJ9_max_7cf53 10 = .ok (.ireturn, 1) := by decide +kernel
theorem dJ9_min_7cf53_0 : decode cJ9_min_7cf53 0 = .ok (.iload_n 0, 1) := by decide +kernel
theorem dJ9_min_7cf53_1 : decode cJ9_min_7cf53 1 = .ok (.iload_n 1, 1) := by decide +kernel
theorem dJ9_min_7cf53_2 : decode cJ9_min_7cf53 2 = .ok (.if_icmp .gt 7, 3) := by decide +kernel
theorem dJ9_min_7cf53_5 : decode cJ9_min_7cf53 5 = .ok (.iload_n 0, 1) := by decide +kernel
theorem dJ9_min_7cf53_6 : decode cJ9_min_7cf53 6 = .ok (.goto 4, 3) := by decide +kernel
theorem dJ9_min_7cf53_9 : decode cJ9_min_7cf53 9 = .ok (.iload_n 1, 1) := by decide +kernel
theorem dJ9_min_7cf53_10 : decode cJ9_min_7cf53 10 = .ok (.ireturn, 1) := by decide +kernel
theorem dJ0_length_8abf5_0 : decode cJ0_length_8abf5 0 = .ok (.aload_n 0, 1) := by decide +kernel
theorem dJ0_length_8abf5_1 : decode cJ0_length_8abf5 1 = .ok (.getfield 9, 3) := by decide +kernel
theorem dJ0_length_8abf5_4 : decode cJ0_length_8abf5 4 = .ok (.arraylength, 1) := by decide +kernel
theorem dJ0_length_8abf5_5 : decode cJ0_length_8abf5 5 = .ok (.aload_n 0, 1) := by decide +kernel
theorem dJ0_length_8abf5_6 : decode cJ0_length_8abf5 6 = .ok (.invokevirtual 335, 3) := by decide +kernel
theorem dJ0_length_8abf5_9 : decode cJ0_length_8abf5 9 = .ok (.ishr, 1) := by decide +kernel
theorem dJ0_length_8abf5_10 : decode cJ0_length_8abf5 10 = .ok (.ireturn, 1) := by decide +kernel
theorem dJ0_charAt_5068e_0 : decode cJ0_charAt_5068e 0 = .ok (.aload_n 0, 1) := by decide +kernel
theorem dJ0_charAt_5068e_1 : decode cJ0_charAt_5068e 1 = .ok (.invokevirtual 492, 3) := by decide +kernel
theorem dJ0_charAt_5068e_4 : decode cJ0_charAt_5068e 4 = .ok (.ifCond .eq 12, 3) := by decide +kernel
theorem dJ0_charAt_5068e_7 : decode cJ0_charAt_5068e 7 = .ok (.aload_n 0, 1) := by decide +kernel
theorem dJ0_charAt_5068e_8 : decode cJ0_charAt_5068e 8 = .ok (.getfield 9, 3) := by decide +kernel
theorem dJ0_charAt_5068e_11 : decode cJ0_charAt_5068e 11 = .ok (.iload_n 1, 1) := by decide +kernel
theorem dJ0_charAt_5068e_12 : decode cJ0_charAt_5068e 12 = .ok (.invokestatic 495, 3) := by decide +kernel
theorem dJ0_charAt_5068e_15 : decode cJ0_charAt_5068e 15 = .ok (.ireturn, 1) := by decide +kernel
theorem dJ0_charAt_5068e_16 : decode cJ0_charAt_5068e 16 = .ok (.aload_n 0, 1) := by decide +kernel
theorem dJ0_charAt_5068e_17 : decode cJ0_charAt_5068e 17 = .ok (.getfield 9, 3) := by decide +kernel
theorem dJ0_charAt_5068e_20 : decode cJ0_charAt_5068e 20 = .ok (.iload_n 1, 1) := by decide +kernel
theorem dJ0_charAt_5068e_21 : decode cJ0_charAt_5068e 21 = .ok (.invokestatic 498, 3) := by decide +kernel
theorem dJ0_charAt_5068e_24 : decode cJ0_charAt_5068e 24 = .ok (.ireturn, 1) := by decide +kernel
theorem dJ0_coder_7d493_0 : decode cJ0_coder_7d493 0 = .ok (.getstatic 38, 3) := by decide +kernel
theorem dJ0_coder_7d493_3 : decode cJ0_coder_7d493 3 = .ok (.ifCond .eq 10, 3) := by decide +kernel
theorem dJ0_coder_7d493_6 : decode cJ0_coder_7d493 6 = .ok (.aload_n 0, 1) := by decide +kernel
theorem dJ0_coder_7d493_7 : decode cJ0_coder_7d493 7 = .ok (.getfield 15, 3) := by decide +kernel
theorem dJ0_coder_7d493_10 : decode cJ0_coder_7d493 10 = .ok (.goto 4, 3) := by decide +kernel
theorem dJ0_coder_7d493_13 : decode cJ0_coder_7d493 13 = .ok (.iconst 1, 1) := by decide +kernel
theorem dJ0_coder_7d493_14 : decode cJ0_coder_7d493 14 = .ok (.ireturn, 1) := by decide +kernel
theorem dJ0_isLatin1_aae02_0 : decode cJ0_isLatin1_aae02 0 = .ok (.getstatic 38, 3) := by decide +kernel
theorem dJ0_isLatin1_aae02_3 : decode cJ0_isLatin1_aae02 3 = .ok (.ifCond .eq 14, 3) := by decide +kernel
theorem dJ0_isLatin1_aae02_6 : decode cJ0_isLatin1_aae02 6 = .ok (.aload_n 0, 1) := by decide +kernel
theorem dJ0_isLatin1_aae02_7 : decode cJ0_isLatin1_aae02 7 = .ok (.getfield 15, 3) := by decide +kernel
theorem dJ0_isLatin1_aae02_10 : decode cJ0_isLatin1_aae02 10 = .ok (.ifCond .ne 7, 3) := by decide +kernel
theorem dJ0_isLatin1_aae02_13 : decode cJ0_isLatin1_aae02 13 = .ok (.iconst 1, 1) := by decide +kernel
theorem dJ0_isLatin1_aae02_14 : decode cJ0_isLatin1_aae02 14 = .ok (.goto 4, 3) := by decide +kernel
theorem dJ0_isLatin1_aae02_17 : decode cJ0_isLatin1_aae02 17 = .ok (.iconst 0, 1) := by decide +kernel
theorem dJ0_isLatin1_aae02_18 : decode cJ0_isLatin1_aae02 18 = .ok (.ireturn, 1) := by decide +kernel
theorem dJ0_checkIndex_df160_0 : decode cJ0_checkIndex_df160 0 = .ok (.iload_n 0, 1) := by decide +kernel
theorem dJ0_checkIndex_df160_1 : decode cJ0_checkIndex_df160 1 = .ok (.iload_n 1, 1) := by decide +kernel
theorem dJ0_checkIndex_df160_2 : decode cJ0_checkIndex_df160 2 = .ok (.getstatic 1053, 3) := by decide +kernel
theorem dJ0_checkIndex_df160_5 : decode cJ0_checkIndex_df160 5 = .ok (.invokestatic 1059, 3) := by decide +kernel
theorem dJ0_checkIndex_df160_8 : decode cJ0_checkIndex_df160 8 = .ok (.pop, 1) := by decide +kernel
theorem dJ0_checkIndex_df160_9 : decode cJ0_checkIndex_df160 9 = .ok (.return_, 1) := by decide +kernel
theorem dJ1_charAt_3b067_0 : decode cJ1_charAt_3b067 0 = .ok (.iload_n 1, 1) := by decide +kernel
theorem dJ1_charAt_3b067_1 : decode cJ1_charAt_3b067 1 = .ok (.aload_n 0, 1) := by decide +kernel
theorem dJ1_charAt_3b067_2 : decode cJ1_charAt_3b067 2 = .ok (.arraylength, 1) := by decide +kernel
theorem dJ1_charAt_3b067_3 : decode cJ1_charAt_3b067 3 = .ok (.invokestatic 9, 3) := by decide +kernel
theorem dJ1_charAt_3b067_6 : decode cJ1_charAt_3b067 6 = .ok (.aload_n 0, 1) := by decide +kernel
theorem dJ1_charAt_3b067_7 : decode cJ1_charAt_3b067 7 = .ok (.iload_n 1, 1) := by decide +kernel
theorem dJ1_charAt_3b067_8 : decode cJ1_charAt_3b067 8 = .ok (.baload, 1) := by decide +kernel
theorem dJ1_charAt_3b067_9 : decode cJ1_charAt_3b067 9 = .ok (.sipush 255, 3) := by decide +kernel
theorem dJ1_charAt_3b067_12 : decode cJ1_charAt_3b067 12 = .ok (.iand, 1) := by decide +kernel
theorem dJ1_charAt_3b067_13 : decode cJ1_charAt_3b067 13 = .ok (.i2c, 1) := by decide +kernel
theorem dJ1_charAt_3b067_14 : decode cJ1_charAt_3b067 14 = .ok (.ireturn, 1) := by decide +kernel
theorem dJ2_getChar_3b067_0 : decode cJ2_getChar_3b067 0 = .ok (.getstatic 44, 3) := by decide +kernel
theorem dJ2_getChar_3b067_3 : decode cJ2_getChar_3b067 3 = .ok (.ifCond .ne 25, 3) := by decide +kernel
theorem dJ2_getChar_3b067_6 : decode cJ2_getChar_3b067 6 = .ok (.iload_n 1, 1) := by decide +kernel
theorem dJ2_getChar_3b067_7 : decode cJ2_getChar_3b067 7 = .ok (.ifCond .lt 11, 3) := by decide +kernel
theorem dJ2_getChar_3b067_10 : decode cJ2_getChar_3b067 10 = .ok (.iload_n 1, 1) := by decide +kernel
theorem dJ2_getChar_3b067_11 : decode cJ2_getChar_3b067 11 = .ok (.aload_n 0, 1) := by decide +kernel
theorem dJ2_getChar_3b067_12 : decode cJ2_getChar_3b067 12 = .ok (.invokestatic 48, 3) := by decide +kernel
theorem dJ2_getChar_3b067_15 : decode cJ2_getChar_3b067 15 = .ok (.if_icmp .lt 13, 3) := by decide +kernel
theorem dJ2_getChar_3b067_18 : decode cJ2_getChar_3b067 18 = .ok (.new 52, 3) := by decide +kernel
theorem dJ2_getChar_3b067_21 : decode cJ2_getChar_3b067 21 = .ok (.dup, 1) := by decide +kernel
theorem dJ2_getChar_3b067_22 : decode cJ2_getChar_3b067 22 = .ok (.ldc 54, 2) := by decide +kernel
theorem dJ2_getChar_3b067_24 : decode cJ2_getChar_3b067 24 = .ok (.invokespecial 56, 3) := by decide +kernel
theorem dJ2_getChar_3b067_27 : decode cJ2_getChar_3b067 27 = .ok (.athrow, 1) := by decide +kernel
theorem dJ2_getChar_3b067_28 : decode cJ2_getChar_3b067 28 = .ok (.iload_n 1, 1) := by decide +kernel
theorem dJ2_getChar_3b067_29 : decode cJ2_getChar_3b067 29 = .ok (.iconst 1, 1) := by decide +kernel
theorem dJ2_getChar_3b067_30 : decode cJ2_getChar_3b067 30 = .ok (.ishl, 1) := by decide +kernel
theorem dJ2_getChar_3b067_31 : decode cJ2_getChar_3b067 31 = .ok (.istore_n 1, 1) := by decide +kernel
theorem dJ2_getChar_3b067_32 : decode cJ2_getChar_3b067 32 = .ok (.aload_n 0, 1) := by decide +kernel
theorem dJ2_getChar_3b067_33 : decode cJ2_getChar_3b067 33 = .ok (.iload_n 1, 1) := by decide +kernel
theorem dJ2_getChar_3b067_34 : decode cJ2_getChar_3b067 34 = .ok (.iinc 1 1, 3) := by decide +kernel
theorem dJ2_getChar_3b067_37 : decode cJ2_getChar_3b067 37 = .ok (.baload, 1) := by decide +kernel
theorem dJ2_getChar_3b067_38 : decode cJ2_getChar_3b067 38 = .ok (.sipush 255, 3) := by decide +kernel
theorem dJ2_getChar_3b067_41 : decode cJ2_getChar_3b067 41 = .ok (.iand, 1) := by decide +kernel
theorem dJ2_getChar_3b067_42 : decode cJ2_getChar_3b067 42 = .ok (.getstatic 59, 3) := by decide +kernel
theorem dJ2_getChar_3b067_45 : decode cJ2_getChar_3b067 45 = .ok (.ishl, 1) := by decide +kernel
theorem dJ2_getChar_3b067_46 : decode cJ2_getChar_3b067 46 = .ok (.aload_n 0, 1) := by decide +kernel
theorem dJ2_getChar_3b067_47 : decode cJ2_getChar_3b067 47 = .ok (.iload_n 1, 1) := by decide +kernel
theorem dJ2_getChar_3b067_48 : decode cJ2_getChar_3b067 48 = .ok (.baload, 1) := by decide +kernel
theorem dJ2_getChar_3b067_49 : decode cJ2_getChar_3b067 49 = .ok (.sipush 255, 3) := by decide +kernel
theorem dJ2_getChar_3b067_52 : decode cJ2_getChar_3b067 52 = .ok (.iand, 1) := by decide +kernel
theorem dJ2_getChar_3b067_53 : decode cJ2_getChar_3b067 53 = .ok (.getstatic 63, 3) := by decide +kernel
theorem dJ2_getChar_3b067_56 : decode cJ2_getChar_3b067 56 = .ok (.ishl, 1) := by decide +kernel
theorem dJ2_getChar_3b067_57 : decode cJ2_getChar_3b067 57 = .ok (.ior, 1) := by decide +kernel
theorem dJ2_getChar_3b067_58 : decode cJ2_getChar_3b067 58 = .ok (.i2c, 1) := by decide +kernel
theorem dJ2_getChar_3b067_59 : decode cJ2_getChar_3b067 59 = .ok (.ireturn, 1) := by decide +kernel
theorem dJ2_length_9d52b_0 : decode cJ2_length_9d52b 0 = .ok (.aload_n 0, 1) := by decide +kernel
theorem dJ2_length_9d52b_1 : decode cJ2_length_9d52b 1 = .ok (.arraylength, 1) := by decide +kernel
theorem dJ2_length_9d52b_2 : decode cJ2_length_9d52b 2 = .ok (.iconst 1, 1) := by decide +kernel
theorem dJ2_length_9d52b_3 : decode cJ2_length_9d52b 3 = .ok (.ishr, 1) := by decide +kernel
theorem dJ2_length_9d52b_4 : decode cJ2_length_9d52b 4 = .ok (.ireturn, 1) := by decide +kernel
theorem dJ2_charAt_3b067_0 : decode cJ2_charAt_3b067 0 = .ok (.iload_n 1, 1) := by decide +kernel
theorem dJ2_charAt_3b067_1 : decode cJ2_charAt_3b067 1 = .ok (.aload_n 0, 1) := by decide +kernel
theorem dJ2_charAt_3b067_2 : decode cJ2_charAt_3b067 2 = .ok (.invokestatic 67, 3) := by decide +kernel
theorem dJ2_charAt_3b067_5 : decode cJ2_charAt_3b067 5 = .ok (.aload_n 0, 1) := by decide +kernel
theorem dJ2_charAt_3b067_6 : decode cJ2_charAt_3b067 6 = .ok (.iload_n 1, 1) := by decide +kernel
theorem dJ2_charAt_3b067_7 : decode cJ2_charAt_3b067 7 = .ok (.invokestatic 71, 3) := by decide +kernel
theorem dJ2_charAt_3b067_10 : decode cJ2_charAt_3b067 10 = .ok (.ireturn, 1) := by decide +kernel
theorem dJ2_checkIndex_2214a_0 : decode cJ2_checkIndex_2214a 0 = .ok (.iload_n 0, 1) := by decide +kernel
theorem dJ2_checkIndex_2214a_1 : decode cJ2_checkIndex_2214a 1 = .ok (.aload_n 1, 1) := by decide +kernel
theorem dJ2_checkIndex_2214a_2 : decode cJ2_checkIndex_2214a 2 = .ok (.invokestatic 48, 3) := by decide +kernel
theorem dJ2_checkIndex_2214a_5 : decode cJ2_checkIndex_2214a 5 = .ok (.invokestatic 414, 3) := by decide +kernel
theorem dJ2_checkIndex_2214a_8 : decode cJ2_checkIndex_2214a 8 = .ok (.return_, 1) := by decide +kernel
theorem dJ3_checkIndex_8e157_0 : decode cJ3_checkIndex_8e157 0 = .ok (.iload_n 0, 1) := by decide +kernel
theorem dJ3_checkIndex_8e157_1 : decode cJ3_checkIndex_8e157 1 = .ok (.ifCond .lt 8, 3) := by decide +kernel
theorem dJ3_checkIndex_8e157_4 : decode cJ3_checkIndex_8e157 4 = .ok (.iload_n 0, 1) := by decide +kernel
theorem dJ3_checkIndex_8e157_5 : decode cJ3_checkIndex_8e157 5 = .ok (.iload_n 1, 1) := by decide +kernel
theorem dJ3_checkIndex_8e157_6 : decode cJ3_checkIndex_8e157 6 = .ok (.if_icmp .lt 10, 3) := by decide +kernel
theorem dJ3_checkIndex_8e157_9 : decode cJ3_checkIndex_8e157 9 = .ok (.aload_n 2, 1) := by decide +kernel
theorem dJ3_checkIndex_8e157_10 : decode cJ3_checkIndex_8e157 10 = .ok (.iload_n 0, 1) := by decide +kernel
theorem dJ3_checkIndex_8e157_11 : decode cJ3_checkIndex_8e157 11 = .ok (.iload_n 1, 1) := by decide +kernel
theorem dJ3_checkIndex_8e157_12 : decode cJ3_checkIndex_8e157 12 = .ok (.invokestatic 95, 3) := by decide +kernel
theorem dJ3_checkIndex_8e157_15 : decode cJ3_checkIndex_8e157 15 = .ok (.athrow, 1) := by decide +kernel
theorem dJ3_checkIndex_8e157_16 : decode cJ3_checkIndex_8e157 16 = .ok (.iload_n 0, 1) := by decide +kernel
theorem dJ3_checkIndex_8e157_17 : decode cJ3_checkIndex_8e157 17 = .ok (.ireturn, 1) := by decide +kernel
