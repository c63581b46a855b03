theorem dX11_init_0 : decode cX11_init 0 = .ok (.aload_n 0, 1) := by decide +kernel
theorem dX11_init_1 : decode cX11_init 1 = .ok (.invokespecial 1, 3) := by decide +kernel
theorem dX11_init_4 : decode cX11_init 4 = .ok (.aload_n 0, 1) := by decide +kernel
theorem dX11_init_5 : decode cX11_init 5 = .ok (.new 7, 3) := by decide +kernel
theorem dX11_init_8 : decode cX11_init 8 = .ok (.dup, 1) := by decide +kernel
theorem dX11_init_9 : decode cX11_init 9 = .ok (.invokespecial 9, 3) := by decide +kernel
theorem dX11_init_12 : decode cX11_init 12 = .ok (.putfield 10, 3) := by decide +kernel
theorem dX11_init_15 : decode cX11_init 15 = .ok (.aload_n 0, 1) := by decide +kernel
theorem dX11_init_16 : decode cX11_init 16 = .ok (.new 7, 3) := by decide +kernel
theorem dX11_init_19 : decode cX11_init 19 = .ok (.dup, 1) := by decide +kernel
theorem dX11_init_20 : decode cX11_init 20 = .ok (.invokespecial 9, 3) := by decide +kernel
theorem dX11_init_23 : decode cX11_init 23 = .ok (.putfield 16, 3) := by decide +kernel
theorem dX11_init_26 : decode cX11_init 26 = .ok (.aload_n 0, 1) := by decide +kernel
theorem dX11_init_27 : decode cX11_init 27 = .ok (.iconst 2, 1) := by decide +kernel
theorem dX11_init_28 : decode cX11_init 28 = .ok (.anewarray 7, 3) := by decide +kernel
theorem dX11_init_31 : decode cX11_init 31 = .ok (.putfield 19, 3) := by decide +kernel
theorem dX11_init_34 : decode cX11_init 34 = .ok (.iconst 0, 1) := by decide +kernel
theorem dX11_init_35 : decode cX11_init 35 = .ok (.istore_n 1, 1) := by decide +kernel
theorem dX11_init_36 : decode cX11_init 36 = .ok (.iload_n 1, 1) := by decide +kernel
theorem dX11_init_37 : decode cX11_init 37 = .ok (.iconst 2, 1) := by decide +kernel
theorem dX11_init_38 : decode cX11_init 38 = .ok (.if_icmp .ge 22, 3) := by decide +kernel
theorem dX11_init_41 : decode cX11_init 41 = .ok (.aload_n 0, 1) := by decide +kernel
theorem dX11_init_42 : decode cX11_init 42 = .ok (.getfield 19, 3) := by decide +kernel
theorem dX11_init_45 : decode cX11_init 45 = .ok (.iload_n 1, 1) := by decide +kernel
theorem dX11_init_46 : decode cX11_init 46 = .ok (.new 7, 3) := by decide +kernel
theorem dX11_init_49 : decode cX11_init 49 = .ok (.dup, 1) := by decide +kernel
theorem dX11_init_50 : decode cX11_init 50 = .ok (.invokespecial 9, 3) := by decide +kernel
theorem dX11_init_53 : decode cX11_init 53 = .ok (.aastore, 1) := by decide +kernel
theorem dX11_init_54 : decode cX11_init 54 = .ok (.iinc 1 1, 3) := by decide +kernel
theorem dX11_init_57 : decode cX11_init 57 = .ok (.goto (-21), 3) := by decide +kernel
theorem dX11_init_60 : decode cX11_init 60 = .ok (.aload_n 0, 1) := by decide +kernel
theorem dX11_init_61 : decode cX11_init 61 = .ok (.new 23, 3) := by decide +kernel
theorem dX11_init_64 : decode cX11_init 64 = .ok (.dup, 1) := by decide +kernel
theorem dX11_init_65 : decode cX11_init 65 = .ok (.invokespecial 25, 3) := by decide +kernel
theorem dX11_init_68 : decode cX11_init 68 = .ok (.putfield 26, 3) := by decide +kernel
theorem dX11_init_71 : decode cX11_init 71 = .ok (.aload_n 0, 1) := by decide +kernel
theorem dX11_init_72 : decode cX11_init 72 = .ok (.new 30, 3) := by decide +kernel
theorem dX11_init_75 : decode cX11_init 75 = .ok (.dup, 1) := by decide +kernel
theorem dX11_init_76 : decode cX11_init 76 = .ok (.invokespecial 32, 3) := by decide +kernel
theorem dX11_init_79 : decode cX11_init 79 = .ok (.putfield 33, 3) := by decide +kernel
theorem dX11_init_82 : decode cX11_init 82 = .ok (.aload_n 0, 1) := by decide +kernel
theorem dX11_init_83 : decode cX11_init 83 = .ok (.new 37, 3) := by decide +kernel
theorem dX11_init_86 : decode cX11_init 86 = .ok (.dup, 1) := by decide +kernel
theorem dX11_init_87 : decode cX11_init 87 = .ok (.invokespecial 39, 3) := by decide +kernel
theorem dX11_init_90 : decode cX11_init 90 = .ok (.putfield 40, 3) := by decide +kernel
theorem dX11_init_93 : decode cX11_init 93 = .ok (.aload_n 0, 1) := by decide +kernel
theorem dX11_init_94 : decode cX11_init 94 = .ok (.new 44, 3) := by decide +kernel
theorem dX11_init_97 : decode cX11_init 97 = .ok (.dup, 1) := by decide +kernel
theorem dX11_init_98 : decode cX11_init 98 = .ok (.invokespecial 46, 3) := by decide +kernel
theorem dX11_init_101 : decode cX11_init 101 = .ok (.putfield 47, 3) := by decide +kernel
theorem dX11_init_104 : decode cX11_init 104 = .ok (.aload_n 0, 1) := by decide +kernel
theorem dX11_init_105 : decode cX11_init 105 = .ok (.getstatic 51, 3) := by decide +kernel
theorem dX11_init_108 : decode cX11_init 108 = .ok (.arraylength, 1) := by decide +kernel
theorem dX11_init_109 : decode cX11_init 109 = .ok (.newarray .int, 2) := by decide +kernel
theorem dX11_init_111 : decode cX11_init 111 = .ok (.putfield 55, 3) := by decide +kernel
theorem dX11_init_114 : decode cX11_init 114 = .ok (.aload_n 0, 1) := by decide +kernel
theorem dX11_init_115 : decode cX11_init 115 = .ok (.bipush 6, 2) := by decide +kernel
theorem dX11_init_117 : decode cX11_init 117 = .ok (.newarray .int, 2) := by decide +kernel
theorem dX11_init_119 : decode cX11_init 119 = .ok (.putfield 58, 3) := by decide +kernel
theorem dX11_init_122 : decode cX11_init 122 = .ok (.aload_n 0, 1) := by decide +kernel
theorem dX11_init_123 : decode cX11_init 123 = .ok (.iconst 3, 1) := by decide +kernel
theorem dX11_init_124 : decode cX11_init 124 = .ok (.newarray .int, 2) := by decide +kernel
theorem dX11_init_126 : decode cX11_init 126 = .ok (.putfield 61, 3) := by decide +kernel
theorem dX11_init_129 : decode cX11_init 129 = .ok (.return_, 1) := by decide +kernel
theorem dX11_ship_0 : decode cX11_ship 0 = .ok (.aload_n 0, 1) := by decide +kernel
theorem dX11_ship_1 : decode cX11_ship 1 = .ok (.getfield 55, 3) := by decide +kernel
theorem dX11_ship_4 : decode cX11_ship 4 = .ok (.iconst 0, 1) := by decide +kernel
theorem dX11_ship_5 : decode cX11_ship 5 = .ok (.iload_n 1, 1) := by decide +kernel
theorem dX11_ship_6 : decode cX11_ship 6 = .ok (.iastore, 1) := by decide +kernel
theorem dX11_ship_7 : decode cX11_ship 7 = .ok (.aload_n 0, 1) := by decide +kernel
theorem dX11_ship_8 : decode cX11_ship 8 = .ok (.getfield 55, 3) := by decide +kernel
theorem dX11_ship_11 : decode cX11_ship 11 = .ok (.iconst 1, 1) := by decide +kernel
theorem dX11_ship_12 : decode cX11_ship 12 = .ok (.iload_n 2, 1) := by decide +kernel
theorem dX11_ship_13 : decode cX11_ship 13 = .ok (.iastore, 1) := by decide +kernel
theorem dX11_ship_14 : decode cX11_ship 14 = .ok (.aload_n 0, 1) := by decide +kernel
theorem dX11_ship_15 : decode cX11_ship 15 = .ok (.getfield 55, 3) := by decide +kernel
theorem dX11_ship_18 : decode cX11_ship 18 = .ok (.getstatic 64, 3) := by decide +kernel
theorem dX11_ship_21 : decode cX11_ship 21 = .ok (.getstatic 51, 3) := by decide +kernel
theorem dX11_ship_24 : decode cX11_ship 24 = .ok (.invokestatic 67, 3) := by decide +kernel
theorem dX11_ship_27 : decode cX11_ship 27 = .ok (.ifCond .ne 10, 3) := by decide +kernel
theorem dX11_ship_30 : decode cX11_ship 30 = .ok (.aload_n 0, 1) := by decide +kernel
theorem dX11_ship_31 : decode cX11_ship 31 = .ok (.bipush (-2), 2) := by decide +kernel
theorem dX11_ship_33 : decode cX11_ship 33 = .ok (.invokevirtual 71, 3) := by decide +kernel
theorem dX11_ship_36 : decode cX11_ship 36 = .ok (.ireturn, 1) := by decide +kernel
theorem dX11_ship_37 : decode cX11_ship 37 = .ok (.aload_n 0, 1) := by decide +kernel
theorem dX11_ship_38 : decode cX11_ship 38 = .ok (.getfield 10, 3) := by decide +kernel
theorem dX11_ship_41 : decode cX11_ship 41 = .ok (.getfield 75, 3) := by decide +kernel
theorem dX11_ship_44 : decode cX11_ship 44 = .ok (.istore_n 3, 1) := by decide +kernel
theorem dX11_ship_45 : decode cX11_ship 45 = .ok (.aload_n 0, 1) := by decide +kernel
theorem dX11_ship_46 : decode cX11_ship 46 = .ok (.getfield 10, 3) := by decide +kernel
theorem dX11_ship_49 : decode cX11_ship 49 = .ok (.iload_n 1, 1) := by decide +kernel
theorem dX11_ship_50 : decode cX11_ship 50 = .ok (.iload_n 2, 1) := by decide +kernel
theorem dX11_ship_51 : decode cX11_ship 51 = .ok (.invokevirtual 79, 3) := by decide +kernel
theorem dX11_ship_54 : decode cX11_ship 54 = .ok (.iload_n 3, 1) := by decide +kernel
theorem dX11_ship_55 : decode cX11_ship 55 = .ok (.ireturn, 1) := by decide +kernel
theorem dX11_goods_0 : decode cX11_goods 0 = .ok (.aload_n 0, 1) := by decide +kernel
theorem dX11_goods_1 : decode cX11_goods 1 = .ok (.getfield 58, 3) := by decide +kernel
theorem dX11_goods_4 : decode cX11_goods 4 = .ok (.iconst 0, 1) := by decide +kernel
theorem dX11_goods_5 : decode cX11_goods 5 = .ok (.iload_n 1, 1) := by decide +kernel
theorem dX11_goods_6 : decode cX11_goods 6 = .ok (.iastore, 1) := by decide +kernel
theorem dX11_goods_7 : decode cX11_goods 7 = .ok (.aload_n 0, 1) := by decide +kernel
theorem dX11_goods_8 : decode cX11_goods 8 = .ok (.getfield 58, 3) := by decide +kernel
theorem dX11_goods_11 : decode cX11_goods 11 = .ok (.iconst 1, 1) := by decide +kernel
theorem dX11_goods_12 : decode cX11_goods 12 = .ok (.iload_n 2, 1) := by decide +kernel
theorem dX11_goods_13 : decode cX11_goods 13 = .ok (.iastore, 1) := by decide +kernel
theorem dX11_goods_14 : decode cX11_goods 14 = .ok (.aload_n 0, 1) := by decide +kernel
theorem dX11_goods_15 : decode cX11_goods 15 = .ok (.getfield 58, 3) := by decide +kernel
theorem dX11_goods_18 : decode cX11_goods 18 = .ok (.iconst 2, 1) := by decide +kernel
theorem dX11_goods_19 : decode cX11_goods 19 = .ok (.iload_n 3, 1) := by decide +kernel
theorem dX11_goods_20 : decode cX11_goods 20 = .ok (.iastore, 1) := by decide +kernel
theorem dX11_goods_21 : decode cX11_goods 21 = .ok (.aload_n 0, 1) := by decide +kernel
theorem dX11_goods_22 : decode cX11_goods 22 = .ok (.getfield 58, 3) := by decide +kernel
theorem dX11_goods_25 : decode cX11_goods 25 = .ok (.iconst 3, 1) := by decide +kernel
theorem dX11_goods_26 : decode cX11_goods 26 = .ok (.iload 4, 2) := by decide +kernel
theorem dX11_goods_28 : decode cX11_goods 28 = .ok (.iastore, 1) := by decide +kernel
theorem dX11_goods_29 : decode cX11_goods 29 = .ok (.aload_n 0, 1) := by decide +kernel
theorem dX11_goods_30 : decode cX11_goods 30 = .ok (.getfield 58, 3) := by decide +kernel
theorem dX11_goods_33 : decode cX11_goods 33 = .ok (.iconst 4, 1) := by decide +kernel
theorem dX11_goods_34 : decode cX11_goods 34 = .ok (.iload 5, 2) := by decide +kernel
theorem dX11_goods_36 : decode cX11_goods 36 = .ok (.iastore, 1) := by decide +kernel
theorem dX11_goods_37 : decode cX11_goods 37 = .ok (.aload_n 0, 1) := by decide +kernel
theorem dX11_goods_38 : decode cX11_goods 38 = .ok (.getfield 58, 3) := by decide +kernel
theorem dX11_goods_41 : decode cX11_goods 41 = .ok (.iconst 5, 1) := by decide +kernel
theorem dX11_goods_42 : decode cX11_goods 42 = .ok (.iload 6, 2) := by decide +kernel
theorem dX11_goods_44 : decode cX11_goods 44 = .ok (.iastore, 1) := by decide +kernel
theorem dX11_goods_45 : decode cX11_goods 45 = .ok (.aload_n 0, 1) := by decide +kernel
theorem dX11_goods_46 : decode cX11_goods 46 = .ok (.getfield 58, 3) := by decide +kernel
theorem dX11_goods_49 : decode cX11_goods 49 = .ok (.getstatic 83, 3) := by decide +kernel
theorem dX11_goods_52 : decode cX11_goods 52 = .ok (.getstatic 86, 3) := by decide +kernel
theorem dX11_goods_55 : decode cX11_goods 55 = .ok (.invokestatic 67, 3) := by decide +kernel
theorem dX11_goods_58 : decode cX11_goods 58 = .ok (.ifCond .ne 10, 3) := by decide +kernel
theorem dX11_goods_61 : decode cX11_goods 61 = .ok (.aload_n 0, 1) := by decide +kernel
theorem dX11_goods_62 : decode cX11_goods 62 = .ok (.bipush (-2), 2) := by decide +kernel
theorem dX11_goods_64 : decode cX11_goods 64 = .ok (.invokevirtual 71, 3) := by decide +kernel
theorem dX11_goods_67 : decode cX11_goods 67 = .ok (.ireturn, 1) := by decide +kernel
theorem dX11_goods_68 : decode cX11_goods 68 = .ok (.aload_n 0, 1) := by decide +kernel
theorem dX11_goods_69 : decode cX11_goods 69 = .ok (.getfield 10, 3) := by decide +kernel
theorem dX11_goods_72 : decode cX11_goods 72 = .ok (.aload_n 0, 1) := by decide +kernel
theorem dX11_goods_73 : decode cX11_goods 73 = .ok (.getfield 58, 3) := by decide +kernel
theorem dX11_goods_76 : decode cX11_goods 76 = .ok (.invokevirtual 89, 3) := by decide +kernel
theorem dX11_goods_79 : decode cX11_goods 79 = .ok (.istore 7, 2) := by decide +kernel
theorem dX11_goods_81 : decode cX11_goods 81 = .ok (.iload 7, 2) := by decide +kernel
theorem dX11_goods_83 : decode cX11_goods 83 = .ok (.iconst (-1), 1) := by decide +kernel
theorem dX11_goods_84 : decode cX11_goods 84 = .ok (.if_icmp .ne 12, 3) := by decide +kernel
theorem dX11_goods_87 : decode cX11_goods 87 = .ok (.aload_n 0, 1) := by decide +kernel
theorem dX11_goods_88 : decode cX11_goods 88 = .ok (.bipush (-4), 2) := by decide +kernel
theorem dX11_goods_90 : decode cX11_goods 90 = .ok (.invokevirtual 71, 3) := by decide +kernel
theorem dX11_goods_93 : decode cX11_goods 93 = .ok (.goto 5, 3) := by decide +kernel
theorem dX11_goods_96 : decode cX11_goods 96 = .ok (.iload 7, 2) := by decide +kernel
theorem dX11_goods_98 : decode cX11_goods 98 = .ok (.ireturn, 1) := by decide +kernel
theorem dX11_tells_0 : decode cX11_tells 0 = .ok (.aload_n 0, 1) := by decide +kernel
theorem dX11_tells_1 : decode cX11_tells 1 = .ok (.getfield 10, 3) := by decide +kernel
theorem dX11_tells_4 : decode cX11_tells 4 = .ok (.iload_n 1, 1) := by decide +kernel
theorem dX11_tells_5 : decode cX11_tells 5 = .ok (.invokevirtual 93, 3) := by decide +kernel
theorem dX11_tells_8 : decode cX11_tells 8 = .ok (.ifCond .eq 13, 3) := by decide +kernel
theorem dX11_tells_11 : decode cX11_tells 11 = .ok (.iload_n 2, 1) := by decide +kernel
theorem dX11_tells_12 : decode cX11_tells 12 = .ok (.iconst 0, 1) := by decide +kernel
theorem dX11_tells_13 : decode cX11_tells 13 = .ok (.bipush 60, 2) := by decide +kernel
theorem dX11_tells_15 : decode cX11_tells 15 = .ok (.invokestatic 97, 3) := by decide +kernel
theorem dX11_tells_18 : decode cX11_tells 18 = .ok (.ifCond .ne 10, 3) := by decide +kernel
theorem dX11_tells_21 : decode cX11_tells 21 = .ok (.aload_n 0, 1) := by decide +kernel
theorem dX11_tells_22 : decode cX11_tells 22 = .ok (.bipush (-2), 2) := by decide +kernel
theorem dX11_tells_24 : decode cX11_tells 24 = .ok (.invokevirtual 71, 3) := by decide +kernel
theorem dX11_tells_27 : decode cX11_tells 27 = .ok (.ireturn, 1) := by decide +kernel
theorem dX11_tells_28 : decode cX11_tells 28 = .ok (.aload_n 0, 1) := by decide +kernel
theorem dX11_tells_29 : decode cX11_tells 29 = .ok (.getfield 10, 3) := by decide +kernel
theorem dX11_tells_32 : decode cX11_tells 32 = .ok (.iload_n 1, 1) := by decide +kernel
theorem dX11_tells_33 : decode cX11_tells 33 = .ok (.iconst 5, 1) := by decide +kernel
theorem dX11_tells_34 : decode cX11_tells 34 = .ok (.invokevirtual 101, 3) := by decide +kernel
theorem dX11_tells_37 : decode cX11_tells 37 = .ok (.istore_n 3, 1) := by decide +kernel
theorem dX11_tells_38 : decode cX11_tells 38 = .ok (.aload_n 0, 1) := by decide +kernel
theorem dX11_tells_39 : decode cX11_tells 39 = .ok (.getfield 10, 3) := by decide +kernel
theorem dX11_tells_42 : decode cX11_tells 42 = .ok (.iload_n 1, 1) := by decide +kernel
theorem dX11_tells_43 : decode cX11_tells 43 = .ok (.iload_n 2, 1) := by decide +kernel
theorem dX11_tells_44 : decode cX11_tells 44 = .ok (.invokevirtual 105, 3) := by decide +kernel
theorem dX11_tells_47 : decode cX11_tells 47 = .ok (.iload_n 3, 1) := by decide +kernel
theorem dX11_tells_48 : decode cX11_tells 48 = .ok (.ireturn, 1) := by decide +kernel
theorem dX11_type_0 : decode cX11_type 0 = .ok (.iload_n 1, 1) := by decide +kernel
theorem dX11_type_1 : decode cX11_type 1 = .ok (.iconst 0, 1) := by decide +kernel
theorem dX11_type_2 : decode cX11_type 2 = .ok (.bipush 127, 2) := by decide +kernel
theorem dX11_type_4 : decode cX11_type 4 = .ok (.invokestatic 97, 3) := by decide +kernel
theorem dX11_type_7 : decode cX11_type 7 = .ok (.ifCond .ne 10, 3) := by decide +kernel
theorem dX11_type_10 : decode cX11_type 10 = .ok (.aload_n 0, 1) := by decide +kernel
theorem dX11_type_11 : decode cX11_type 11 = .ok (.bipush (-2), 2) := by decide +kernel
theorem dX11_type_13 : decode cX11_type 13 = .ok (.invokevirtual 71, 3) := by decide +kernel
theorem dX11_type_16 : decode cX11_type 16 = .ok (.ireturn, 1) := by decide +kernel
theorem dX11_type_17 : decode cX11_type 17 = .ok (.aload_n 0, 1) := by decide +kernel
theorem dX11_type_18 : decode cX11_type 18 = .ok (.getfield 26, 3) := by decide +kernel
theorem dX11_type_21 : decode cX11_type 21 = .ok (.iload_n 1, 1) := by decide +kernel
theorem dX11_type_22 : decode cX11_type 22 = .ok (.invokevirtual 108, 3) := by decide +kernel
theorem dX11_type_25 : decode cX11_type 25 = .ok (.ifCond .eq 13, 3) := by decide +kernel
theorem dX11_type_28 : decode cX11_type 28 = .ok (.aload_n 0, 1) := by decide +kernel
theorem dX11_type_29 : decode cX11_type 29 = .ok (.getfield 26, 3) := by decide +kernel
theorem dX11_type_32 : decode cX11_type 32 = .ok (.getfield 111, 3) := by decide +kernel
theorem dX11_type_35 : decode cX11_type 35 = .ok (.goto 9, 3) := by decide +kernel
theorem dX11_type_38 : decode cX11_type 38 = .ok (.aload_n 0, 1) := by decide +kernel
theorem dX11_type_39 : decode cX11_type 39 = .ok (.bipush (-4), 2) := by decide +kernel
theorem dX11_type_41 : decode cX11_type 41 = .ok (.invokevirtual 71, 3) := by decide +kernel
theorem dX11_type_44 : decode cX11_type 44 = .ok (.ireturn, 1) := by decide +kernel
theorem dX11_clear_0 : decode cX11_clear 0 = .ok (.aload_n 0, 1) := by decide +kernel
theorem dX11_clear_1 : decode cX11_clear 1 = .ok (.getfield 26, 3) := by decide +kernel
theorem dX11_clear_4 : decode cX11_clear 4 = .ok (.getfield 111, 3) := by decide +kernel
theorem dX11_clear_7 : decode cX11_clear 7 = .ok (.istore_n 1, 1) := by decide +kernel
theorem dX11_clear_8 : decode cX11_clear 8 = .ok (.aload_n 0, 1) := by decide +kernel
theorem dX11_clear_9 : decode cX11_clear 9 = .ok (.getfield 26, 3) := by decide +kernel
theorem dX11_clear_12 : decode cX11_clear 12 = .ok (.iconst 0, 1) := by decide +kernel
theorem dX11_clear_13 : decode cX11_clear 13 = .ok (.putfield 111, 3) := by decide +kernel
theorem dX11_clear_16 : decode cX11_clear 16 = .ok (.iload_n 1, 1) := by decide +kernel
theorem dX11_clear_17 : decode cX11_clear 17 = .ok (.ireturn, 1) := by decide +kernel
theorem dX11_read_0 : decode cX11_read 0 = .ok (.aload_n 0, 1) := by decide +kernel
theorem dX11_read_1 : decode cX11_read 1 = .ok (.getfield 26, 3) := by decide +kernel
theorem dX11_read_4 : decode cX11_read 4 = .ok (.aload_n 0, 1) := by decide +kernel
theorem dX11_read_5 : decode cX11_read 5 = .ok (.getfield 16, 3) := by decide +kernel
theorem dX11_read_8 : decode cX11_read 8 = .ok (.invokevirtual 114, 3) := by decide +kernel
theorem dX11_read_11 : decode cX11_read 11 = .ok (.istore_n 1, 1) := by decide +kernel
theorem dX11_read_12 : decode cX11_read 12 = .ok (.iload_n 1, 1) := by decide +kernel
theorem dX11_read_13 : decode cX11_read 13 = .ok (.ifCond .lt 22, 3) := by decide +kernel
theorem dX11_read_16 : decode cX11_read 16 = .ok (.aload_n 0, 1) := by decide +kernel
theorem dX11_read_17 : decode cX11_read 17 = .ok (.getfield 16, 3) := by decide +kernel
theorem dX11_read_20 : decode cX11_read 20 = .ok (.iconst 0, 1) := by decide +kernel
theorem dX11_read_21 : decode cX11_read 21 = .ok (.putfield 118, 3) := by decide +kernel
theorem dX11_read_24 : decode cX11_read 24 = .ok (.aload_n 0, 1) := by decide +kernel
theorem dX11_read_25 : decode cX11_read 25 = .ok (.getfield 10, 3) := by decide +kernel
theorem dX11_read_28 : decode cX11_read 28 = .ok (.aload_n 0, 1) := by decide +kernel
theorem dX11_read_29 : decode cX11_read 29 = .ok (.getfield 16, 3) := by decide +kernel
theorem dX11_read_32 : decode cX11_read 32 = .ok (.invokevirtual 121, 3) := by decide +kernel
theorem dX11_read_35 : decode cX11_read 35 = .ok (.iload_n 1, 1) := by decide +kernel
theorem dX11_read_36 : decode cX11_read 36 = .ok (.ireturn, 1) := by decide +kernel
theorem dX11_over_0 : decode cX11_over 0 = .ok (.aload_n 0, 1) := by decide +kernel
theorem dX11_over_1 : decode cX11_over 1 = .ok (.getfield 10, 3) := by decide +kernel
theorem dX11_over_4 : decode cX11_over 4 = .ok (.iload_n 1, 1) := by decide +kernel
theorem dX11_over_5 : decode cX11_over 5 = .ok (.invokevirtual 93, 3) := by decide +kernel
theorem dX11_over_8 : decode cX11_over 8 = .ok (.ifCond .ne 10, 3) := by decide +kernel
theorem dX11_over_11 : decode cX11_over 11 = .ok (.aload_n 0, 1) := by decide +kernel
theorem dX11_over_12 : decode cX11_over 12 = .ok (.bipush (-2), 2) := by decide +kernel
theorem dX11_over_14 : decode cX11_over 14 = .ok (.invokevirtual 71, 3) := by decide +kernel
theorem dX11_over_17 : decode cX11_over 17 = .ok (.ireturn, 1) := by decide +kernel
theorem dX11_over_18 : decode cX11_over 18 = .ok (.aload_n 0, 1) := by decide +kernel
theorem dX11_over_19 : decode cX11_over 19 = .ok (.getfield 10, 3) := by decide +kernel
theorem dX11_over_22 : decode cX11_over 22 = .ok (.iload_n 1, 1) := by decide +kernel
theorem dX11_over_23 : decode cX11_over 23 = .ok (.aload_n 0, 1) := by decide +kernel
theorem dX11_over_24 : decode cX11_over 24 = .ok (.getfield 10, 3) := by decide +kernel
theorem dX11_over_27 : decode cX11_over 27 = .ok (.getfield 125, 3) := by decide +kernel
theorem dX11_over_30 : decode cX11_over 30 = .ok (.invokevirtual 128, 3) := by decide +kernel
theorem dX11_over_33 : decode cX11_over 33 = .ok (.ifCond .ne 10, 3) := by decide +kernel
theorem dX11_over_36 : decode cX11_over 36 = .ok (.aload_n 0, 1) := by decide +kernel
theorem dX11_over_37 : decode cX11_over 37 = .ok (.bipush (-3), 2) := by decide +kernel
theorem dX11_over_39 : decode cX11_over 39 = .ok (.invokevirtual 71, 3) := by decide +kernel
theorem dX11_over_42 : decode cX11_over 42 = .ok (.ireturn, 1) := by decide +kernel
theorem dX11_over_43 : decode cX11_over 43 = .ok (.aload_n 0, 1) := by decide +kernel
theorem dX11_over_44 : decode cX11_over 44 = .ok (.getfield 10, 3) := by decide +kernel
theorem dX11_over_47 : decode cX11_over 47 = .ok (.iload_n 1, 1) := by decide +kernel
theorem dX11_over_48 : decode cX11_over 48 = .ok (.invokevirtual 132, 3) := by decide +kernel
theorem dX11_over_51 : decode cX11_over 51 = .ok (.aload_n 0, 1) := by decide +kernel
theorem dX11_over_52 : decode cX11_over 52 = .ok (.getfield 33, 3) := by decide +kernel
theorem dX11_over_55 : decode cX11_over 55 = .ok (.aload_n 0, 1) := by decide +kernel
theorem dX11_over_56 : decode cX11_over 56 = .ok (.getfield 10, 3) := by decide +kernel
theorem dX11_over_59 : decode cX11_over 59 = .ok (.iload_n 1, 1) := by decide +kernel
theorem dX11_over_60 : decode cX11_over 60 = .ok (.invokevirtual 136, 3) := by decide +kernel
theorem dX11_over_63 : decode cX11_over 63 = .ok (.ireturn, 1) := by decide +kernel
theorem dX11_undo_0 : decode cX11_undo 0 = .ok (.aload_n 0, 1) := by decide +kernel
theorem dX11_undo_1 : decode cX11_undo 1 = .ok (.getfield 10, 3) := by decide +kernel
theorem dX11_undo_4 : decode cX11_undo 4 = .ok (.invokevirtual 140, 3) := by decide +kernel
theorem dX11_undo_7 : decode cX11_undo 7 = .ok (.ifCond .eq 16, 3) := by decide +kernel
theorem dX11_undo_10 : decode cX11_undo 10 = .ok (.aload_n 0, 1) := by decide +kernel
theorem dX11_undo_11 : decode cX11_undo 11 = .ok (.getfield 10, 3) := by decide +kernel
theorem dX11_undo_14 : decode cX11_undo 14 = .ok (.getfield 125, 3) := by decide +kernel
theorem dX11_undo_17 : decode cX11_undo 17 = .ok (.invokestatic 144, 3) := by decide +kernel
theorem dX11_undo_20 : decode cX11_undo 20 = .ok (.goto 9, 3) := by decide +kernel
theorem dX11_undo_23 : decode cX11_undo 23 = .ok (.aload_n 0, 1) := by decide +kernel
theorem dX11_undo_24 : decode cX11_undo 24 = .ok (.bipush (-3), 2) := by decide +kernel
theorem dX11_undo_26 : decode cX11_undo 26 = .ok (.invokevirtual 71, 3) := by decide +kernel
theorem dX11_undo_29 : decode cX11_undo 29 = .ok (.ireturn, 1) := by decide +kernel
theorem dX11_of_0 : decode cX11_of 0 = .ok (.aload_n 0, 1) := by decide +kernel
theorem dX11_of_1 : decode cX11_of 1 = .ok (.getfield 10, 3) := by decide +kernel
theorem dX11_of_4 : decode cX11_of 4 = .ok (.iload_n 1, 1) := by decide +kernel
theorem dX11_of_5 : decode cX11_of 5 = .ok (.invokevirtual 93, 3) := by decide +kernel
theorem dX11_of_8 : decode cX11_of 8 = .ok (.ifCond .eq 13, 3) := by decide +kernel
theorem dX11_of_11 : decode cX11_of 11 = .ok (.iload_n 2, 1) := by decide +kernel
theorem dX11_of_12 : decode cX11_of 12 = .ok (.iconst 0, 1) := by decide +kernel
theorem dX11_of_13 : decode cX11_of 13 = .ok (.bipush 7, 2) := by decide +kernel
theorem dX11_of_15 : decode cX11_of 15 = .ok (.invokestatic 97, 3) := by decide +kernel
theorem dX11_of_18 : decode cX11_of 18 = .ok (.ifCond .ne 10, 3) := by decide +kernel
theorem dX11_of_21 : decode cX11_of 21 = .ok (.aload_n 0, 1) := by decide +kernel
theorem dX11_of_22 : decode cX11_of 22 = .ok (.bipush (-2), 2) := by decide +kernel
theorem dX11_of_24 : decode cX11_of 24 = .ok (.invokevirtual 71, 3) := by decide +kernel
theorem dX11_of_27 : decode cX11_of 27 = .ok (.ireturn, 1) := by decide +kernel
theorem dX11_of_28 : decode cX11_of 28 = .ok (.iload_n 2, 1) := by decide +kernel
theorem dX11_of_29 : decode cX11_of 29 = .ok (.bipush 6, 2) := by decide +kernel
theorem dX11_of_31 : decode cX11_of 31 = .ok (.if_icmp .ne 23, 3) := by decide +kernel
theorem dX11_of_34 : decode cX11_of 34 = .ok (.aload_n 0, 1) := by decide +kernel
theorem dX11_of_35 : decode cX11_of 35 = .ok (.getfield 10, 3) := by decide +kernel
theorem dX11_of_38 : decode cX11_of 38 = .ok (.getfield 125, 3) := by decide +kernel
theorem dX11_of_41 : decode cX11_of 41 = .ok (.iload_n 1, 1) := by decide +kernel
theorem dX11_of_42 : decode cX11_of 42 = .ok (.invokestatic 149, 3) := by decide +kernel
theorem dX11_of_45 : decode cX11_of 45 = .ok (.ifCond .eq 7, 3) := by decide +kernel
theorem dX11_of_48 : decode cX11_of 48 = .ok (.iconst 1, 1) := by decide +kernel
theorem dX11_of_49 : decode cX11_of 49 = .ok (.goto 4, 3) := by decide +kernel
theorem dX11_of_52 : decode cX11_of 52 = .ok (.iconst 0, 1) := by decide +kernel
theorem dX11_of_53 : decode cX11_of 53 = .ok (.ireturn, 1) := by decide +kernel
theorem dX11_of_54 : decode cX11_of 54 = .ok (.iload_n 2, 1) := by decide +kernel
theorem dX11_of_55 : decode cX11_of 55 = .ok (.bipush 7, 2) := by decide +kernel
theorem dX11_of_57 : decode cX11_of 57 = .ok (.if_icmp .ne 27, 3) := by decide +kernel
theorem dX11_of_60 : decode cX11_of 60 = .ok (.aload_n 0, 1) := by decide +kernel
theorem dX11_of_61 : decode cX11_of 61 = .ok (.getfield 10, 3) := by decide +kernel
theorem dX11_of_64 : decode cX11_of 64 = .ok (.iload_n 1, 1) := by decide +kernel
theorem dX11_of_65 : decode cX11_of 65 = .ok (.aload_n 0, 1) := by decide +kernel
theorem dX11_of_66 : decode cX11_of 66 = .ok (.getfield 10, 3) := by decide +kernel
theorem dX11_of_69 : decode cX11_of 69 = .ok (.getfield 125, 3) := by decide +kernel
theorem dX11_of_72 : decode cX11_of 72 = .ok (.invokevirtual 128, 3) := by decide +kernel
theorem dX11_of_75 : decode cX11_of 75 = .ok (.ifCond .eq 7, 3) := by decide +kernel
theorem dX11_of_78 : decode cX11_of 78 = .ok (.iconst 1, 1) := by decide +kernel
theorem dX11_of_79 : decode cX11_of 79 = .ok (.goto 4, 3) := by decide +kernel
theorem dX11_of_82 : decode cX11_of 82 = .ok (.iconst 0, 1) := by decide +kernel
theorem dX11_of_83 : decode cX11_of 83 = .ok (.ireturn, 1) := by decide +kernel
theorem dX11_of_84 : decode cX11_of 84 = .ok (.aload_n 0, 1) := by decide +kernel
theorem dX11_of_85 : decode cX11_of 85 = .ok (.getfield 10, 3) := by decide +kernel
theorem dX11_of_88 : decode cX11_of 88 = .ok (.iload_n 1, 1) := by decide +kernel
theorem dX11_of_89 : decode cX11_of 89 = .ok (.iload_n 2, 1) := by decide +kernel
theorem dX11_of_90 : decode cX11_of 90 = .ok (.invokevirtual 101, 3) := by decide +kernel
theorem dX11_of_93 : decode cX11_of 93 = .ok (.ireturn, 1) := by decide +kernel
theorem dX11_lives_0 : decode cX11_lives 0 = .ok (.iload_n 1, 1) := by decide +kernel
theorem dX11_lives_1 : decode cX11_lives 1 = .ok (.invokestatic 152, 3) := by decide +kernel
theorem dX11_lives_4 : decode cX11_lives 4 = .ok (.ifCond .ne 10, 3) := by decide +kernel
theorem dX11_lives_7 : decode cX11_lives 7 = .ok (.aload_n 0, 1) := by decide +kernel
theorem dX11_lives_8 : decode cX11_lives 8 = .ok (.bipush (-2), 2) := by decide +kernel
theorem dX11_lives_10 : decode cX11_lives 10 = .ok (.invokevirtual 71, 3) := by decide +kernel
theorem dX11_lives_13 : decode cX11_lives 13 = .ok (.ireturn, 1) := by decide +kernel
theorem dX11_lives_14 : decode cX11_lives 14 = .ok (.aload_n 0, 1) := by decide +kernel
theorem dX11_lives_15 : decode cX11_lives 15 = .ok (.getfield 10, 3) := by decide +kernel
theorem dX11_lives_18 : decode cX11_lives 18 = .ok (.iload_n 1, 1) := by decide +kernel
theorem dX11_lives_19 : decode cX11_lives 19 = .ok (.aload_n 0, 1) := by decide +kernel
theorem dX11_lives_20 : decode cX11_lives 20 = .ok (.getfield 10, 3) := by decide +kernel
theorem dX11_lives_23 : decode cX11_lives 23 = .ok (.getfield 125, 3) := by decide +kernel
theorem dX11_lives_26 : decode cX11_lives 26 = .ok (.invokevirtual 155, 3) := by decide +kernel
theorem dX11_lives_29 : decode cX11_lives 29 = .ok (.ifCond .eq 7, 3) := by decide +kernel
theorem dX11_lives_32 : decode cX11_lives 32 = .ok (.iconst 1, 1) := by decide +kernel
theorem dX11_lives_33 : decode cX11_lives 33 = .ok (.goto 4, 3) := by decide +kernel
theorem dX11_lives_36 : decode cX11_lives 36 = .ok (.iconst 0, 1) := by decide +kernel
theorem dX11_lives_37 : decode cX11_lives 37 = .ok (.ireturn, 1) := by decide +kernel
theorem dX11_now_0 : decode cX11_now 0 = .ok (.iload_n 1, 1) := by decide +kernel
theorem dX11_now_1 : decode cX11_now 1 = .ok (.iconst 0, 1) := by decide +kernel
theorem dX11_now_2 : decode cX11_now 2 = .ok (.iconst 3, 1) := by decide +kernel
theorem dX11_now_3 : decode cX11_now 3 = .ok (.invokestatic 97, 3) := by decide +kernel
theorem dX11_now_6 : decode cX11_now 6 = .ok (.ifCond .ne 10, 3) := by decide +kernel
theorem dX11_now_9 : decode cX11_now 9 = .ok (.aload_n 0, 1) := by decide +kernel
theorem dX11_now_10 : decode cX11_now 10 = .ok (.bipush (-2), 2) := by decide +kernel
theorem dX11_now_12 : decode cX11_now 12 = .ok (.invokevirtual 71, 3) := by decide +kernel
theorem dX11_now_15 : decode cX11_now 15 = .ok (.ireturn, 1) := by decide +kernel
theorem dX11_now_16 : decode cX11_now 16 = .ok (.iload_n 1, 1) := by decide +kernel
theorem dX11_now_17 : decode cX11_now 17 = .ok (.iconst 2, 1) := by decide +kernel
theorem dX11_now_18 : decode cX11_now 18 = .ok (.if_icmp .lt 28, 3) := by decide +kernel
theorem dX11_now_21 : decode cX11_now 21 = .ok (.aload_n 0, 1) := by decide +kernel
theorem dX11_now_22 : decode cX11_now 22 = .ok (.getfield 10, 3) := by decide +kernel
theorem dX11_now_25 : decode cX11_now 25 = .ok (.aload_n 0, 1) := by decide +kernel
theorem dX11_now_26 : decode cX11_now 26 = .ok (.getfield 10, 3) := by decide +kernel
theorem dX11_now_29 : decode cX11_now 29 = .ok (.getfield 125, 3) := by decide +kernel
theorem dX11_now_32 : decode cX11_now 32 = .ok (.iload_n 1, 1) := by decide +kernel
theorem dX11_now_33 : decode cX11_now 33 = .ok (.iconst 2, 1) := by decide +kernel
theorem dX11_now_34 : decode cX11_now 34 = .ok (.if_icmp .ne 7, 3) := by decide +kernel
theorem dX11_now_37 : decode cX11_now 37 = .ok (.iconst 3, 1) := by decide +kernel
theorem dX11_now_38 : decode cX11_now 38 = .ok (.goto 4, 3) := by decide +kernel
theorem dX11_now_41 : decode cX11_now 41 = .ok (.iconst 4, 1) := by decide +kernel
theorem dX11_now_42 : decode cX11_now 42 = .ok (.invokevirtual 158, 3) := by decide +kernel
theorem dX11_now_45 : decode cX11_now 45 = .ok (.ireturn, 1) := by decide +kernel
theorem dX11_now_46 : decode cX11_now 46 = .ok (.aload_n 0, 1) := by decide +kernel
theorem dX11_now_47 : decode cX11_now 47 = .ok (.getfield 33, 3) := by decide +kernel
theorem dX11_now_50 : decode cX11_now 50 = .ok (.aload_n 0, 1) := by decide +kernel
theorem dX11_now_51 : decode cX11_now 51 = .ok (.getfield 10, 3) := by decide +kernel
theorem dX11_now_54 : decode cX11_now 54 = .ok (.iconst (-1), 1) := by decide +kernel
theorem dX11_now_55 : decode cX11_now 55 = .ok (.invokevirtual 161, 3) := by decide +kernel
theorem dX11_now_58 : decode cX11_now 58 = .ok (.iload_n 1, 1) := by decide +kernel
theorem dX11_now_59 : decode cX11_now 59 = .ok (.ifCond .ne 13, 3) := by decide +kernel
theorem dX11_now_62 : decode cX11_now 62 = .ok (.aload_n 0, 1) := by decide +kernel
theorem dX11_now_63 : decode cX11_now 63 = .ok (.getfield 33, 3) := by decide +kernel
theorem dX11_now_66 : decode cX11_now 66 = .ok (.getfield 165, 3) := by decide +kernel
theorem dX11_now_69 : decode cX11_now 69 = .ok (.goto 10, 3) := by decide +kernel
theorem dX11_now_72 : decode cX11_now 72 = .ok (.aload_n 0, 1) := by decide +kernel
theorem dX11_now_73 : decode cX11_now 73 = .ok (.getfield 33, 3) := by decide +kernel
theorem dX11_now_76 : decode cX11_now 76 = .ok (.getfield 168, 3) := by decide +kernel
theorem dX11_now_79 : decode cX11_now 79 = .ok (.ireturn, 1) := by decide +kernel
theorem dX11_share_0 : decode cX11_share 0 = .ok (.iload_n 1, 1) := by decide +kernel
theorem dX11_share_1 : decode cX11_share 1 = .ok (.iconst 0, 1) := by decide +kernel
theorem dX11_share_2 : decode cX11_share 2 = .ok (.iconst 4, 1) := by decide +kernel
theorem dX11_share_3 : decode cX11_share 3 = .ok (.invokestatic 97, 3) := by decide +kernel
theorem dX11_share_6 : decode cX11_share 6 = .ok (.ifCond .ne 10, 3) := by decide +kernel
theorem dX11_share_9 : decode cX11_share 9 = .ok (.aload_n 0, 1) := by decide +kernel
theorem dX11_share_10 : decode cX11_share 10 = .ok (.bipush (-2), 2) := by decide +kernel
theorem dX11_share_12 : decode cX11_share 12 = .ok (.invokevirtual 71, 3) := by decide +kernel
theorem dX11_share_15 : decode cX11_share 15 = .ok (.ireturn, 1) := by decide +kernel
theorem dX11_share_16 : decode cX11_share 16 = .ok (.aload_n 0, 1) := by decide +kernel
theorem dX11_share_17 : decode cX11_share 17 = .ok (.getfield 33, 3) := by decide +kernel
theorem dX11_share_20 : decode cX11_share 20 = .ok (.aload_n 0, 1) := by decide +kernel
theorem dX11_share_21 : decode cX11_share 21 = .ok (.getfield 10, 3) := by decide +kernel
theorem dX11_share_24 : decode cX11_share 24 = .ok (.iload_n 1, 1) := by decide +kernel
theorem dX11_share_25 : decode cX11_share 25 = .ok (.invokevirtual 161, 3) := by decide +kernel
theorem dX11_share_28 : decode cX11_share 28 = .ok (.aload_n 0, 1) := by decide +kernel
theorem dX11_share_29 : decode cX11_share 29 = .ok (.getfield 47, 3) := by decide +kernel
theorem dX11_share_32 : decode cX11_share 32 = .ok (.aload_n 0, 1) := by decide +kernel
theorem dX11_share_33 : decode cX11_share 33 = .ok (.getfield 33, 3) := by decide +kernel
theorem dX11_share_36 : decode cX11_share 36 = .ok (.invokevirtual 171, 3) := by decide +kernel
theorem dX11_share_39 : decode cX11_share 39 = .ok (.aload_n 0, 1) := by decide +kernel
theorem dX11_share_40 : decode cX11_share 40 = .ok (.getfield 33, 3) := by decide +kernel
theorem dX11_share_43 : decode cX11_share 43 = .ok (.invokevirtual 175, 3) := by decide +kernel
theorem dX11_share_46 : decode cX11_share 46 = .ok (.invokevirtual 178, 3) := by decide +kernel
theorem dX11_share_49 : decode cX11_share 49 = .ok (.iconst 1, 1) := by decide +kernel
theorem dX11_share_50 : decode cX11_share 50 = .ok (.ireturn, 1) := by decide +kernel
theorem dX11_net_0 : decode cX11_net 0 = .ok (.iload_n 1, 1) := by decide +kernel
theorem dX11_net_1 : decode cX11_net 1 = .ok (.iconst 0, 1) := by decide +kernel
theorem dX11_net_2 : decode cX11_net 2 = .ok (.iconst 3, 1) := by decide +kernel
theorem dX11_net_3 : decode cX11_net 3 = .ok (.invokestatic 97, 3) := by decide +kernel
theorem dX11_net_6 : decode cX11_net 6 = .ok (.ifCond .ne 10, 3) := by decide +kernel
theorem dX11_net_9 : decode cX11_net 9 = .ok (.aload_n 0, 1) := by decide +kernel
theorem dX11_net_10 : decode cX11_net 10 = .ok (.bipush (-2), 2) := by decide +kernel
theorem dX11_net_12 : decode cX11_net 12 = .ok (.invokevirtual 71, 3) := by decide +kernel
theorem dX11_net_15 : decode cX11_net 15 = .ok (.ireturn, 1) := by decide +kernel
theorem dX11_net_16 : decode cX11_net 16 = .ok (.aload_n 0, 1) := by decide +kernel
theorem dX11_net_17 : decode cX11_net 17 = .ok (.getfield 33, 3) := by decide +kernel
theorem dX11_net_20 : decode cX11_net 20 = .ok (.aload_n 0, 1) := by decide +kernel
theorem dX11_net_21 : decode cX11_net 21 = .ok (.getfield 10, 3) := by decide +kernel
theorem dX11_net_24 : decode cX11_net 24 = .ok (.iload_n 1, 1) := by decide +kernel
theorem dX11_net_25 : decode cX11_net 25 = .ok (.invokevirtual 161, 3) := by decide +kernel
theorem dX11_net_28 : decode cX11_net 28 = .ok (.aload_n 0, 1) := by decide +kernel
theorem dX11_net_29 : decode cX11_net 29 = .ok (.getfield 47, 3) := by decide +kernel
theorem dX11_net_32 : decode cX11_net 32 = .ok (.aload_n 0, 1) := by decide +kernel
theorem dX11_net_33 : decode cX11_net 33 = .ok (.getfield 33, 3) := by decide +kernel
theorem dX11_net_36 : decode cX11_net 36 = .ok (.invokevirtual 181, 3) := by decide +kernel
theorem dX11_net_39 : decode cX11_net 39 = .ok (.aload_n 0, 1) := by decide +kernel
theorem dX11_net_40 : decode cX11_net 40 = .ok (.getfield 33, 3) := by decide +kernel
theorem dX11_net_43 : decode cX11_net 43 = .ok (.invokevirtual 175, 3) := by decide +kernel
theorem dX11_net_46 : decode cX11_net 46 = .ok (.invokevirtual 178, 3) := by decide +kernel
theorem dX11_net_49 : decode cX11_net 49 = .ok (.iconst 1, 1) := by decide +kernel
theorem dX11_net_50 : decode cX11_net 50 = .ok (.ireturn, 1) := by decide +kernel
theorem dX11_least_0 : decode cX11_least 0 = .ok (.iload_n 1, 1) := by decide +kernel
theorem dX11_least_1 : decode cX11_least 1 = .ok (.invokestatic 152, 3) := by decide +kernel
theorem dX11_least_4 : decode cX11_least 4 = .ok (.ifCond .eq 9, 3) := by decide +kernel
theorem dX11_least_7 : decode cX11_least 7 = .ok (.iload_n 2, 1) := by decide +kernel
theorem dX11_least_8 : decode cX11_least 8 = .ok (.bipush (-2), 2) := by decide +kernel
theorem dX11_least_10 : decode cX11_least 10 = .ok (.if_icmp .ge 13, 3) := by decide +kernel
theorem dX11_least_13 : decode cX11_least 13 = .ok (.aload_n 0, 1) := by decide +kernel
theorem dX11_least_14 : decode cX11_least 14 = .ok (.bipush (-2), 2) := by decide +kernel
theorem dX11_least_16 : decode cX11_least 16 = .ok (.invokevirtual 71, 3) := by decide +kernel
theorem dX11_least_19 : decode cX11_least 19 = .ok (.pop, 1) := by decide +kernel
theorem dX11_least_20 : decode cX11_least 20 = .ok (.bipush (-10), 2) := by decide +kernel
theorem dX11_least_22 : decode cX11_least 22 = .ok (.ireturn, 1) := by decide +kernel
theorem dX11_least_23 : decode cX11_least 23 = .ok (.aload_n 0, 1) := by decide +kernel
theorem dX11_least_24 : decode cX11_least 24 = .ok (.getfield 40, 3) := by decide +kernel
theorem dX11_least_27 : decode cX11_least 27 = .ok (.aload_n 0, 1) := by decide +kernel
theorem dX11_least_28 : decode cX11_least 28 = .ok (.getfield 10, 3) := by decide +kernel
theorem dX11_least_31 : decode cX11_least 31 = .ok (.aload_n 0, 1) := by decide +kernel
theorem dX11_least_32 : decode cX11_least 32 = .ok (.getfield 10, 3) := by decide +kernel
theorem dX11_least_35 : decode cX11_least 35 = .ok (.getfield 125, 3) := by decide +kernel
theorem dX11_least_38 : decode cX11_least 38 = .ok (.iload_n 1, 1) := by decide +kernel
theorem dX11_least_39 : decode cX11_least 39 = .ok (.invokevirtual 184, 3) := by decide +kernel
theorem dX11_least_42 : decode cX11_least 42 = .ok (.istore_n 3, 1) := by decide +kernel
theorem dX11_least_43 : decode cX11_least 43 = .ok (.iload_n 3, 1) := by decide +kernel
theorem dX11_least_44 : decode cX11_least 44 = .ok (.iconst (-1), 1) := by decide +kernel
theorem dX11_least_45 : decode cX11_least 45 = .ok (.if_icmp .eq 9, 3) := by decide +kernel
theorem dX11_least_48 : decode cX11_least 48 = .ok (.iload_n 2, 1) := by decide +kernel
theorem dX11_least_49 : decode cX11_least 49 = .ok (.bipush (-2), 2) := by decide +kernel
theorem dX11_least_51 : decode cX11_least 51 = .ok (.if_icmp .ne 5, 3) := by decide +kernel
theorem dX11_least_54 : decode cX11_least 54 = .ok (.iload_n 3, 1) := by decide +kernel
theorem dX11_least_55 : decode cX11_least 55 = .ok (.ireturn, 1) := by decide +kernel
theorem dX11_least_56 : decode cX11_least 56 = .ok (.iload_n 2, 1) := by decide +kernel
theorem dX11_least_57 : decode cX11_least 57 = .ok (.iconst (-1), 1) := by decide +kernel
theorem dX11_least_58 : decode cX11_least 58 = .ok (.if_icmp .ne 15, 3) := by decide +kernel
theorem dX11_least_61 : decode cX11_least 61 = .ok (.aload_n 0, 1) := by decide +kernel
theorem dX11_least_62 : decode cX11_least 62 = .ok (.getfield 10, 3) := by decide +kernel
theorem dX11_least_65 : decode cX11_least 65 = .ok (.iload_n 3, 1) := by decide +kernel
theorem dX11_least_66 : decode cX11_least 66 = .ok (.iconst 4, 1) := by decide +kernel
theorem dX11_least_67 : decode cX11_least 67 = .ok (.invokevirtual 158, 3) := by decide +kernel
theorem dX11_least_70 : decode cX11_least 70 = .ok (.goto 9, 3) := by decide +kernel
theorem dX11_least_73 : decode cX11_least 73 = .ok (.aload_n 0, 1) := by decide +kernel
theorem dX11_least_74 : decode cX11_least 74 = .ok (.iload_n 3, 1) := by decide +kernel
theorem dX11_least_75 : decode cX11_least 75 = .ok (.iload_n 2, 1) := by decide +kernel
theorem dX11_least_76 : decode cX11_least 76 = .ok (.invokevirtual 188, 3) := by decide +kernel
theorem dX11_least_79 : decode cX11_least 79 = .ok (.ireturn, 1) := by decide +kernel
theorem dX11_needful_0 : decode cX11_needful 0 = .ok (.iload_n 1, 1) := by decide +kernel
theorem dX11_needful_1 : decode cX11_needful 1 = .ok (.invokestatic 152, 3) := by decide +kernel
theorem dX11_needful_4 : decode cX11_needful 4 = .ok (.ifCond .ne 10, 3) := by decide +kernel
theorem dX11_needful_7 : decode cX11_needful 7 = .ok (.aload_n 0, 1) := by decide +kernel
theorem dX11_needful_8 : decode cX11_needful 8 = .ok (.bipush (-2), 2) := by decide +kernel
theorem dX11_needful_10 : decode cX11_needful 10 = .ok (.invokevirtual 71, 3) := by decide +kernel
theorem dX11_needful_13 : decode cX11_needful 13 = .ok (.ireturn, 1) := by decide +kernel
theorem dX11_needful_14 : decode cX11_needful 14 = .ok (.aload_n 0, 1) := by decide +kernel
theorem dX11_needful_15 : decode cX11_needful 15 = .ok (.getfield 10, 3) := by decide +kernel
theorem dX11_needful_18 : decode cX11_needful 18 = .ok (.invokevirtual 191, 3) := by decide +kernel
theorem dX11_needful_21 : decode cX11_needful 21 = .ok (.istore_n 2, 1) := by decide +kernel
theorem dX11_needful_22 : decode cX11_needful 22 = .ok (.iconst 0, 1) := by decide +kernel
theorem dX11_needful_23 : decode cX11_needful 23 = .ok (.istore_n 3, 1) := by decide +kernel
theorem dX11_needful_24 : decode cX11_needful 24 = .ok (.iconst 0, 1) := by decide +kernel
theorem dX11_needful_25 : decode cX11_needful 25 = .ok (.istore 4, 2) := by decide +kernel
theorem dX11_needful_27 : decode cX11_needful 27 = .ok (.iload 4, 2) := by decide +kernel
theorem dX11_needful_29 : decode cX11_needful 29 = .ok (.aload_n 0, 1) := by decide +kernel
theorem dX11_needful_30 : decode cX11_needful 30 = .ok (.getfield 10, 3) := by decide +kernel
theorem dX11_needful_33 : decode cX11_needful 33 = .ok (.getfield 75, 3) := by decide +kernel
theorem dX11_needful_36 : decode cX11_needful 36 = .ok (.if_icmp .ge 48, 3) := by decide +kernel
theorem dX11_needful_39 : decode cX11_needful 39 = .ok (.iload_n 2, 1) := by decide +kernel
theorem dX11_needful_40 : decode cX11_needful 40 = .ok (.iload 4, 2) := by decide +kernel
theorem dX11_needful_42 : decode cX11_needful 42 = .ok (.invokestatic 149, 3) := by decide +kernel
theorem dX11_needful_45 : decode cX11_needful 45 = .ok (.ifCond .eq 33, 3) := by decide +kernel
theorem dX11_needful_48 : decode cX11_needful 48 = .ok (.aload_n 0, 1) := by decide +kernel
theorem dX11_needful_49 : decode cX11_needful 49 = .ok (.getfield 10, 3) := by decide +kernel
theorem dX11_needful_52 : decode cX11_needful 52 = .ok (.iload_n 1, 1) := by decide +kernel
theorem dX11_needful_53 : decode cX11_needful 53 = .ok (.aload_n 0, 1) := by decide +kernel
theorem dX11_needful_54 : decode cX11_needful 54 = .ok (.getfield 10, 3) := by decide +kernel
theorem dX11_needful_57 : decode cX11_needful 57 = .ok (.getfield 125, 3) := by decide +kernel
theorem dX11_needful_60 : decode cX11_needful 60 = .ok (.iconst 1, 1) := by decide +kernel
theorem dX11_needful_61 : decode cX11_needful 61 = .ok (.iload 4, 2) := by decide +kernel
theorem dX11_needful_63 : decode cX11_needful 63 = .ok (.ishl, 1) := by decide +kernel
theorem dX11_needful_64 : decode cX11_needful 64 = .ok (.ior, 1) := by decide +kernel
theorem dX11_needful_65 : decode cX11_needful 65 = .ok (.invokevirtual 155, 3) := by decide +kernel
theorem dX11_needful_68 : decode cX11_needful 68 = .ok (.ifCond .ne 10, 3) := by decide +kernel
theorem dX11_needful_71 : decode cX11_needful 71 = .ok (.iload_n 3, 1) := by decide +kernel
theorem dX11_needful_72 : decode cX11_needful 72 = .ok (.iconst 1, 1) := by decide +kernel
theorem dX11_needful_73 : decode cX11_needful 73 = .ok (.iload 4, 2) := by decide +kernel
theorem dX11_needful_75 : decode cX11_needful 75 = .ok (.ishl, 1) := by decide +kernel
theorem dX11_needful_76 : decode cX11_needful 76 = .ok (.ior, 1) := by decide +kernel
theorem dX11_needful_77 : decode cX11_needful 77 = .ok (.istore_n 3, 1) := by decide +kernel
theorem dX11_needful_78 : decode cX11_needful 78 = .ok (.iinc 4 1, 3) := by decide +kernel
theorem dX11_needful_81 : decode cX11_needful 81 = .ok (.goto (-54), 3) := by decide +kernel
theorem dX11_needful_84 : decode cX11_needful 84 = .ok (.iload_n 3, 1) := by decide +kernel
theorem dX11_needful_85 : decode cX11_needful 85 = .ok (.ireturn, 1) := by decide +kernel
theorem dX11_stow_0 : decode cX11_stow 0 = .ok (.aload_n 0, 1) := by decide +kernel
theorem dX11_stow_1 : decode cX11_stow 1 = .ok (.getfield 10, 3) := by decide +kernel
theorem dX11_stow_4 : decode cX11_stow 4 = .ok (.iload_n 1, 1) := by decide +kernel
theorem dX11_stow_5 : decode cX11_stow 5 = .ok (.invokevirtual 93, 3) := by decide +kernel
theorem dX11_stow_8 : decode cX11_stow 8 = .ok (.ifCond .eq 10, 3) := by decide +kernel
theorem dX11_stow_11 : decode cX11_stow 11 = .ok (.iload_n 2, 1) := by decide +kernel
theorem dX11_stow_12 : decode cX11_stow 12 = .ok (.invokestatic 152, 3) := by decide +kernel
theorem dX11_stow_15 : decode cX11_stow 15 = .ok (.ifCond .ne 10, 3) := by decide +kernel
theorem dX11_stow_18 : decode cX11_stow 18 = .ok (.aload_n 0, 1) := by decide +kernel
theorem dX11_stow_19 : decode cX11_stow 19 = .ok (.bipush (-2), 2) := by decide +kernel
theorem dX11_stow_21 : decode cX11_stow 21 = .ok (.invokevirtual 71, 3) := by decide +kernel
theorem dX11_stow_24 : decode cX11_stow 24 = .ok (.ireturn, 1) := by decide +kernel
theorem dX11_stow_25 : decode cX11_stow 25 = .ok (.aload_n 0, 1) := by decide +kernel
theorem dX11_stow_26 : decode cX11_stow 26 = .ok (.getfield 10, 3) := by decide +kernel
theorem dX11_stow_29 : decode cX11_stow 29 = .ok (.getfield 125, 3) := by decide +kernel
theorem dX11_stow_32 : decode cX11_stow 32 = .ok (.iload_n 1, 1) := by decide +kernel
theorem dX11_stow_33 : decode cX11_stow 33 = .ok (.invokestatic 149, 3) := by decide +kernel
theorem dX11_stow_36 : decode cX11_stow 36 = .ok (.ifCond .ne 10, 3) := by decide +kernel
theorem dX11_stow_39 : decode cX11_stow 39 = .ok (.aload_n 0, 1) := by decide +kernel
theorem dX11_stow_40 : decode cX11_stow 40 = .ok (.bipush (-3), 2) := by decide +kernel
theorem dX11_stow_42 : decode cX11_stow 42 = .ok (.invokevirtual 71, 3) := by decide +kernel
theorem dX11_stow_45 : decode cX11_stow 45 = .ok (.ireturn, 1) := by decide +kernel
theorem dX11_stow_46 : decode cX11_stow 46 = .ok (.iconst 0, 1) := by decide +kernel
theorem dX11_stow_47 : decode cX11_stow 47 = .ok (.istore_n 3, 1) := by decide +kernel
theorem dX11_stow_48 : decode cX11_stow 48 = .ok (.iload_n 3, 1) := by decide +kernel
theorem dX11_stow_49 : decode cX11_stow 49 = .ok (.iconst 3, 1) := by decide +kernel
theorem dX11_stow_50 : decode cX11_stow 50 = .ok (.if_icmp .gt 69, 3) := by decide +kernel
theorem dX11_stow_53 : decode cX11_stow 53 = .ok (.iload_n 3, 1) := by decide +kernel
theorem dX11_stow_54 : decode cX11_stow 54 = .ok (.iconst 3, 1) := by decide +kernel
theorem dX11_stow_55 : decode cX11_stow 55 = .ok (.if_icmp .ne 25, 3) := by decide +kernel
theorem dX11_stow_58 : decode cX11_stow 58 = .ok (.aload_n 0, 1) := by decide +kernel
theorem dX11_stow_59 : decode cX11_stow 59 = .ok (.getfield 40, 3) := by decide +kernel
theorem dX11_stow_62 : decode cX11_stow 62 = .ok (.aload_n 0, 1) := by decide +kernel
theorem dX11_stow_63 : decode cX11_stow 63 = .ok (.getfield 10, 3) := by decide +kernel
theorem dX11_stow_66 : decode cX11_stow 66 = .ok (.aload_n 0, 1) := by decide +kernel
theorem dX11_stow_67 : decode cX11_stow 67 = .ok (.getfield 10, 3) := by decide +kernel
theorem dX11_stow_70 : decode cX11_stow 70 = .ok (.getfield 125, 3) := by decide +kernel
theorem dX11_stow_73 : decode cX11_stow 73 = .ok (.iload_n 2, 1) := by decide +kernel
theorem dX11_stow_74 : decode cX11_stow 74 = .ok (.invokevirtual 184, 3) := by decide +kernel
theorem dX11_stow_77 : decode cX11_stow 77 = .ok (.goto 17, 3) := by decide +kernel
theorem dX11_stow_80 : decode cX11_stow 80 = .ok (.aload_n 0, 1) := by decide +kernel
theorem dX11_stow_81 : decode cX11_stow 81 = .ok (.getfield 40, 3) := by decide +kernel
theorem dX11_stow_84 : decode cX11_stow 84 = .ok (.aload_n 0, 1) := by decide +kernel
theorem dX11_stow_85 : decode cX11_stow 85 = .ok (.getfield 10, 3) := by decide +kernel
theorem dX11_stow_88 : decode cX11_stow 88 = .ok (.iload_n 2, 1) := by decide +kernel
theorem dX11_stow_89 : decode cX11_stow 89 = .ok (.iload_n 1, 1) := by decide +kernel
theorem dX11_stow_90 : decode cX11_stow 90 = .ok (.iload_n 3, 1) := by decide +kernel
theorem dX11_stow_91 : decode cX11_stow 91 = .ok (.invokevirtual 195, 3) := by decide +kernel
theorem dX11_stow_94 : decode cX11_stow 94 = .ok (.istore 4, 2) := by decide +kernel
theorem dX11_stow_96 : decode cX11_stow 96 = .ok (.iload 4, 2) := by decide +kernel
theorem dX11_stow_98 : decode cX11_stow 98 = .ok (.iconst (-1), 1) := by decide +kernel
theorem dX11_stow_99 : decode cX11_stow 99 = .ok (.if_icmp .eq 14, 3) := by decide +kernel
theorem dX11_stow_102 : decode cX11_stow 102 = .ok (.iload 4, 2) := by decide +kernel
theorem dX11_stow_104 : decode cX11_stow 104 = .ok (.iload_n 1, 1) := by decide +kernel
theorem dX11_stow_105 : decode cX11_stow 105 = .ok (.invokestatic 149, 3) := by decide +kernel
theorem dX11_stow_108 : decode cX11_stow 108 = .ok (.ifCond .ne 5, 3) := by decide +kernel
theorem dX11_stow_111 : decode cX11_stow 111 = .ok (.iload_n 3, 1) := by decide +kernel
theorem dX11_stow_112 : decode cX11_stow 112 = .ok (.ireturn, 1) := by decide +kernel
theorem dX11_stow_113 : decode cX11_stow 113 = .ok (.iinc 3 1, 3) := by decide +kernel
theorem dX11_stow_116 : decode cX11_stow 116 = .ok (.goto (-68), 3) := by decide +kernel
theorem dX11_stow_119 : decode cX11_stow 119 = .ok (.iconst (-1), 1) := by decide +kernel
theorem dX11_stow_120 : decode cX11_stow 120 = .ok (.ireturn, 1) := by decide +kernel
theorem dX11_tell_0 : decode cX11_tell 0 = .ok (.aload_n 0, 1) := by decide +kernel
theorem dX11_tell_1 : decode cX11_tell 1 = .ok (.getfield 10, 3) := by decide +kernel
theorem dX11_tell_4 : decode cX11_tell 4 = .ok (.iload_n 1, 1) := by decide +kernel
theorem dX11_tell_5 : decode cX11_tell 5 = .ok (.invokevirtual 93, 3) := by decide +kernel
theorem dX11_tell_8 : decode cX11_tell 8 = .ok (.ifCond .ne 10, 3) := by decide +kernel
theorem dX11_tell_11 : decode cX11_tell 11 = .ok (.aload_n 0, 1) := by decide +kernel
theorem dX11_tell_12 : decode cX11_tell 12 = .ok (.bipush (-2), 2) := by decide +kernel
theorem dX11_tell_14 : decode cX11_tell 14 = .ok (.invokevirtual 71, 3) := by decide +kernel
theorem dX11_tell_17 : decode cX11_tell 17 = .ok (.ireturn, 1) := by decide +kernel
theorem dX11_tell_18 : decode cX11_tell 18 = .ok (.iconst 0, 1) := by decide +kernel
theorem dX11_tell_19 : decode cX11_tell 19 = .ok (.istore_n 2, 1) := by decide +kernel
theorem dX11_tell_20 : decode cX11_tell 20 = .ok (.lconst 0, 1) := by decide +kernel
theorem dX11_tell_21 : decode cX11_tell 21 = .ok (.lstore_n 3, 1) := by decide +kernel
theorem dX11_tell_22 : decode cX11_tell 22 = .ok (.lconst 1, 1) := by decide +kernel
theorem dX11_tell_23 : decode cX11_tell 23 = .ok (.lstore 5, 2) := by decide +kernel
theorem dX11_tell_25 : decode cX11_tell 25 = .ok (.iconst 0, 1) := by decide +kernel
theorem dX11_tell_26 : decode cX11_tell 26 = .ok (.istore 7, 2) := by decide +kernel
theorem dX11_tell_28 : decode cX11_tell 28 = .ok (.iload 7, 2) := by decide +kernel
theorem dX11_tell_30 : decode cX11_tell 30 = .ok (.bipush 60, 2) := by decide +kernel
theorem dX11_tell_32 : decode cX11_tell 32 = .ok (.if_icmp .gt 69, 3) := by decide +kernel
theorem dX11_tell_35 : decode cX11_tell 35 = .ok (.aload_n 0, 1) := by decide +kernel
theorem dX11_tell_36 : decode cX11_tell 36 = .ok (.getfield 33, 3) := by decide +kernel
theorem dX11_tell_39 : decode cX11_tell 39 = .ok (.aload_n 0, 1) := by decide +kernel
theorem dX11_tell_40 : decode cX11_tell 40 = .ok (.getfield 10, 3) := by decide +kernel
theorem dX11_tell_43 : decode cX11_tell 43 = .ok (.iload_n 1, 1) := by decide +kernel
theorem dX11_tell_44 : decode cX11_tell 44 = .ok (.iload 7, 2) := by decide +kernel
theorem dX11_tell_46 : decode cX11_tell 46 = .ok (.invokevirtual 199, 3) := by decide +kernel
theorem dX11_tell_49 : decode cX11_tell 49 = .ok (.aload_n 0, 1) := by decide +kernel
theorem dX11_tell_50 : decode cX11_tell 50 = .ok (.getfield 33, 3) := by decide +kernel
theorem dX11_tell_53 : decode cX11_tell 53 = .ok (.invokevirtual 181, 3) := by decide +kernel
theorem dX11_tell_56 : decode cX11_tell 56 = .ok (.lstore 8, 2) := by decide +kernel
theorem dX11_tell_58 : decode cX11_tell 58 = .ok (.aload_n 0, 1) := by decide +kernel
theorem dX11_tell_59 : decode cX11_tell 59 = .ok (.getfield 33, 3) := by decide +kernel
theorem dX11_tell_62 : decode cX11_tell 62 = .ok (.invokevirtual 175, 3) := by decide +kernel
theorem dX11_tell_65 : decode cX11_tell 65 = .ok (.lstore 10, 2) := by decide +kernel
theorem dX11_tell_67 : decode cX11_tell 67 = .ok (.iload 7, 2) := by decide +kernel
theorem dX11_tell_69 : decode cX11_tell 69 = .ok (.ifCond .eq 16, 3) := by decide +kernel
theorem dX11_tell_72 : decode cX11_tell 72 = .ok (.lload 8, 2) := by decide +kernel
theorem dX11_tell_74 : decode cX11_tell 74 = .ok (.lload 5, 2) := by decide +kernel
theorem dX11_tell_76 : decode cX11_tell 76 = .ok (.lmul, 1) := by decide +kernel
theorem dX11_tell_77 : decode cX11_tell 77 = .ok (.lload_n 3, 1) := by decide +kernel
theorem dX11_tell_78 : decode cX11_tell 78 = .ok (.lload 10, 2) := by decide +kernel
theorem dX11_tell_80 : decode cX11_tell 80 = .ok (.lmul, 1) := by decide +kernel
theorem dX11_tell_81 : decode cX11_tell 81 = .ok (.lcmp, 1) := by decide +kernel
theorem dX11_tell_82 : decode cX11_tell 82 = .ok (.ifCond .ge 13, 3) := by decide +kernel
theorem dX11_tell_85 : decode cX11_tell 85 = .ok (.iload 7, 2) := by decide +kernel
theorem dX11_tell_87 : decode cX11_tell 87 = .ok (.istore_n 2, 1) := by decide +kernel
theorem dX11_tell_88 : decode cX11_tell 88 = .ok (.lload 8, 2) := by decide +kernel
theorem dX11_tell_90 : decode cX11_tell 90 = .ok (.lstore_n 3, 1) := by decide +kernel
theorem dX11_tell_91 : decode cX11_tell 91 = .ok (.lload 10, 2) := by decide +kernel
theorem dX11_tell_93 : decode cX11_tell 93 = .ok (.lstore 5, 2) := by decide +kernel
theorem dX11_tell_95 : decode cX11_tell 95 = .ok (.iinc 7 1, 3) := by decide +kernel
theorem dX11_tell_98 : decode cX11_tell 98 = .ok (.goto (-70), 3) := by decide +kernel
theorem dX11_tell_101 : decode cX11_tell 101 = .ok (.iload_n 2, 1) := by decide +kernel
theorem dX11_tell_102 : decode cX11_tell 102 = .ok (.ireturn, 1) := by decide +kernel
theorem dX11_marked_0 : decode cX11_marked 0 = .ok (.aload_n 0, 1) := by decide +kernel
theorem dX11_marked_1 : decode cX11_marked 1 = .ok (.getfield 10, 3) := by decide +kernel
theorem dX11_marked_4 : decode cX11_marked 4 = .ok (.iload_n 1, 1) := by decide +kernel
theorem dX11_marked_5 : decode cX11_marked 5 = .ok (.invokevirtual 93, 3) := by decide +kernel
theorem dX11_marked_8 : decode cX11_marked 8 = .ok (.ifCond .eq 13, 3) := by decide +kernel
theorem dX11_marked_11 : decode cX11_marked 11 = .ok (.iload_n 2, 1) := by decide +kernel
theorem dX11_marked_12 : decode cX11_marked 12 = .ok (.iconst 0, 1) := by decide +kernel
theorem dX11_marked_13 : decode cX11_marked 13 = .ok (.bipush 60, 2) := by decide +kernel
theorem dX11_marked_15 : decode cX11_marked 15 = .ok (.invokestatic 97, 3) := by decide +kernel
theorem dX11_marked_18 : decode cX11_marked 18 = .ok (.ifCond .ne 10, 3) := by decide +kernel
theorem dX11_marked_21 : decode cX11_marked 21 = .ok (.aload_n 0, 1) := by decide +kernel
theorem dX11_marked_22 : decode cX11_marked 22 = .ok (.bipush (-2), 2) := by decide +kernel
theorem dX11_marked_24 : decode cX11_marked 24 = .ok (.invokevirtual 71, 3) := by decide +kernel
theorem dX11_marked_27 : decode cX11_marked 27 = .ok (.ireturn, 1) := by decide +kernel
theorem dX11_marked_28 : decode cX11_marked 28 = .ok (.aload_n 0, 1) := by decide +kernel
theorem dX11_marked_29 : decode cX11_marked 29 = .ok (.getfield 33, 3) := by decide +kernel
theorem dX11_marked_32 : decode cX11_marked 32 = .ok (.aload_n 0, 1) := by decide +kernel
theorem dX11_marked_33 : decode cX11_marked 33 = .ok (.getfield 10, 3) := by decide +kernel
theorem dX11_marked_36 : decode cX11_marked 36 = .ok (.iload_n 1, 1) := by decide +kernel
theorem dX11_marked_37 : decode cX11_marked 37 = .ok (.iload_n 2, 1) := by decide +kernel
theorem dX11_marked_38 : decode cX11_marked 38 = .ok (.invokevirtual 199, 3) := by decide +kernel
theorem dX11_marked_41 : decode cX11_marked 41 = .ok (.aload_n 0, 1) := by decide +kernel
theorem dX11_marked_42 : decode cX11_marked 42 = .ok (.getfield 47, 3) := by decide +kernel
theorem dX11_marked_45 : decode cX11_marked 45 = .ok (.aload_n 0, 1) := by decide +kernel
theorem dX11_marked_46 : decode cX11_marked 46 = .ok (.getfield 33, 3) := by decide +kernel
theorem dX11_marked_49 : decode cX11_marked 49 = .ok (.invokevirtual 181, 3) := by decide +kernel
theorem dX11_marked_52 : decode cX11_marked 52 = .ok (.aload_n 0, 1) := by decide +kernel
theorem dX11_marked_53 : decode cX11_marked 53 = .ok (.getfield 33, 3) := by decide +kernel
theorem dX11_marked_56 : decode cX11_marked 56 = .ok (.invokevirtual 175, 3) := by decide +kernel
theorem dX11_marked_59 : decode cX11_marked 59 = .ok (.invokevirtual 178, 3) := by decide +kernel
theorem dX11_marked_62 : decode cX11_marked 62 = .ok (.iconst 1, 1) := by decide +kernel
theorem dX11_marked_63 : decode cX11_marked 63 = .ok (.ireturn, 1) := by decide +kernel
theorem dX11_seen_0 : decode cX11_seen 0 = .ok (.aload_n 0, 1) := by decide +kernel
theorem dX11_seen_1 : decode cX11_seen 1 = .ok (.getfield 61, 3) := by decide +kernel
theorem dX11_seen_4 : decode cX11_seen 4 = .ok (.iconst 0, 1) := by decide +kernel
theorem dX11_seen_5 : decode cX11_seen 5 = .ok (.iload_n 1, 1) := by decide +kernel
theorem dX11_seen_6 : decode cX11_seen 6 = .ok (.iastore, 1) := by decide +kernel
theorem dX11_seen_7 : decode cX11_seen 7 = .ok (.aload_n 0, 1) := by decide +kernel
theorem dX11_seen_8 : decode cX11_seen 8 = .ok (.getfield 61, 3) := by decide +kernel
theorem dX11_seen_11 : decode cX11_seen 11 = .ok (.iconst 1, 1) := by decide +kernel
theorem dX11_seen_12 : decode cX11_seen 12 = .ok (.iload_n 2, 1) := by decide +kernel
theorem dX11_seen_13 : decode cX11_seen 13 = .ok (.iastore, 1) := by decide +kernel
theorem dX11_seen_14 : decode cX11_seen 14 = .ok (.aload_n 0, 1) := by decide +kernel
theorem dX11_seen_15 : decode cX11_seen 15 = .ok (.getfield 61, 3) := by decide +kernel
theorem dX11_seen_18 : decode cX11_seen 18 = .ok (.iconst 2, 1) := by decide +kernel
theorem dX11_seen_19 : decode cX11_seen 19 = .ok (.iload_n 3, 1) := by decide +kernel
theorem dX11_seen_20 : decode cX11_seen 20 = .ok (.iastore, 1) := by decide +kernel
theorem dX11_seen_21 : decode cX11_seen 21 = .ok (.aload_n 0, 1) := by decide +kernel
theorem dX11_seen_22 : decode cX11_seen 22 = .ok (.getfield 61, 3) := by decide +kernel
theorem dX11_seen_25 : decode cX11_seen 25 = .ok (.getstatic 203, 3) := by decide +kernel
theorem dX11_seen_28 : decode cX11_seen 28 = .ok (.getstatic 206, 3) := by decide +kernel
theorem dX11_seen_31 : decode cX11_seen 31 = .ok (.invokestatic 67, 3) := by decide +kernel
theorem dX11_seen_34 : decode cX11_seen 34 = .ok (.ifCond .ne 10, 3) := by decide +kernel
theorem dX11_seen_37 : decode cX11_seen 37 = .ok (.aload_n 0, 1) := by decide +kernel
theorem dX11_seen_38 : decode cX11_seen 38 = .ok (.bipush (-2), 2) := by decide +kernel
theorem dX11_seen_40 : decode cX11_seen 40 = .ok (.invokevirtual 71, 3) := by decide +kernel
theorem dX11_seen_43 : decode cX11_seen 43 = .ok (.ireturn, 1) := by decide +kernel
theorem dX11_seen_44 : decode cX11_seen 44 = .ok (.aload_n 0, 1) := by decide +kernel
theorem dX11_seen_45 : decode cX11_seen 45 = .ok (.getfield 10, 3) := by decide +kernel
theorem dX11_seen_48 : decode cX11_seen 48 = .ok (.aload_n 0, 1) := by decide +kernel
theorem dX11_seen_49 : decode cX11_seen 49 = .ok (.getfield 61, 3) := by decide +kernel
theorem dX11_seen_52 : decode cX11_seen 52 = .ok (.invokevirtual 209, 3) := by decide +kernel
theorem dX11_seen_55 : decode cX11_seen 55 = .ok (.ifCond .eq 13, 3) := by decide +kernel
theorem dX11_seen_58 : decode cX11_seen 58 = .ok (.aload_n 0, 1) := by decide +kernel
theorem dX11_seen_59 : decode cX11_seen 59 = .ok (.getfield 10, 3) := by decide +kernel
theorem dX11_seen_62 : decode cX11_seen 62 = .ok (.getfield 213, 3) := by decide +kernel
theorem dX11_seen_65 : decode cX11_seen 65 = .ok (.goto 9, 3) := by decide +kernel
theorem dX11_seen_68 : decode cX11_seen 68 = .ok (.aload_n 0, 1) := by decide +kernel
theorem dX11_seen_69 : decode cX11_seen 69 = .ok (.bipush (-4), 2) := by decide +kernel
theorem dX11_seen_71 : decode cX11_seen 71 = .ok (.invokevirtual 71, 3) := by decide +kernel
theorem dX11_seen_74 : decode cX11_seen 74 = .ok (.ireturn, 1) := by decide +kernel
theorem dX11_forget_0 : decode cX11_forget 0 = .ok (.aload_n 0, 1) := by decide +kernel
theorem dX11_forget_1 : decode cX11_forget 1 = .ok (.getfield 10, 3) := by decide +kernel
theorem dX11_forget_4 : decode cX11_forget 4 = .ok (.getfield 213, 3) := by decide +kernel
theorem dX11_forget_7 : decode cX11_forget 7 = .ok (.istore_n 1, 1) := by decide +kernel
theorem dX11_forget_8 : decode cX11_forget 8 = .ok (.aload_n 0, 1) := by decide +kernel
theorem dX11_forget_9 : decode cX11_forget 9 = .ok (.getfield 10, 3) := by decide +kernel
theorem dX11_forget_12 : decode cX11_forget 12 = .ok (.iconst 0, 1) := by decide +kernel
theorem dX11_forget_13 : decode cX11_forget 13 = .ok (.putfield 213, 3) := by decide +kernel
theorem dX11_forget_16 : decode cX11_forget 16 = .ok (.iload_n 1, 1) := by decide +kernel
theorem dX11_forget_17 : decode cX11_forget 17 = .ok (.ireturn, 1) := by decide +kernel
theorem dX11_barrel_0 : decode cX11_barrel 0 = .ok (.aload_n 0, 1) := by decide +kernel
theorem dX11_barrel_1 : decode cX11_barrel 1 = .ok (.getfield 10, 3) := by decide +kernel
theorem dX11_barrel_4 : decode cX11_barrel 4 = .ok (.invokevirtual 216, 3) := by decide +kernel
theorem dX11_barrel_7 : decode cX11_barrel 7 = .ok (.ireturn, 1) := by decide +kernel
theorem dX11_whose_0 : decode cX11_whose 0 = .ok (.aload_n 0, 1) := by decide +kernel
theorem dX11_whose_1 : decode cX11_whose 1 = .ok (.getfield 10, 3) := by decide +kernel
theorem dX11_whose_4 : decode cX11_whose 4 = .ok (.invokevirtual 216, 3) := by decide +kernel
theorem dX11_whose_7 : decode cX11_whose 7 = .ok (.istore_n 1, 1) := by decide +kernel
theorem dX11_whose_8 : decode cX11_whose 8 = .ok (.iconst 0, 1) := by decide +kernel
theorem dX11_whose_9 : decode cX11_whose 9 = .ok (.istore_n 2, 1) := by decide +kernel
theorem dX11_whose_10 : decode cX11_whose 10 = .ok (.iconst 0, 1) := by decide +kernel
theorem dX11_whose_11 : decode cX11_whose 11 = .ok (.istore_n 3, 1) := by decide +kernel
theorem dX11_whose_12 : decode cX11_whose 12 = .ok (.iload_n 3, 1) := by decide +kernel
theorem dX11_whose_13 : decode cX11_whose 13 = .ok (.aload_n 0, 1) := by decide +kernel
theorem dX11_whose_14 : decode cX11_whose 14 = .ok (.getfield 10, 3) := by decide +kernel
theorem dX11_whose_17 : decode cX11_whose 17 = .ok (.getfield 75, 3) := by decide +kernel
theorem dX11_whose_20 : decode cX11_whose 20 = .ok (.if_icmp .ge 31, 3) := by decide +kernel
theorem dX11_whose_23 : decode cX11_whose 23 = .ok (.iload_n 1, 1) := by decide +kernel
theorem dX11_whose_24 : decode cX11_whose 24 = .ok (.iload_n 3, 1) := by decide +kernel
theorem dX11_whose_25 : decode cX11_whose 25 = .ok (.invokestatic 149, 3) := by decide +kernel
theorem dX11_whose_28 : decode cX11_whose 28 = .ok (.ifCond .eq 17, 3) := by decide +kernel
theorem dX11_whose_31 : decode cX11_whose 31 = .ok (.iload_n 2, 1) := by decide +kernel
theorem dX11_whose_32 : decode cX11_whose 32 = .ok (.iconst 1, 1) := by decide +kernel
theorem dX11_whose_33 : decode cX11_whose 33 = .ok (.aload_n 0, 1) := by decide +kernel
theorem dX11_whose_34 : decode cX11_whose 34 = .ok (.getfield 10, 3) := by decide +kernel
theorem dX11_whose_37 : decode cX11_whose 37 = .ok (.iload_n 3, 1) := by decide +kernel
theorem dX11_whose_38 : decode cX11_whose 38 = .ok (.iconst 1, 1) := by decide +kernel
theorem dX11_whose_39 : decode cX11_whose 39 = .ok (.invokevirtual 101, 3) := by decide +kernel
theorem dX11_whose_42 : decode cX11_whose 42 = .ok (.ishl, 1) := by decide +kernel
theorem dX11_whose_43 : decode cX11_whose 43 = .ok (.ior, 1) := by decide +kernel
theorem dX11_whose_44 : decode cX11_whose 44 = .ok (.istore_n 2, 1) := by decide +kernel
theorem dX11_whose_45 : decode cX11_whose 45 = .ok (.iinc 3 1, 3) := by decide +kernel
theorem dX11_whose_48 : decode cX11_whose 48 = .ok (.goto (-36), 3) := by decide +kernel
theorem dX11_whose_51 : decode cX11_whose 51 = .ok (.iload_n 2, 1) := by decide +kernel
theorem dX11_whose_52 : decode cX11_whose 52 = .ok (.ireturn, 1) := by decide +kernel
theorem dX11_asks_0 : decode cX11_asks 0 = .ok (.aload_n 0, 1) := by decide +kernel
theorem dX11_asks_1 : decode cX11_asks 1 = .ok (.getfield 10, 3) := by decide +kernel
theorem dX11_asks_4 : decode cX11_asks 4 = .ok (.invokevirtual 216, 3) := by decide +kernel
theorem dX11_asks_7 : decode cX11_asks 7 = .ok (.istore_n 1, 1) := by decide +kernel
theorem dX11_asks_8 : decode cX11_asks 8 = .ok (.iload_n 1, 1) := by decide +kernel
theorem dX11_asks_9 : decode cX11_asks 9 = .ok (.ifCond .ne 5, 3) := by decide +kernel
theorem dX11_asks_12 : decode cX11_asks 12 = .ok (.iconst (-1), 1) := by decide +kernel
theorem dX11_asks_13 : decode cX11_asks 13 = .ok (.ireturn, 1) := by decide +kernel
theorem dX11_asks_14 : decode cX11_asks 14 = .ok (.iconst (-1), 1) := by decide +kernel
theorem dX11_asks_15 : decode cX11_asks 15 = .ok (.istore_n 2, 1) := by decide +kernel
theorem dX11_asks_16 : decode cX11_asks 16 = .ok (.bipush 9, 2) := by decide +kernel
theorem dX11_asks_18 : decode cX11_asks 18 = .ok (.istore_n 3, 1) := by decide +kernel
theorem dX11_asks_19 : decode cX11_asks 19 = .ok (.iconst 0, 1) := by decide +kernel
theorem dX11_asks_20 : decode cX11_asks 20 = .ok (.istore 4, 2) := by decide +kernel
theorem dX11_asks_22 : decode cX11_asks 22 = .ok (.iload 4, 2) := by decide +kernel
theorem dX11_asks_24 : decode cX11_asks 24 = .ok (.bipush 9, 2) := by decide +kernel
theorem dX11_asks_26 : decode cX11_asks 26 = .ok (.if_icmp .ge 70, 3) := by decide +kernel
theorem dX11_asks_29 : decode cX11_asks 29 = .ok (.iload 4, 2) := by decide +kernel
theorem dX11_asks_31 : decode cX11_asks 31 = .ok (.iconst 3, 1) := by decide +kernel
theorem dX11_asks_32 : decode cX11_asks 32 = .ok (.if_icmp .ge 17, 3) := by decide +kernel
theorem dX11_asks_35 : decode cX11_asks 35 = .ok (.aload_n 0, 1) := by decide +kernel
theorem dX11_asks_36 : decode cX11_asks 36 = .ok (.getfield 10, 3) := by decide +kernel
theorem dX11_asks_39 : decode cX11_asks 39 = .ok (.iload_n 1, 1) := by decide +kernel
theorem dX11_asks_40 : decode cX11_asks 40 = .ok (.iconst 2, 1) := by decide +kernel
theorem dX11_asks_41 : decode cX11_asks 41 = .ok (.iload 4, 2) := by decide +kernel
theorem dX11_asks_43 : decode cX11_asks 43 = .ok (.invokevirtual 219, 3) := by decide +kernel
theorem dX11_asks_46 : decode cX11_asks 46 = .ok (.goto 16, 3) := by decide +kernel
theorem dX11_asks_49 : decode cX11_asks 49 = .ok (.aload_n 0, 1) := by decide +kernel
theorem dX11_asks_50 : decode cX11_asks 50 = .ok (.getfield 10, 3) := by decide +kernel
theorem dX11_asks_53 : decode cX11_asks 53 = .ok (.iload_n 1, 1) := by decide +kernel
theorem dX11_asks_54 : decode cX11_asks 54 = .ok (.iconst 0, 1) := by decide +kernel
theorem dX11_asks_55 : decode cX11_asks 55 = .ok (.iload 4, 2) := by decide +kernel
theorem dX11_asks_57 : decode cX11_asks 57 = .ok (.iconst 3, 1) := by decide +kernel
theorem dX11_asks_58 : decode cX11_asks 58 = .ok (.isub, 1) := by decide +kernel
theorem dX11_asks_59 : decode cX11_asks 59 = .ok (.invokevirtual 219, 3) := by decide +kernel
theorem dX11_asks_62 : decode cX11_asks 62 = .ok (.istore 5, 2) := by decide +kernel
theorem dX11_asks_64 : decode cX11_asks 64 = .ok (.iload 5, 2) := by decide +kernel
theorem dX11_asks_66 : decode cX11_asks 66 = .ok (.iload_n 1, 1) := by decide +kernel
theorem dX11_asks_67 : decode cX11_asks 67 = .ok (.invokestatic 144, 3) := by decide +kernel
theorem dX11_asks_70 : decode cX11_asks 70 = .ok (.iload 5, 2) := by decide +kernel
theorem dX11_asks_72 : decode cX11_asks 72 = .ok (.isub, 1) := by decide +kernel
theorem dX11_asks_73 : decode cX11_asks 73 = .ok (.invokestatic 223, 3) := by decide +kernel
theorem dX11_asks_76 : decode cX11_asks 76 = .ok (.istore 6, 2) := by decide +kernel
theorem dX11_asks_78 : decode cX11_asks 78 = .ok (.iload 6, 2) := by decide +kernel
theorem dX11_asks_80 : decode cX11_asks 80 = .ok (.iload_n 3, 1) := by decide +kernel
theorem dX11_asks_81 : decode cX11_asks 81 = .ok (.if_icmp .ge 9, 3) := by decide +kernel
theorem dX11_asks_84 : decode cX11_asks 84 = .ok (.iload 4, 2) := by decide +kernel
theorem dX11_asks_86 : decode cX11_asks 86 = .ok (.istore_n 2, 1) := by decide +kernel
theorem dX11_asks_87 : decode cX11_asks 87 = .ok (.iload 6, 2) := by decide +kernel
theorem dX11_asks_89 : decode cX11_asks 89 = .ok (.istore_n 3, 1) := by decide +kernel
theorem dX11_asks_90 : decode cX11_asks 90 = .ok (.iinc 4 1, 3) := by decide +kernel
theorem dX11_asks_93 : decode cX11_asks 93 = .ok (.goto (-71), 3) := by decide +kernel
theorem dX11_asks_96 : decode cX11_asks 96 = .ok (.iload_n 2, 1) := by decide +kernel
theorem dX11_asks_97 : decode cX11_asks 97 = .ok (.ireturn, 1) := by decide +kernel
theorem dX11_odds_0 : decode cX11_odds 0 = .ok (.iload_n 1, 1) := by decide +kernel
theorem dX11_odds_1 : decode cX11_odds 1 = .ok (.iconst 0, 1) := by decide +kernel
theorem dX11_odds_2 : decode cX11_odds 2 = .ok (.sipush 191, 3) := by decide +kernel
theorem dX11_odds_5 : decode cX11_odds 5 = .ok (.invokestatic 97, 3) := by decide +kernel
theorem dX11_odds_8 : decode cX11_odds 8 = .ok (.ifCond .ne 10, 3) := by decide +kernel
theorem dX11_odds_11 : decode cX11_odds 11 = .ok (.aload_n 0, 1) := by decide +kernel
theorem dX11_odds_12 : decode cX11_odds 12 = .ok (.bipush (-2), 2) := by decide +kernel
theorem dX11_odds_14 : decode cX11_odds 14 = .ok (.invokevirtual 71, 3) := by decide +kernel
theorem dX11_odds_17 : decode cX11_odds 17 = .ok (.ireturn, 1) := by decide +kernel
theorem dX11_odds_18 : decode cX11_odds 18 = .ok (.iconst 0, 1) := by decide +kernel
theorem dX11_odds_19 : decode cX11_odds 19 = .ok (.istore_n 2, 1) := by decide +kernel
theorem dX11_odds_20 : decode cX11_odds 20 = .ok (.iconst 0, 1) := by decide +kernel
theorem dX11_odds_21 : decode cX11_odds 21 = .ok (.istore_n 3, 1) := by decide +kernel
theorem dX11_odds_22 : decode cX11_odds 22 = .ok (.iload_n 3, 1) := by decide +kernel
theorem dX11_odds_23 : decode cX11_odds 23 = .ok (.bipush 10, 2) := by decide +kernel
theorem dX11_odds_25 : decode cX11_odds 25 = .ok (.if_icmp .ge 32, 3) := by decide +kernel
theorem dX11_odds_28 : decode cX11_odds 28 = .ok (.aload_n 0, 1) := by decide +kernel
theorem dX11_odds_29 : decode cX11_odds 29 = .ok (.getfield 10, 3) := by decide +kernel
theorem dX11_odds_32 : decode cX11_odds 32 = .ok (.iload_n 1, 1) := by decide +kernel
theorem dX11_odds_33 : decode cX11_odds 33 = .ok (.iload_n 3, 1) := by decide +kernel
theorem dX11_odds_34 : decode cX11_odds 34 = .ok (.iadd, 1) := by decide +kernel
theorem dX11_odds_35 : decode cX11_odds 35 = .ok (.aload_n 0, 1) := by decide +kernel
theorem dX11_odds_36 : decode cX11_odds 36 = .ok (.getfield 10, 3) := by decide +kernel
theorem dX11_odds_39 : decode cX11_odds 39 = .ok (.getfield 125, 3) := by decide +kernel
theorem dX11_odds_42 : decode cX11_odds 42 = .ok (.invokevirtual 155, 3) := by decide +kernel
theorem dX11_odds_45 : decode cX11_odds 45 = .ok (.ifCond .eq 6, 3) := by decide +kernel
theorem dX11_odds_48 : decode cX11_odds 48 = .ok (.iinc 2 1, 3) := by decide +kernel
theorem dX11_odds_51 : decode cX11_odds 51 = .ok (.iinc 3 1, 3) := by decide +kernel
theorem dX11_odds_54 : decode cX11_odds 54 = .ok (.goto (-32), 3) := by decide +kernel
theorem dX11_odds_57 : decode cX11_odds 57 = .ok (.aload_n 0, 1) := by decide +kernel
theorem dX11_odds_58 : decode cX11_odds 58 = .ok (.getfield 47, 3) := by decide +kernel
theorem dX11_odds_61 : decode cX11_odds 61 = .ok (.iload_n 2, 1) := by decide +kernel
theorem dX11_odds_62 : decode cX11_odds 62 = .ok (.i2l, 1) := by decide +kernel
theorem dX11_odds_63 : decode cX11_odds 63 = .ok (.ldc2_w 228, 3) := by decide +kernel
theorem dX11_odds_66 : decode cX11_odds 66 = .ok (.invokevirtual 178, 3) := by decide +kernel
theorem dX11_odds_69 : decode cX11_odds 69 = .ok (.iconst 1, 1) := by decide +kernel
theorem dX11_odds_70 : decode cX11_odds 70 = .ok (.ireturn, 1) := by decide +kernel
theorem dX11_safe_0 : decode cX11_safe 0 = .ok (.aload_n 0, 1) := by decide +kernel
theorem dX11_safe_1 : decode cX11_safe 1 = .ok (.getfield 10, 3) := by decide +kernel
theorem dX11_safe_4 : decode cX11_safe 4 = .ok (.getfield 230, 3) := by decide +kernel
theorem dX11_safe_7 : decode cX11_safe 7 = .ok (.aload_n 0, 1) := by decide +kernel
theorem dX11_safe_8 : decode cX11_safe 8 = .ok (.getfield 10, 3) := by decide +kernel
theorem dX11_safe_11 : decode cX11_safe 11 = .ok (.aload_n 0, 1) := by decide +kernel
theorem dX11_safe_12 : decode cX11_safe 12 = .ok (.getfield 10, 3) := by decide +kernel
theorem dX11_safe_15 : decode cX11_safe 15 = .ok (.getfield 125, 3) := by decide +kernel
theorem dX11_safe_18 : decode cX11_safe 18 = .ok (.iconst 3, 1) := by decide +kernel
theorem dX11_safe_19 : decode cX11_safe 19 = .ok (.invokevirtual 158, 3) := by decide +kernel
theorem dX11_safe_22 : decode cX11_safe 22 = .ok (.isub, 1) := by decide +kernel
theorem dX11_safe_23 : decode cX11_safe 23 = .ok (.istore_n 1, 1) := by decide +kernel
theorem dX11_safe_24 : decode cX11_safe 24 = .ok (.iload_n 1, 1) := by decide +kernel
theorem dX11_safe_25 : decode cX11_safe 25 = .ok (.ifCond .ge 7, 3) := by decide +kernel
theorem dX11_safe_28 : decode cX11_safe 28 = .ok (.iconst (-1), 1) := by decide +kernel
theorem dX11_safe_29 : decode cX11_safe 29 = .ok (.goto 10, 3) := by decide +kernel
theorem dX11_safe_32 : decode cX11_safe 32 = .ok (.iload_n 1, 1) := by decide +kernel
theorem dX11_safe_33 : decode cX11_safe 33 = .ok (.sipush 200, 3) := by decide +kernel
theorem dX11_safe_36 : decode cX11_safe 36 = .ok (.invokestatic 233, 3) := by decide +kernel
theorem dX11_safe_39 : decode cX11_safe 39 = .ok (.ireturn, 1) := by decide +kernel
theorem dX11_voyages_0 : decode cX11_voyages 0 = .ok (.iload_n 1, 1) := by decide +kernel
theorem dX11_voyages_1 : decode cX11_voyages 1 = .ok (.iconst 0, 1) := by decide +kernel
theorem dX11_voyages_2 : decode cX11_voyages 2 = .ok (.ldc 236, 2) := by decide +kernel
theorem dX11_voyages_4 : decode cX11_voyages 4 = .ok (.invokestatic 97, 3) := by decide +kernel
theorem dX11_voyages_7 : decode cX11_voyages 7 = .ok (.ifCond .eq 13, 3) := by decide +kernel
theorem dX11_voyages_10 : decode cX11_voyages 10 = .ok (.iload_n 2, 1) := by decide +kernel
theorem dX11_voyages_11 : decode cX11_voyages 11 = .ok (.iconst 0, 1) := by decide +kernel
theorem dX11_voyages_12 : decode cX11_voyages 12 = .ok (.bipush 30, 2) := by decide +kernel
theorem dX11_voyages_14 : decode cX11_voyages 14 = .ok (.invokestatic 97, 3) := by decide +kernel
theorem dX11_voyages_17 : decode cX11_voyages 17 = .ok (.ifCond .ne 10, 3) := by decide +kernel
theorem dX11_voyages_20 : decode cX11_voyages 20 = .ok (.aload_n 0, 1) := by decide +kernel
theorem dX11_voyages_21 : decode cX11_voyages 21 = .ok (.bipush (-2), 2) := by decide +kernel
theorem dX11_voyages_23 : decode cX11_voyages 23 = .ok (.invokevirtual 71, 3) := by decide +kernel
theorem dX11_voyages_26 : decode cX11_voyages 26 = .ok (.ireturn, 1) := by decide +kernel
theorem dX11_voyages_27 : decode cX11_voyages 27 = .ok (.iload_n 1, 1) := by decide +kernel
theorem dX11_voyages_28 : decode cX11_voyages 28 = .ok (.i2l, 1) := by decide +kernel
theorem dX11_voyages_29 : decode cX11_voyages 29 = .ok (.lstore_n 3, 1) := by decide +kernel
theorem dX11_voyages_30 : decode cX11_voyages 30 = .ok (.aload_n 0, 1) := by decide +kernel
theorem dX11_voyages_31 : decode cX11_voyages 31 = .ok (.getfield 10, 3) := by decide +kernel
theorem dX11_voyages_34 : decode cX11_voyages 34 = .ok (.getfield 125, 3) := by decide +kernel
theorem dX11_voyages_37 : decode cX11_voyages 37 = .ok (.istore 5, 2) := by decide +kernel
theorem dX11_voyages_39 : decode cX11_voyages 39 = .ok (.iconst 0, 1) := by decide +kernel
theorem dX11_voyages_40 : decode cX11_voyages 40 = .ok (.istore 6, 2) := by decide +kernel
theorem dX11_voyages_42 : decode cX11_voyages 42 = .ok (.iload 6, 2) := by decide +kernel
theorem dX11_voyages_44 : decode cX11_voyages 44 = .ok (.iload_n 2, 1) := by decide +kernel
theorem dX11_voyages_45 : decode cX11_voyages 45 = .ok (.if_icmp .ge 69, 3) := by decide +kernel
theorem dX11_voyages_48 : decode cX11_voyages 48 = .ok (.lload_n 3, 1) := by decide +kernel
theorem dX11_voyages_49 : decode cX11_voyages 49 = .ok (.ldc2_w 237, 3) := by decide +kernel
theorem dX11_voyages_52 : decode cX11_voyages 52 = .ok (.lmul, 1) := by decide +kernel
theorem dX11_voyages_53 : decode cX11_voyages 53 = .ok (.ldc2_w 239, 3) := by decide +kernel
theorem dX11_voyages_56 : decode cX11_voyages 56 = .ok (.ladd, 1) := by decide +kernel
theorem dX11_voyages_57 : decode cX11_voyages 57 = .ok (.ldc2_w 241, 3) := by decide +kernel
theorem dX11_voyages_60 : decode cX11_voyages 60 = .ok (.lrem, 1) := by decide +kernel
theorem dX11_voyages_61 : decode cX11_voyages 61 = .ok (.lstore_n 3, 1) := by decide +kernel
theorem dX11_voyages_62 : decode cX11_voyages 62 = .ok (.lload_n 3, 1) := by decide +kernel
theorem dX11_voyages_63 : decode cX11_voyages 63 = .ok (.ldc2_w 243, 3) := by decide +kernel
theorem dX11_voyages_66 : decode cX11_voyages 66 = .ok (.ldiv, 1) := by decide +kernel
theorem dX11_voyages_67 : decode cX11_voyages 67 = .ok (.ldc2_w 245, 3) := by decide +kernel
theorem dX11_voyages_70 : decode cX11_voyages 70 = .ok (.lrem, 1) := by decide +kernel
theorem dX11_voyages_71 : decode cX11_voyages 71 = .ok (.l2i, 1) := by decide +kernel
theorem dX11_voyages_72 : decode cX11_voyages 72 = .ok (.istore 7, 2) := by decide +kernel
theorem dX11_voyages_74 : decode cX11_voyages 74 = .ok (.aload_n 0, 1) := by decide +kernel
theorem dX11_voyages_75 : decode cX11_voyages 75 = .ok (.getfield 40, 3) := by decide +kernel
theorem dX11_voyages_78 : decode cX11_voyages 78 = .ok (.aload_n 0, 1) := by decide +kernel
theorem dX11_voyages_79 : decode cX11_voyages 79 = .ok (.getfield 10, 3) := by decide +kernel
theorem dX11_voyages_82 : decode cX11_voyages 82 = .ok (.iload 5, 2) := by decide +kernel
theorem dX11_voyages_84 : decode cX11_voyages 84 = .ok (.iload 7, 2) := by decide +kernel
theorem dX11_voyages_86 : decode cX11_voyages 86 = .ok (.invokevirtual 184, 3) := by decide +kernel
theorem dX11_voyages_89 : decode cX11_voyages 89 = .ok (.istore 8, 2) := by decide +kernel
theorem dX11_voyages_91 : decode cX11_voyages 91 = .ok (.iload 8, 2) := by decide +kernel
theorem dX11_voyages_93 : decode cX11_voyages 93 = .ok (.iconst (-1), 1) := by decide +kernel
theorem dX11_voyages_94 : decode cX11_voyages 94 = .ok (.if_icmp .ne 5, 3) := by decide +kernel
theorem dX11_voyages_97 : decode cX11_voyages 97 = .ok (.iconst 0, 1) := by decide +kernel
theorem dX11_voyages_98 : decode cX11_voyages 98 = .ok (.ireturn, 1) := by decide +kernel
theorem dX11_voyages_99 : decode cX11_voyages 99 = .ok (.iload 5, 2) := by decide +kernel
theorem dX11_voyages_101 : decode cX11_voyages 101 = .ok (.iload 8, 2) := by decide +kernel
theorem dX11_voyages_103 : decode cX11_voyages 103 = .ok (.iconst (-1), 1) := by decide +kernel
theorem dX11_voyages_104 : decode cX11_voyages 104 = .ok (.ixor, 1) := by decide +kernel
theorem dX11_voyages_105 : decode cX11_voyages 105 = .ok (.iand, 1) := by decide +kernel
theorem dX11_voyages_106 : decode cX11_voyages 106 = .ok (.istore 5, 2) := by decide +kernel
theorem dX11_voyages_108 : decode cX11_voyages 108 = .ok (.iinc 6 1, 3) := by decide +kernel
theorem dX11_voyages_111 : decode cX11_voyages 111 = .ok (.goto (-69), 3) := by decide +kernel
theorem dX11_voyages_114 : decode cX11_voyages 114 = .ok (.aload_n 0, 1) := by decide +kernel
theorem dX11_voyages_115 : decode cX11_voyages 115 = .ok (.getfield 10, 3) := by decide +kernel
theorem dX11_voyages_118 : decode cX11_voyages 118 = .ok (.iload 5, 2) := by decide +kernel
theorem dX11_voyages_120 : decode cX11_voyages 120 = .ok (.iconst 4, 1) := by decide +kernel
theorem dX11_voyages_121 : decode cX11_voyages 121 = .ok (.invokevirtual 158, 3) := by decide +kernel
theorem dX11_voyages_124 : decode cX11_voyages 124 = .ok (.ireturn, 1) := by decide +kernel
theorem dX11_part_0 : decode cX11_part 0 = .ok (.iload_n 1, 1) := by decide +kernel
theorem dX11_part_1 : decode cX11_part 1 = .ok (.iconst 0, 1) := by decide +kernel
theorem dX11_part_2 : decode cX11_part 2 = .ok (.iconst 1, 1) := by decide +kernel
theorem dX11_part_3 : decode cX11_part 3 = .ok (.invokestatic 97, 3) := by decide +kernel
theorem dX11_part_6 : decode cX11_part 6 = .ok (.ifCond .ne 11, 3) := by decide +kernel
theorem dX11_part_9 : decode cX11_part 9 = .ok (.aload_n 0, 1) := by decide +kernel
theorem dX11_part_10 : decode cX11_part 10 = .ok (.bipush (-2), 2) := by decide +kernel
theorem dX11_part_12 : decode cX11_part 12 = .ok (.invokevirtual 71, 3) := by decide +kernel
theorem dX11_part_15 : decode cX11_part 15 = .ok (.i2l, 1) := by decide +kernel
theorem dX11_part_16 : decode cX11_part 16 = .ok (.lreturn, 1) := by decide +kernel
theorem dX11_part_17 : decode cX11_part 17 = .ok (.iload_n 1, 1) := by decide +kernel
theorem dX11_part_18 : decode cX11_part 18 = .ok (.ifCond .ne 13, 3) := by decide +kernel
theorem dX11_part_21 : decode cX11_part 21 = .ok (.aload_n 0, 1) := by decide +kernel
theorem dX11_part_22 : decode cX11_part 22 = .ok (.getfield 47, 3) := by decide +kernel
theorem dX11_part_25 : decode cX11_part 25 = .ok (.getfield 247, 3) := by decide +kernel
theorem dX11_part_28 : decode cX11_part 28 = .ok (.goto 10, 3) := by decide +kernel
theorem dX11_part_31 : decode cX11_part 31 = .ok (.aload_n 0, 1) := by decide +kernel
theorem dX11_part_32 : decode cX11_part 32 = .ok (.getfield 47, 3) := by decide +kernel
theorem dX11_part_35 : decode cX11_part 35 = .ok (.getfield 251, 3) := by decide +kernel
theorem dX11_part_38 : decode cX11_part 38 = .ok (.lreturn, 1) := by decide +kernel
theorem dX11_image_0 : decode cX11_image 0 = .ok (.iload_n 1, 1) := by decide +kernel
theorem dX11_image_1 : decode cX11_image 1 = .ok (.iconst 0, 1) := by decide +kernel
theorem dX11_image_2 : decode cX11_image 2 = .ok (.iconst 1, 1) := by decide +kernel
theorem dX11_image_3 : decode cX11_image 3 = .ok (.invokestatic 97, 3) := by decide +kernel
theorem dX11_image_6 : decode cX11_image 6 = .ok (.ifCond .ne 10, 3) := by decide +kernel
theorem dX11_image_9 : decode cX11_image 9 = .ok (.aload_n 0, 1) := by decide +kernel
theorem dX11_image_10 : decode cX11_image 10 = .ok (.bipush (-2), 2) := by decide +kernel
theorem dX11_image_12 : decode cX11_image 12 = .ok (.invokevirtual 71, 3) := by decide +kernel
theorem dX11_image_15 : decode cX11_image 15 = .ok (.ireturn, 1) := by decide +kernel
theorem dX11_image_16 : decode cX11_image 16 = .ok (.aload_n 0, 1) := by decide +kernel
theorem dX11_image_17 : decode cX11_image 17 = .ok (.getfield 19, 3) := by decide +kernel
theorem dX11_image_20 : decode cX11_image 20 = .ok (.iload_n 1, 1) := by decide +kernel
theorem dX11_image_21 : decode cX11_image 21 = .ok (.aaload, 1) := by decide +kernel
theorem dX11_image_22 : decode cX11_image 22 = .ok (.aload_n 0, 1) := by decide +kernel
theorem dX11_image_23 : decode cX11_image 23 = .ok (.getfield 10, 3) := by decide +kernel
theorem dX11_image_26 : decode cX11_image 26 = .ok (.invokevirtual 121, 3) := by decide +kernel
theorem dX11_image_29 : decode cX11_image 29 = .ok (.aload_n 0, 1) := by decide +kernel
theorem dX11_image_30 : decode cX11_image 30 = .ok (.dup, 1) := by decide +kernel
theorem dX11_image_31 : decode cX11_image 31 = .ok (.getfield 253, 3) := by decide +kernel
theorem dX11_image_34 : decode cX11_image 34 = .ok (.iconst 1, 1) := by decide +kernel
theorem dX11_image_35 : decode cX11_image 35 = .ok (.iload_n 1, 1) := by decide +kernel
theorem dX11_image_36 : decode cX11_image 36 = .ok (.ishl, 1) := by decide +kernel
theorem dX11_image_37 : decode cX11_image 37 = .ok (.ior, 1) := by decide +kernel
theorem dX11_image_38 : decode cX11_image 38 = .ok (.putfield 253, 3) := by decide +kernel
theorem dX11_image_41 : decode cX11_image 41 = .ok (.iconst 1, 1) := by decide +kernel
theorem dX11_image_42 : decode cX11_image 42 = .ok (.ireturn, 1) := by decide +kernel
theorem dX11_from_0 : decode cX11_from 0 = .ok (.iload_n 1, 1) := by decide +kernel
theorem dX11_from_1 : decode cX11_from 1 = .ok (.iconst 0, 1) := by decide +kernel
theorem dX11_from_2 : decode cX11_from 2 = .ok (.iconst 1, 1) := by decide +kernel
theorem dX11_from_3 : decode cX11_from 3 = .ok (.invokestatic 97, 3) := by decide +kernel
theorem dX11_from_6 : decode cX11_from 6 = .ok (.ifCond .ne 10, 3) := by decide +kernel
theorem dX11_from_9 : decode cX11_from 9 = .ok (.aload_n 0, 1) := by decide +kernel
theorem dX11_from_10 : decode cX11_from 10 = .ok (.bipush (-2), 2) := by decide +kernel
theorem dX11_from_12 : decode cX11_from 12 = .ok (.invokevirtual 71, 3) := by decide +kernel
theorem dX11_from_15 : decode cX11_from 15 = .ok (.ireturn, 1) := by decide +kernel
theorem dX11_from_16 : decode cX11_from 16 = .ok (.aload_n 0, 1) := by decide +kernel
theorem dX11_from_17 : decode cX11_from 17 = .ok (.getfield 253, 3) := by decide +kernel
theorem dX11_from_20 : decode cX11_from 20 = .ok (.iload_n 1, 1) := by decide +kernel
theorem dX11_from_21 : decode cX11_from 21 = .ok (.invokestatic 149, 3) := by decide +kernel
theorem dX11_from_24 : decode cX11_from 24 = .ok (.ifCond .ne 10, 3) := by decide +kernel
theorem dX11_from_27 : decode cX11_from 27 = .ok (.aload_n 0, 1) := by decide +kernel
theorem dX11_from_28 : decode cX11_from 28 = .ok (.bipush (-3), 2) := by decide +kernel
theorem dX11_from_30 : decode cX11_from 30 = .ok (.invokevirtual 71, 3) := by decide +kernel
theorem dX11_from_33 : decode cX11_from 33 = .ok (.ireturn, 1) := by decide +kernel
theorem dX11_from_34 : decode cX11_from 34 = .ok (.aload_n 0, 1) := by decide +kernel
theorem dX11_from_35 : decode cX11_from 35 = .ok (.getfield 10, 3) := by decide +kernel
theorem dX11_from_38 : decode cX11_from 38 = .ok (.aload_n 0, 1) := by decide +kernel
theorem dX11_from_39 : decode cX11_from 39 = .ok (.getfield 19, 3) := by decide +kernel
theorem dX11_from_42 : decode cX11_from 42 = .ok (.iload_n 1, 1) := by decide +kernel
theorem dX11_from_43 : decode cX11_from 43 = .ok (.aaload, 1) := by decide +kernel
theorem dX11_from_44 : decode cX11_from 44 = .ok (.invokevirtual 121, 3) := by decide +kernel
theorem dX11_from_47 : decode cX11_from 47 = .ok (.iconst 1, 1) := by decide +kernel
theorem dX11_from_48 : decode cX11_from 48 = .ok (.ireturn, 1) := by decide +kernel
theorem dX11_status_0 : decode cX11_status 0 = .ok (.iload_n 1, 1) := by decide +kernel
theorem dX11_status_1 : decode cX11_status 1 = .ok (.tableswitch 42 0 2 #[27, 32, 37], 27) := by decide +kernel
theorem dX11_status_28 : decode cX11_status 28 = .ok (.aload_n 0, 1) := by decide +kernel
theorem dX11_status_29 : decode cX11_status 29 = .ok (.getfield 256, 3) := by decide +kernel
theorem dX11_status_32 : decode cX11_status 32 = .ok (.ireturn, 1) := by decide +kernel
theorem dX11_status_33 : decode cX11_status 33 = .ok (.aload_n 0, 1) := by decide +kernel
theorem dX11_status_34 : decode cX11_status 34 = .ok (.getfield 259, 3) := by decide +kernel
theorem dX11_status_37 : decode cX11_status 37 = .ok (.ireturn, 1) := by decide +kernel
theorem dX11_status_38 : decode cX11_status 38 = .ok (.aload_n 0, 1) := by decide +kernel
theorem dX11_status_39 : decode cX11_status 39 = .ok (.getfield 262, 3) := by decide +kernel
theorem dX11_status_42 : decode cX11_status 42 = .ok (.ireturn, 1) := by decide +kernel
theorem dX11_status_43 : decode cX11_status 43 = .ok (.aload_n 0, 1) := by decide +kernel
theorem dX11_status_44 : decode cX11_status 44 = .ok (.bipush (-2), 2) := by decide +kernel
theorem dX11_status_46 : decode cX11_status 46 = .ok (.invokevirtual 71, 3) := by decide +kernel
theorem dX11_status_49 : decode cX11_status 49 = .ok (.pop, 1) := by decide +kernel
theorem dX11_status_50 : decode cX11_status 50 = .ok (.iconst (-1), 1) := by decide +kernel
theorem dX11_status_51 : decode cX11_status 51 = .ok (.ireturn, 1) := by decide +kernel
theorem dX11_count_0 : decode cX11_count 0 = .ok (.iload_n 1, 1) := by decide +kernel
theorem dX11_count_1 : decode cX11_count 1 = .ok (.iconst 0, 1) := by decide +kernel
theorem dX11_count_2 : decode cX11_count 2 = .ok (.bipush 6, 2) := by decide +kernel
theorem dX11_count_4 : decode cX11_count 4 = .ok (.invokestatic 97, 3) := by decide +kernel
theorem dX11_count_7 : decode cX11_count 7 = .ok (.ifCond .eq 11, 3) := by decide +kernel
theorem dX11_count_10 : decode cX11_count 10 = .ok (.aload_n 0, 1) := by decide +kernel
theorem dX11_count_11 : decode cX11_count 11 = .ok (.iload_n 1, 1) := by decide +kernel
theorem dX11_count_12 : decode cX11_count 12 = .ok (.invokevirtual 265, 3) := by decide +kernel
theorem dX11_count_15 : decode cX11_count 15 = .ok (.goto 9, 3) := by decide +kernel
theorem dX11_count_18 : decode cX11_count 18 = .ok (.aload_n 0, 1) := by decide +kernel
theorem dX11_count_19 : decode cX11_count 19 = .ok (.bipush (-2), 2) := by decide +kernel
theorem dX11_count_21 : decode cX11_count 21 = .ok (.invokevirtual 71, 3) := by decide +kernel
theorem dX11_count_24 : decode cX11_count 24 = .ok (.ireturn, 1) := by decide +kernel
theorem dX11_digest_0 : decode cX11_digest 0 = .ok (.ldc2_w 268, 3) := by decide +kernel
theorem dX11_digest_3 : decode cX11_digest 3 = .ok (.lstore_n 1, 1) := by decide +kernel
theorem dX11_digest_4 : decode cX11_digest 4 = .ok (.iconst 0, 1) := by decide +kernel
theorem dX11_digest_5 : decode cX11_digest 5 = .ok (.istore_n 3, 1) := by decide +kernel
theorem dX11_digest_6 : decode cX11_digest 6 = .ok (.iload_n 3, 1) := by decide +kernel
theorem dX11_digest_7 : decode cX11_digest 7 = .ok (.bipush 7, 2) := by decide +kernel
theorem dX11_digest_9 : decode cX11_digest 9 = .ok (.if_icmp .ge 22, 3) := by decide +kernel
theorem dX11_digest_12 : decode cX11_digest 12 = .ok (.ldc2_w 270, 3) := by decide +kernel
theorem dX11_digest_15 : decode cX11_digest 15 = .ok (.lload_n 1, 1) := by decide +kernel
theorem dX11_digest_16 : decode cX11_digest 16 = .ok (.lmul, 1) := by decide +kernel
theorem dX11_digest_17 : decode cX11_digest 17 = .ok (.aload_n 0, 1) := by decide +kernel
theorem dX11_digest_18 : decode cX11_digest 18 = .ok (.iload_n 3, 1) := by decide +kernel
theorem dX11_digest_19 : decode cX11_digest 19 = .ok (.invokevirtual 265, 3) := by decide +kernel
theorem dX11_digest_22 : decode cX11_digest 22 = .ok (.i2l, 1) := by decide +kernel
theorem dX11_digest_23 : decode cX11_digest 23 = .ok (.ladd, 1) := by decide +kernel
theorem dX11_digest_24 : decode cX11_digest 24 = .ok (.lstore_n 1, 1) := by decide +kernel
theorem dX11_digest_25 : decode cX11_digest 25 = .ok (.iinc 3 1, 3) := by decide +kernel
theorem dX11_digest_28 : decode cX11_digest 28 = .ok (.goto (-22), 3) := by decide +kernel
theorem dX11_digest_31 : decode cX11_digest 31 = .ok (.iconst 0, 1) := by decide +kernel
theorem dX11_digest_32 : decode cX11_digest 32 = .ok (.istore_n 3, 1) := by decide +kernel
theorem dX11_digest_33 : decode cX11_digest 33 = .ok (.iload_n 3, 1) := by decide +kernel
theorem dX11_digest_34 : decode cX11_digest 34 = .ok (.aload_n 0, 1) := by decide +kernel
theorem dX11_digest_35 : decode cX11_digest 35 = .ok (.getfield 10, 3) := by decide +kernel
theorem dX11_digest_38 : decode cX11_digest 38 = .ok (.getfield 75, 3) := by decide +kernel
theorem dX11_digest_41 : decode cX11_digest 41 = .ok (.if_icmp .ge 70, 3) := by decide +kernel
theorem dX11_digest_44 : decode cX11_digest 44 = .ok (.iconst 0, 1) := by decide +kernel
theorem dX11_digest_45 : decode cX11_digest 45 = .ok (.istore 4, 2) := by decide +kernel
theorem dX11_digest_47 : decode cX11_digest 47 = .ok (.iload 4, 2) := by decide +kernel
theorem dX11_digest_49 : decode cX11_digest 49 = .ok (.bipush 6, 2) := by decide +kernel
theorem dX11_digest_51 : decode cX11_digest 51 = .ok (.if_icmp .ge 27, 3) := by decide +kernel
theorem dX11_digest_54 : decode cX11_digest 54 = .ok (.ldc2_w 270, 3) := by decide +kernel
theorem dX11_digest_57 : decode cX11_digest 57 = .ok (.lload_n 1, 1) := by decide +kernel
theorem dX11_digest_58 : decode cX11_digest 58 = .ok (.lmul, 1) := by decide +kernel
theorem dX11_digest_59 : decode cX11_digest 59 = .ok (.aload_n 0, 1) := by decide +kernel
theorem dX11_digest_60 : decode cX11_digest 60 = .ok (.getfield 10, 3) := by decide +kernel
theorem dX11_digest_63 : decode cX11_digest 63 = .ok (.iload_n 3, 1) := by decide +kernel
theorem dX11_digest_64 : decode cX11_digest 64 = .ok (.iload 4, 2) := by decide +kernel
theorem dX11_digest_66 : decode cX11_digest 66 = .ok (.invokevirtual 101, 3) := by decide +kernel
theorem dX11_digest_69 : decode cX11_digest 69 = .ok (.i2l, 1) := by decide +kernel
theorem dX11_digest_70 : decode cX11_digest 70 = .ok (.ladd, 1) := by decide +kernel
theorem dX11_digest_71 : decode cX11_digest 71 = .ok (.lstore_n 1, 1) := by decide +kernel
theorem dX11_digest_72 : decode cX11_digest 72 = .ok (.iinc 4 1, 3) := by decide +kernel
theorem dX11_digest_75 : decode cX11_digest 75 = .ok (.goto (-28), 3) := by decide +kernel
theorem dX11_digest_78 : decode cX11_digest 78 = .ok (.ldc2_w 270, 3) := by decide +kernel
theorem dX11_digest_81 : decode cX11_digest 81 = .ok (.lload_n 1, 1) := by decide +kernel
theorem dX11_digest_82 : decode cX11_digest 82 = .ok (.lmul, 1) := by decide +kernel
theorem dX11_digest_83 : decode cX11_digest 83 = .ok (.aload_n 0, 1) := by decide +kernel
theorem dX11_digest_84 : decode cX11_digest 84 = .ok (.getfield 10, 3) := by decide +kernel
theorem dX11_digest_87 : decode cX11_digest 87 = .ok (.getfield 125, 3) := by decide +kernel
theorem dX11_digest_90 : decode cX11_digest 90 = .ok (.iload_n 3, 1) := by decide +kernel
theorem dX11_digest_91 : decode cX11_digest 91 = .ok (.invokestatic 149, 3) := by decide +kernel
theorem dX11_digest_94 : decode cX11_digest 94 = .ok (.ifCond .eq 7, 3) := by decide +kernel
theorem dX11_digest_97 : decode cX11_digest 97 = .ok (.iconst 1, 1) := by decide +kernel
theorem dX11_digest_98 : decode cX11_digest 98 = .ok (.goto 4, 3) := by decide +kernel
theorem dX11_digest_101 : decode cX11_digest 101 = .ok (.iconst 0, 1) := by decide +kernel
theorem dX11_digest_102 : decode cX11_digest 102 = .ok (.i2l, 1) := by decide +kernel
theorem dX11_digest_103 : decode cX11_digest 103 = .ok (.ladd, 1) := by decide +kernel
theorem dX11_digest_104 : decode cX11_digest 104 = .ok (.lstore_n 1, 1) := by decide +kernel
theorem dX11_digest_105 : decode cX11_digest 105 = .ok (.iinc 3 1, 3) := by decide +kernel
theorem dX11_digest_108 : decode cX11_digest 108 = .ok (.goto (-75), 3) := by decide +kernel
theorem dX11_digest_111 : decode cX11_digest 111 = .ok (.iconst 0, 1) := by decide +kernel
theorem dX11_digest_112 : decode cX11_digest 112 = .ok (.istore_n 3, 1) := by decide +kernel
theorem dX11_digest_113 : decode cX11_digest 113 = .ok (.iload_n 3, 1) := by decide +kernel
theorem dX11_digest_114 : decode cX11_digest 114 = .ok (.aload_n 0, 1) := by decide +kernel
theorem dX11_digest_115 : decode cX11_digest 115 = .ok (.getfield 10, 3) := by decide +kernel
theorem dX11_digest_118 : decode cX11_digest 118 = .ok (.getfield 213, 3) := by decide +kernel
theorem dX11_digest_121 : decode cX11_digest 121 = .ok (.if_icmp .ge 42, 3) := by decide +kernel
theorem dX11_digest_124 : decode cX11_digest 124 = .ok (.iconst 0, 1) := by decide +kernel
theorem dX11_digest_125 : decode cX11_digest 125 = .ok (.istore 4, 2) := by decide +kernel
theorem dX11_digest_127 : decode cX11_digest 127 = .ok (.iload 4, 2) := by decide +kernel
theorem dX11_digest_129 : decode cX11_digest 129 = .ok (.iconst 3, 1) := by decide +kernel
theorem dX11_digest_130 : decode cX11_digest 130 = .ok (.if_icmp .ge 27, 3) := by decide +kernel
theorem dX11_digest_133 : decode cX11_digest 133 = .ok (.ldc2_w 270, 3) := by decide +kernel
theorem dX11_digest_136 : decode cX11_digest 136 = .ok (.lload_n 1, 1) := by decide +kernel
theorem dX11_digest_137 : decode cX11_digest 137 = .ok (.lmul, 1) := by decide +kernel
theorem dX11_digest_138 : decode cX11_digest 138 = .ok (.aload_n 0, 1) := by decide +kernel
theorem dX11_digest_139 : decode cX11_digest 139 = .ok (.getfield 10, 3) := by decide +kernel
theorem dX11_digest_142 : decode cX11_digest 142 = .ok (.iload_n 3, 1) := by decide +kernel
theorem dX11_digest_143 : decode cX11_digest 143 = .ok (.iload 4, 2) := by decide +kernel
theorem dX11_digest_145 : decode cX11_digest 145 = .ok (.invokevirtual 272, 3) := by decide +kernel
theorem dX11_digest_148 : decode cX11_digest 148 = .ok (.i2l, 1) := by decide +kernel
theorem dX11_digest_149 : decode cX11_digest 149 = .ok (.ladd, 1) := by decide +kernel
theorem dX11_digest_150 : decode cX11_digest 150 = .ok (.lstore_n 1, 1) := by decide +kernel
theorem dX11_digest_151 : decode cX11_digest 151 = .ok (.iinc 4 1, 3) := by decide +kernel
theorem dX11_digest_154 : decode cX11_digest 154 = .ok (.goto (-27), 3) := by decide +kernel
theorem dX11_digest_157 : decode cX11_digest 157 = .ok (.iinc 3 1, 3) := by decide +kernel
theorem dX11_digest_160 : decode cX11_digest 160 = .ok (.goto (-47), 3) := by decide +kernel
theorem dX11_digest_163 : decode cX11_digest 163 = .ok (.ldc2_w 270, 3) := by decide +kernel
theorem dX11_digest_166 : decode cX11_digest 166 = .ok (.lload_n 1, 1) := by decide +kernel
theorem dX11_digest_167 : decode cX11_digest 167 = .ok (.lmul, 1) := by decide +kernel
theorem dX11_digest_168 : decode cX11_digest 168 = .ok (.aload_n 0, 1) := by decide +kernel
theorem dX11_digest_169 : decode cX11_digest 169 = .ok (.getfield 47, 3) := by decide +kernel
theorem dX11_digest_172 : decode cX11_digest 172 = .ok (.getfield 247, 3) := by decide +kernel
theorem dX11_digest_175 : decode cX11_digest 175 = .ok (.ladd, 1) := by decide +kernel
theorem dX11_digest_176 : decode cX11_digest 176 = .ok (.lstore_n 1, 1) := by decide +kernel
theorem dX11_digest_177 : decode cX11_digest 177 = .ok (.ldc2_w 270, 3) := by decide +kernel
theorem dX11_digest_180 : decode cX11_digest 180 = .ok (.lload_n 1, 1) := by decide +kernel
theorem dX11_digest_181 : decode cX11_digest 181 = .ok (.lmul, 1) := by decide +kernel
theorem dX11_digest_182 : decode cX11_digest 182 = .ok (.aload_n 0, 1) := by decide +kernel
theorem dX11_digest_183 : decode cX11_digest 183 = .ok (.getfield 47, 3) := by decide +kernel
theorem dX11_digest_186 : decode cX11_digest 186 = .ok (.getfield 251, 3) := by decide +kernel
theorem dX11_digest_189 : decode cX11_digest 189 = .ok (.ladd, 1) := by decide +kernel
theorem dX11_digest_190 : decode cX11_digest 190 = .ok (.lreturn, 1) := by decide +kernel
theorem dX11_refuse_0 : decode cX11_refuse 0 = .ok (.iload_n 1, 1) := by decide +kernel
theorem dX11_refuse_1 : decode cX11_refuse 1 = .ok (.bipush (-2), 2) := by decide +kernel
theorem dX11_refuse_3 : decode cX11_refuse 3 = .ok (.if_icmp .ne 16, 3) := by decide +kernel
theorem dX11_refuse_6 : decode cX11_refuse 6 = .ok (.aload_n 0, 1) := by decide +kernel
theorem dX11_refuse_7 : decode cX11_refuse 7 = .ok (.dup, 1) := by decide +kernel
theorem dX11_refuse_8 : decode cX11_refuse 8 = .ok (.getfield 256, 3) := by decide +kernel
theorem dX11_refuse_11 : decode cX11_refuse 11 = .ok (.iconst 1, 1) := by decide +kernel
theorem dX11_refuse_12 : decode cX11_refuse 12 = .ok (.iadd, 1) := by decide +kernel
theorem dX11_refuse_13 : decode cX11_refuse 13 = .ok (.putfield 256, 3) := by decide +kernel
theorem dX11_refuse_16 : decode cX11_refuse 16 = .ok (.goto 32, 3) := by decide +kernel
theorem dX11_refuse_19 : decode cX11_refuse 19 = .ok (.iload_n 1, 1) := by decide +kernel
theorem dX11_refuse_20 : decode cX11_refuse 20 = .ok (.bipush (-3), 2) := by decide +kernel
theorem dX11_refuse_22 : decode cX11_refuse 22 = .ok (.if_icmp .ne 16, 3) := by decide +kernel
theorem dX11_refuse_25 : decode cX11_refuse 25 = .ok (.aload_n 0, 1) := by decide +kernel
theorem dX11_refuse_26 : decode cX11_refuse 26 = .ok (.dup, 1) := by decide +kernel
theorem dX11_refuse_27 : decode cX11_refuse 27 = .ok (.getfield 259, 3) := by decide +kernel
theorem dX11_refuse_30 : decode cX11_refuse 30 = .ok (.iconst 1, 1) := by decide +kernel
theorem dX11_refuse_31 : decode cX11_refuse 31 = .ok (.iadd, 1) := by decide +kernel
theorem dX11_refuse_32 : decode cX11_refuse 32 = .ok (.putfield 259, 3) := by decide +kernel
theorem dX11_refuse_35 : decode cX11_refuse 35 = .ok (.goto 13, 3) := by decide +kernel
theorem dX11_refuse_38 : decode cX11_refuse 38 = .ok (.aload_n 0, 1) := by decide +kernel
theorem dX11_refuse_39 : decode cX11_refuse 39 = .ok (.dup, 1) := by decide +kernel
theorem dX11_refuse_40 : decode cX11_refuse 40 = .ok (.getfield 262, 3) := by decide +kernel
theorem dX11_refuse_43 : decode cX11_refuse 43 = .ok (.iconst 1, 1) := by decide +kernel
theorem dX11_refuse_44 : decode cX11_refuse 44 = .ok (.iadd, 1) := by decide +kernel
theorem dX11_refuse_45 : decode cX11_refuse 45 = .ok (.putfield 262, 3) := by decide +kernel
theorem dX11_refuse_48 : decode cX11_refuse 48 = .ok (.iload_n 1, 1) := by decide +kernel
theorem dX11_refuse_49 : decode cX11_refuse 49 = .ok (.ireturn, 1) := by decide +kernel
theorem dX11_howMany_0 : decode cX11_howMany 0 = .ok (.iload_n 1, 1) := by decide +kernel
theorem dX11_howMany_1 : decode cX11_howMany 1 = .ok (.tableswitch 90 0 5 #[39, 47, 58, 66, 74, 82], 39) := by decide +kernel
theorem dX11_howMany_40 : decode cX11_howMany 40 = .ok (.aload_n 0, 1) := by decide +kernel
theorem dX11_howMany_41 : decode cX11_howMany 41 = .ok (.getfield 10, 3) := by decide +kernel
theorem dX11_howMany_44 : decode cX11_howMany 44 = .ok (.getfield 75, 3) := by decide +kernel
theorem dX11_howMany_47 : decode cX11_howMany 47 = .ok (.ireturn, 1) := by decide +kernel
theorem dX11_howMany_48 : decode cX11_howMany 48 = .ok (.aload_n 0, 1) := by decide +kernel
theorem dX11_howMany_49 : decode cX11_howMany 49 = .ok (.getfield 10, 3) := by decide +kernel
theorem dX11_howMany_52 : decode cX11_howMany 52 = .ok (.getfield 125, 3) := by decide +kernel
theorem dX11_howMany_55 : decode cX11_howMany 55 = .ok (.invokestatic 144, 3) := by decide +kernel
theorem dX11_howMany_58 : decode cX11_howMany 58 = .ok (.ireturn, 1) := by decide +kernel
theorem dX11_howMany_59 : decode cX11_howMany 59 = .ok (.aload_n 0, 1) := by decide +kernel
theorem dX11_howMany_60 : decode cX11_howMany 60 = .ok (.getfield 10, 3) := by decide +kernel
theorem dX11_howMany_63 : decode cX11_howMany 63 = .ok (.getfield 275, 3) := by decide +kernel
theorem dX11_howMany_66 : decode cX11_howMany 66 = .ok (.ireturn, 1) := by decide +kernel
theorem dX11_howMany_67 : decode cX11_howMany 67 = .ok (.aload_n 0, 1) := by decide +kernel
theorem dX11_howMany_68 : decode cX11_howMany 68 = .ok (.getfield 10, 3) := by decide +kernel
theorem dX11_howMany_71 : decode cX11_howMany 71 = .ok (.getfield 230, 3) := by decide +kernel
theorem dX11_howMany_74 : decode cX11_howMany 74 = .ok (.ireturn, 1) := by decide +kernel
theorem dX11_howMany_75 : decode cX11_howMany 75 = .ok (.aload_n 0, 1) := by decide +kernel
theorem dX11_howMany_76 : decode cX11_howMany 76 = .ok (.getfield 10, 3) := by decide +kernel
theorem dX11_howMany_79 : decode cX11_howMany 79 = .ok (.getfield 213, 3) := by decide +kernel
theorem dX11_howMany_82 : decode cX11_howMany 82 = .ok (.ireturn, 1) := by decide +kernel
theorem dX11_howMany_83 : decode cX11_howMany 83 = .ok (.aload_n 0, 1) := by decide +kernel
theorem dX11_howMany_84 : decode cX11_howMany 84 = .ok (.getfield 10, 3) := by decide +kernel
theorem dX11_howMany_87 : decode cX11_howMany 87 = .ok (.getfield 118, 3) := by decide +kernel
theorem dX11_howMany_90 : decode cX11_howMany 90 = .ok (.ireturn, 1) := by decide +kernel
theorem dX11_howMany_91 : decode cX11_howMany 91 = .ok (.aload_n 0, 1) := by decide +kernel
theorem dX11_howMany_92 : decode cX11_howMany 92 = .ok (.getfield 26, 3) := by decide +kernel
theorem dX11_howMany_95 : decode cX11_howMany 95 = .ok (.getfield 111, 3) := by decide +kernel
theorem dX11_howMany_98 : decode cX11_howMany 98 = .ok (.ireturn, 1) := by decide +kernel
theorem dX11_inOrder_0 : decode cX11_inOrder 0 = .ok (.iload_n 2, 1) := by decide +kernel
theorem dX11_inOrder_1 : decode cX11_inOrder 1 = .ok (.iload_n 1, 1) := by decide +kernel
theorem dX11_inOrder_2 : decode cX11_inOrder 2 = .ok (.invokestatic 144, 3) := by decide +kernel
theorem dX11_inOrder_5 : decode cX11_inOrder 5 = .ok (.if_icmp .lt 6, 3) := by decide +kernel
theorem dX11_inOrder_8 : decode cX11_inOrder 8 = .ok (.bipush (-5), 2) := by decide +kernel
theorem dX11_inOrder_10 : decode cX11_inOrder 10 = .ok (.ireturn, 1) := by decide +kernel
theorem dX11_inOrder_11 : decode cX11_inOrder 11 = .ok (.aload_n 0, 1) := by decide +kernel
theorem dX11_inOrder_12 : decode cX11_inOrder 12 = .ok (.getfield 10, 3) := by decide +kernel
theorem dX11_inOrder_15 : decode cX11_inOrder 15 = .ok (.getfield 125, 3) := by decide +kernel
theorem dX11_inOrder_18 : decode cX11_inOrder 18 = .ok (.istore_n 3, 1) := by decide +kernel
theorem dX11_inOrder_19 : decode cX11_inOrder 19 = .ok (.aload_n 0, 1) := by decide +kernel
theorem dX11_inOrder_20 : decode cX11_inOrder 20 = .ok (.getfield 10, 3) := by decide +kernel
theorem dX11_inOrder_23 : decode cX11_inOrder 23 = .ok (.iload_n 1, 1) := by decide +kernel
theorem dX11_inOrder_24 : decode cX11_inOrder 24 = .ok (.iload_n 3, 1) := by decide +kernel
theorem dX11_inOrder_25 : decode cX11_inOrder 25 = .ok (.invokevirtual 278, 3) := by decide +kernel
theorem dX11_inOrder_28 : decode cX11_inOrder 28 = .ok (.istore 4, 2) := by decide +kernel
theorem dX11_inOrder_30 : decode cX11_inOrder 30 = .ok (.iconst 0, 1) := by decide +kernel
theorem dX11_inOrder_31 : decode cX11_inOrder 31 = .ok (.istore 5, 2) := by decide +kernel
theorem dX11_inOrder_33 : decode cX11_inOrder 33 = .ok (.iload 5, 2) := by decide +kernel
theorem dX11_inOrder_35 : decode cX11_inOrder 35 = .ok (.iload_n 2, 1) := by decide +kernel
theorem dX11_inOrder_36 : decode cX11_inOrder 36 = .ok (.if_icmp .ge 35, 3) := by decide +kernel
theorem dX11_inOrder_39 : decode cX11_inOrder 39 = .ok (.iload 4, 2) := by decide +kernel
theorem dX11_inOrder_41 : decode cX11_inOrder 41 = .ok (.iconst (-1), 1) := by decide +kernel
theorem dX11_inOrder_42 : decode cX11_inOrder 42 = .ok (.if_icmp .eq 29, 3) := by decide +kernel
theorem dX11_inOrder_45 : decode cX11_inOrder 45 = .ok (.iload_n 3, 1) := by decide +kernel
theorem dX11_inOrder_46 : decode cX11_inOrder 46 = .ok (.iconst 1, 1) := by decide +kernel
theorem dX11_inOrder_47 : decode cX11_inOrder 47 = .ok (.iload 4, 2) := by decide +kernel
theorem dX11_inOrder_49 : decode cX11_inOrder 49 = .ok (.ishl, 1) := by decide +kernel
theorem dX11_inOrder_50 : decode cX11_inOrder 50 = .ok (.iconst (-1), 1) := by decide +kernel
theorem dX11_inOrder_51 : decode cX11_inOrder 51 = .ok (.ixor, 1) := by decide +kernel
theorem dX11_inOrder_52 : decode cX11_inOrder 52 = .ok (.iand, 1) := by decide +kernel
theorem dX11_inOrder_53 : decode cX11_inOrder 53 = .ok (.istore_n 3, 1) := by decide +kernel
theorem dX11_inOrder_54 : decode cX11_inOrder 54 = .ok (.aload_n 0, 1) := by decide +kernel
theorem dX11_inOrder_55 : decode cX11_inOrder 55 = .ok (.getfield 10, 3) := by decide +kernel
theorem dX11_inOrder_58 : decode cX11_inOrder 58 = .ok (.iload_n 1, 1) := by decide +kernel
theorem dX11_inOrder_59 : decode cX11_inOrder 59 = .ok (.iload_n 3, 1) := by decide +kernel
theorem dX11_inOrder_60 : decode cX11_inOrder 60 = .ok (.invokevirtual 278, 3) := by decide +kernel
theorem dX11_inOrder_63 : decode cX11_inOrder 63 = .ok (.istore 4, 2) := by decide +kernel
theorem dX11_inOrder_65 : decode cX11_inOrder 65 = .ok (.iinc 5 1, 3) := by decide +kernel
theorem dX11_inOrder_68 : decode cX11_inOrder 68 = .ok (.goto (-35), 3) := by decide +kernel
theorem dX11_inOrder_71 : decode cX11_inOrder 71 = .ok (.iload 4, 2) := by decide +kernel
theorem dX11_inOrder_73 : decode cX11_inOrder 73 = .ok (.ireturn, 1) := by decide +kernel
theorem dX11_isStorm_0 : decode cX11_isStorm 0 = .ok (.iload_n 0, 1) := by decide +kernel
theorem dX11_isStorm_1 : decode cX11_isStorm 1 = .ok (.iconst 0, 1) := by decide +kernel
theorem dX11_isStorm_2 : decode cX11_isStorm 2 = .ok (.sipush 200, 3) := by decide +kernel
theorem dX11_isStorm_5 : decode cX11_isStorm 5 = .ok (.invokestatic 97, 3) := by decide +kernel
theorem dX11_isStorm_8 : decode cX11_isStorm 8 = .ok (.ireturn, 1) := by decide +kernel
theorem dX11_within_0 : decode cX11_within 0 = .ok (.iload_n 0, 1) := by decide +kernel
theorem dX11_within_1 : decode cX11_within 1 = .ok (.iload_n 1, 1) := by decide +kernel
theorem dX11_within_2 : decode cX11_within 2 = .ok (.if_icmp .lt 12, 3) := by decide +kernel
theorem dX11_within_5 : decode cX11_within 5 = .ok (.iload_n 0, 1) := by decide +kernel
theorem dX11_within_6 : decode cX11_within 6 = .ok (.iload_n 2, 1) := by decide +kernel
theorem dX11_within_7 : decode cX11_within 7 = .ok (.if_icmp .gt 7, 3) := by decide +kernel
theorem dX11_within_10 : decode cX11_within 10 = .ok (.iconst 1, 1) := by decide +kernel
theorem dX11_within_11 : decode cX11_within 11 = .ok (.goto 4, 3) := by decide +kernel
theorem dX11_within_14 : decode cX11_within 14 = .ok (.iconst 0, 1) := by decide +kernel
theorem dX11_within_15 : decode cX11_within 15 = .ok (.ireturn, 1) := by decide +kernel
theorem dX11_allWithin_0 : decode cX11_allWithin 0 = .ok (.aload_n 0, 1) := by decide +kernel
theorem dX11_allWithin_1 : decode cX11_allWithin 1 = .ok (.arraylength, 1) := by decide +kernel
theorem dX11_allWithin_2 : decode cX11_allWithin 2 = .ok (.aload_n 1, 1) := by decide +kernel
theorem dX11_allWithin_3 : decode cX11_allWithin 3 = .ok (.arraylength, 1) := by decide +kernel
theorem dX11_allWithin_4 : decode cX11_allWithin 4 = .ok (.if_icmp .ne 10, 3) := by decide +kernel
theorem dX11_allWithin_7 : decode cX11_allWithin 7 = .ok (.aload_n 0, 1) := by decide +kernel
theorem dX11_allWithin_8 : decode cX11_allWithin 8 = .ok (.arraylength, 1) := by decide +kernel
theorem dX11_allWithin_9 : decode cX11_allWithin 9 = .ok (.aload_n 2, 1) := by decide +kernel
theorem dX11_allWithin_10 : decode cX11_allWithin 10 = .ok (.arraylength, 1) := by decide +kernel
theorem dX11_allWithin_11 : decode cX11_allWithin 11 = .ok (.if_icmp .eq 5, 3) := by decide +kernel
theorem dX11_allWithin_14 : decode cX11_allWithin 14 = .ok (.iconst 0, 1) := by decide +kernel
theorem dX11_allWithin_15 : decode cX11_allWithin 15 = .ok (.ireturn, 1) := by decide +kernel
theorem dX11_allWithin_16 : decode cX11_allWithin 16 = .ok (.iconst 0, 1) := by decide +kernel
theorem dX11_allWithin_17 : decode cX11_allWithin 17 = .ok (.istore_n 3, 1) := by decide +kernel
theorem dX11_allWithin_18 : decode cX11_allWithin 18 = .ok (.iload_n 3, 1) := by decide +kernel
theorem dX11_allWithin_19 : decode cX11_allWithin 19 = .ok (.aload_n 0, 1) := by decide +kernel
theorem dX11_allWithin_20 : decode cX11_allWithin 20 = .ok (.arraylength, 1) := by decide +kernel
theorem dX11_allWithin_21 : decode cX11_allWithin 21 = .ok (.if_icmp .ge 26, 3) := by decide +kernel
theorem dX11_allWithin_24 : decode cX11_allWithin 24 = .ok (.aload_n 0, 1) := by decide +kernel
theorem dX11_allWithin_25 : decode cX11_allWithin 25 = .ok (.iload_n 3, 1) := by decide +kernel
theorem dX11_allWithin_26 : decode cX11_allWithin 26 = .ok (.iaload, 1) := by decide +kernel
theorem dX11_allWithin_27 : decode cX11_allWithin 27 = .ok (.aload_n 1, 1) := by decide +kernel
theorem dX11_allWithin_28 : decode cX11_allWithin 28 = .ok (.iload_n 3, 1) := by decide +kernel
theorem dX11_allWithin_29 : decode cX11_allWithin 29 = .ok (.iaload, 1) := by decide +kernel
theorem dX11_allWithin_30 : decode cX11_allWithin 30 = .ok (.aload_n 2, 1) := by decide +kernel
theorem dX11_allWithin_31 : decode cX11_allWithin 31 = .ok (.iload_n 3, 1) := by decide +kernel
theorem dX11_allWithin_32 : decode cX11_allWithin 32 = .ok (.iaload, 1) := by decide +kernel
theorem dX11_allWithin_33 : decode cX11_allWithin 33 = .ok (.invokestatic 97, 3) := by decide +kernel
theorem dX11_allWithin_36 : decode cX11_allWithin 36 = .ok (.ifCond .ne 5, 3) := by decide +kernel
theorem dX11_allWithin_39 : decode cX11_allWithin 39 = .ok (.iconst 0, 1) := by decide +kernel
theorem dX11_allWithin_40 : decode cX11_allWithin 40 = .ok (.ireturn, 1) := by decide +kernel
theorem dX11_allWithin_41 : decode cX11_allWithin 41 = .ok (.iinc 3 1, 3) := by decide +kernel
theorem dX11_allWithin_44 : decode cX11_allWithin 44 = .ok (.goto (-26), 3) := by decide +kernel
theorem dX11_allWithin_47 : decode cX11_allWithin 47 = .ok (.iconst 1, 1) := by decide +kernel
theorem dX11_allWithin_48 : decode cX11_allWithin 48 = .ok (.ireturn, 1) := by decide +kernel
theorem dX11_isIn_0 : decode cX11_isIn 0 = .ok (.iload_n 0, 1) := by decide +kernel
theorem dX11_isIn_1 : decode cX11_isIn 1 = .ok (.iload_n 1, 1) := by decide +kernel
theorem dX11_isIn_2 : decode cX11_isIn 2 = .ok (.ishr, 1) := by decide +kernel
theorem dX11_isIn_3 : decode cX11_isIn 3 = .ok (.iconst 1, 1) := by decide +kernel
theorem dX11_isIn_4 : decode cX11_isIn 4 = .ok (.iand, 1) := by decide +kernel
theorem dX11_isIn_5 : decode cX11_isIn 5 = .ok (.iconst 1, 1) := by decide +kernel
theorem dX11_isIn_6 : decode cX11_isIn 6 = .ok (.if_icmp .ne 7, 3) := by decide +kernel
theorem dX11_isIn_9 : decode cX11_isIn 9 = .ok (.iconst 1, 1) := by decide +kernel
theorem dX11_isIn_10 : decode cX11_isIn 10 = .ok (.goto 4, 3) := by decide +kernel
theorem dX11_isIn_13 : decode cX11_isIn 13 = .ok (.iconst 0, 1) := by decide +kernel
theorem dX11_isIn_14 : decode cX11_isIn 14 = .ok (.ireturn, 1) := by decide +kernel
theorem dL_law_0 : decode cL_law 0 = .ok (.new 7, 3) := by decide +kernel
theorem dL_law_3 : decode cL_law 3 = .ok (.dup, 1) := by decide +kernel
theorem dL_law_4 : decode cL_law 4 = .ok (.invokespecial 9, 3) := by decide +kernel
theorem dL_law_7 : decode cL_law 7 = .ok (.astore_n 1, 1) := by decide +kernel
theorem dL_law_8 : decode cL_law 8 = .ok (.new 10, 3) := by decide +kernel
theorem dL_law_11 : decode cL_law 11 = .ok (.dup, 1) := by decide +kernel
theorem dL_law_12 : decode cL_law 12 = .ok (.invokespecial 12, 3) := by decide +kernel
theorem dL_law_15 : decode cL_law 15 = .ok (.astore_n 2, 1) := by decide +kernel
theorem dL_law_16 : decode cL_law 16 = .ok (.iconst 0, 1) := by decide +kernel
theorem dL_law_17 : decode cL_law 17 = .ok (.istore_n 3, 1) := by decide +kernel
theorem dL_law_18 : decode cL_law 18 = .ok (.iload_n 3, 1) := by decide +kernel
theorem dL_law_19 : decode cL_law 19 = .ok (.aload_n 0, 1) := by decide +kernel
theorem dL_law_20 : decode cL_law 20 = .ok (.arraylength, 1) := by decide +kernel
theorem dL_law_21 : decode cL_law 21 = .ok (.bipush 7, 2) := by decide +kernel
theorem dL_law_23 : decode cL_law 23 = .ok (.isub, 1) := by decide +kernel
theorem dL_law_24 : decode cL_law 24 = .ok (.if_icmp .gt 948, 3) := by decide +kernel
theorem dL_law_27 : decode cL_law 27 = .ok (.aload_n 0, 1) := by decide +kernel
theorem dL_law_28 : decode cL_law 28 = .ok (.iload_n 3, 1) := by decide +kernel
theorem dL_law_29 : decode cL_law 29 = .ok (.iaload, 1) := by decide +kernel
theorem dL_law_30 : decode cL_law 30 = .ok (.bipush 31, 2) := by decide +kernel
theorem dL_law_32 : decode cL_law 32 = .ok (.iand, 1) := by decide +kernel
theorem dL_law_33 : decode cL_law 33 = .ok (.tableswitch 933 0 31 #[143, 176, 251, 284, 307, 320, 333, 356, 369, 402, 425, 448, 471, 494, 527, 550, 583, 606, 639, 682, 695, 708, 721, 734, 757, 770, 803, 827, 850, 873, 896, 919], 143) := by decide +kernel
theorem dL_law_176 : decode cL_law 176 = .ok (.aload_n 1, 1) := by decide +kernel
theorem dL_law_177 : decode cL_law 177 = .ok (.aload_n 0, 1) := by decide +kernel
theorem dL_law_178 : decode cL_law 178 = .ok (.iload_n 3, 1) := by decide +kernel
theorem dL_law_179 : decode cL_law 179 = .ok (.iconst 1, 1) := by decide +kernel
theorem dL_law_180 : decode cL_law 180 = .ok (.iadd, 1) := by decide +kernel
theorem dL_law_181 : decode cL_law 181 = .ok (.iaload, 1) := by decide +kernel
theorem dL_law_182 : decode cL_law 182 = .ok (.aload_n 0, 1) := by decide +kernel
theorem dL_law_183 : decode cL_law 183 = .ok (.iload_n 3, 1) := by decide +kernel
theorem dL_law_184 : decode cL_law 184 = .ok (.iconst 2, 1) := by decide +kernel
theorem dL_law_185 : decode cL_law 185 = .ok (.iadd, 1) := by decide +kernel
theorem dL_law_186 : decode cL_law 186 = .ok (.iaload, 1) := by decide +kernel
theorem dL_law_187 : decode cL_law 187 = .ok (.invokevirtual 13, 3) := by decide +kernel
theorem dL_law_190 : decode cL_law 190 = .ok (.aload_n 2, 1) := by decide +kernel
theorem dL_law_191 : decode cL_law 191 = .ok (.aload_n 0, 1) := by decide +kernel
theorem dL_law_192 : decode cL_law 192 = .ok (.iload_n 3, 1) := by decide +kernel
theorem dL_law_193 : decode cL_law 193 = .ok (.iconst 1, 1) := by decide +kernel
theorem dL_law_194 : decode cL_law 194 = .ok (.iadd, 1) := by decide +kernel
theorem dL_law_195 : decode cL_law 195 = .ok (.iaload, 1) := by decide +kernel
theorem dL_law_196 : decode cL_law 196 = .ok (.aload_n 0, 1) := by decide +kernel
theorem dL_law_197 : decode cL_law 197 = .ok (.iload_n 3, 1) := by decide +kernel
theorem dL_law_198 : decode cL_law 198 = .ok (.iconst 2, 1) := by decide +kernel
theorem dL_law_199 : decode cL_law 199 = .ok (.iadd, 1) := by decide +kernel
theorem dL_law_200 : decode cL_law 200 = .ok (.iaload, 1) := by decide +kernel
theorem dL_law_201 : decode cL_law 201 = .ok (.invokevirtual 17, 3) := by decide +kernel
theorem dL_law_204 : decode cL_law 204 = .ok (.if_icmp .eq 762, 3) := by decide +kernel
theorem dL_law_207 : decode cL_law 207 = .ok (.iconst 0, 1) := by decide +kernel
theorem dL_law_208 : decode cL_law 208 = .ok (.ireturn, 1) := by decide +kernel
theorem dL_law_209 : decode cL_law 209 = .ok (.aload_n 1, 1) := by decide +kernel
theorem dL_law_210 : decode cL_law 210 = .ok (.aload_n 0, 1) := by decide +kernel
theorem dL_law_211 : decode cL_law 211 = .ok (.iload_n 3, 1) := by decide +kernel
theorem dL_law_212 : decode cL_law 212 = .ok (.iconst 1, 1) := by decide +kernel
theorem dL_law_213 : decode cL_law 213 = .ok (.iadd, 1) := by decide +kernel
theorem dL_law_214 : decode cL_law 214 = .ok (.iaload, 1) := by decide +kernel
theorem dL_law_215 : decode cL_law 215 = .ok (.aload_n 0, 1) := by decide +kernel
theorem dL_law_216 : decode cL_law 216 = .ok (.iload_n 3, 1) := by decide +kernel
theorem dL_law_217 : decode cL_law 217 = .ok (.iconst 2, 1) := by decide +kernel
theorem dL_law_218 : decode cL_law 218 = .ok (.iadd, 1) := by decide +kernel
theorem dL_law_219 : decode cL_law 219 = .ok (.iaload, 1) := by decide +kernel
theorem dL_law_220 : decode cL_law 220 = .ok (.aload_n 0, 1) := by decide +kernel
theorem dL_law_221 : decode cL_law 221 = .ok (.iload_n 3, 1) := by decide +kernel
theorem dL_law_222 : decode cL_law 222 = .ok (.iconst 3, 1) := by decide +kernel
theorem dL_law_223 : decode cL_law 223 = .ok (.iadd, 1) := by decide +kernel
theorem dL_law_224 : decode cL_law 224 = .ok (.iaload, 1) := by decide +kernel
theorem dL_law_225 : decode cL_law 225 = .ok (.aload_n 0, 1) := by decide +kernel
theorem dL_law_226 : decode cL_law 226 = .ok (.iload_n 3, 1) := by decide +kernel
theorem dL_law_227 : decode cL_law 227 = .ok (.iconst 4, 1) := by decide +kernel
theorem dL_law_228 : decode cL_law 228 = .ok (.iadd, 1) := by decide +kernel
theorem dL_law_229 : decode cL_law 229 = .ok (.iaload, 1) := by decide +kernel
theorem dL_law_230 : decode cL_law 230 = .ok (.aload_n 0, 1) := by decide +kernel
theorem dL_law_231 : decode cL_law 231 = .ok (.iload_n 3, 1) := by decide +kernel
theorem dL_law_232 : decode cL_law 232 = .ok (.iconst 5, 1) := by decide +kernel
theorem dL_law_233 : decode cL_law 233 = .ok (.iadd, 1) := by decide +kernel
theorem dL_law_234 : decode cL_law 234 = .ok (.iaload, 1) := by decide +kernel
theorem dL_law_235 : decode cL_law 235 = .ok (.aload_n 0, 1) := by decide +kernel
theorem dL_law_236 : decode cL_law 236 = .ok (.iload_n 3, 1) := by decide +kernel
theorem dL_law_237 : decode cL_law 237 = .ok (.bipush 6, 2) := by decide +kernel
theorem dL_law_239 : decode cL_law 239 = .ok (.iadd, 1) := by decide +kernel
theorem dL_law_240 : decode cL_law 240 = .ok (.iaload, 1) := by decide +kernel
theorem dL_law_241 : decode cL_law 241 = .ok (.invokevirtual 18, 3) := by decide +kernel
theorem dL_law_244 : decode cL_law 244 = .ok (.aload_n 2, 1) := by decide +kernel
theorem dL_law_245 : decode cL_law 245 = .ok (.aload_n 0, 1) := by decide +kernel
theorem dL_law_246 : decode cL_law 246 = .ok (.iload_n 3, 1) := by decide +kernel
theorem dL_law_247 : decode cL_law 247 = .ok (.iconst 1, 1) := by decide +kernel
theorem dL_law_248 : decode cL_law 248 = .ok (.iadd, 1) := by decide +kernel
theorem dL_law_249 : decode cL_law 249 = .ok (.iaload, 1) := by decide +kernel
theorem dL_law_250 : decode cL_law 250 = .ok (.aload_n 0, 1) := by decide +kernel
theorem dL_law_251 : decode cL_law 251 = .ok (.iload_n 3, 1) := by decide +kernel
theorem dL_law_252 : decode cL_law 252 = .ok (.iconst 2, 1) := by decide +kernel
theorem dL_law_253 : decode cL_law 253 = .ok (.iadd, 1) := by decide +kernel
theorem dL_law_254 : decode cL_law 254 = .ok (.iaload, 1) := by decide +kernel
theorem dL_law_255 : decode cL_law 255 = .ok (.aload_n 0, 1) := by decide +kernel
theorem dL_law_256 : decode cL_law 256 = .ok (.iload_n 3, 1) := by decide +kernel
theorem dL_law_257 : decode cL_law 257 = .ok (.iconst 3, 1) := by decide +kernel
theorem dL_law_258 : decode cL_law 258 = .ok (.iadd, 1) := by decide +kernel
theorem dL_law_259 : decode cL_law 259 = .ok (.iaload, 1) := by decide +kernel
theorem dL_law_260 : decode cL_law 260 = .ok (.aload_n 0, 1) := by decide +kernel
theorem dL_law_261 : decode cL_law 261 = .ok (.iload_n 3, 1) := by decide +kernel
theorem dL_law_262 : decode cL_law 262 = .ok (.iconst 4, 1) := by decide +kernel
theorem dL_law_263 : decode cL_law 263 = .ok (.iadd, 1) := by decide +kernel
theorem dL_law_264 : decode cL_law 264 = .ok (.iaload, 1) := by decide +kernel
theorem dL_law_265 : decode cL_law 265 = .ok (.aload_n 0, 1) := by decide +kernel
theorem dL_law_266 : decode cL_law 266 = .ok (.iload_n 3, 1) := by decide +kernel
theorem dL_law_267 : decode cL_law 267 = .ok (.iconst 5, 1) := by decide +kernel
theorem dL_law_268 : decode cL_law 268 = .ok (.iadd, 1) := by decide +kernel
theorem dL_law_269 : decode cL_law 269 = .ok (.iaload, 1) := by decide +kernel
theorem dL_law_270 : decode cL_law 270 = .ok (.aload_n 0, 1) := by decide +kernel
theorem dL_law_271 : decode cL_law 271 = .ok (.iload_n 3, 1) := by decide +kernel
theorem dL_law_272 : decode cL_law 272 = .ok (.bipush 6, 2) := by decide +kernel
theorem dL_law_274 : decode cL_law 274 = .ok (.iadd, 1) := by decide +kernel
theorem dL_law_275 : decode cL_law 275 = .ok (.iaload, 1) := by decide +kernel
theorem dL_law_276 : decode cL_law 276 = .ok (.invokevirtual 22, 3) := by decide +kernel
theorem dL_law_279 : decode cL_law 279 = .ok (.if_icmp .eq 687, 3) := by decide +kernel
theorem dL_law_282 : decode cL_law 282 = .ok (.iconst 0, 1) := by decide +kernel
theorem dL_law_283 : decode cL_law 283 = .ok (.ireturn, 1) := by decide +kernel
theorem dL_law_284 : decode cL_law 284 = .ok (.aload_n 1, 1) := by decide +kernel
theorem dL_law_285 : decode cL_law 285 = .ok (.aload_n 0, 1) := by decide +kernel
theorem dL_law_286 : decode cL_law 286 = .ok (.iload_n 3, 1) := by decide +kernel
theorem dL_law_287 : decode cL_law 287 = .ok (.iconst 1, 1) := by decide +kernel
theorem dL_law_288 : decode cL_law 288 = .ok (.iadd, 1) := by decide +kernel
theorem dL_law_289 : decode cL_law 289 = .ok (.iaload, 1) := by decide +kernel
theorem dL_law_290 : decode cL_law 290 = .ok (.aload_n 0, 1) := by decide +kernel
theorem dL_law_291 : decode cL_law 291 = .ok (.iload_n 3, 1) := by decide +kernel
theorem dL_law_292 : decode cL_law 292 = .ok (.iconst 2, 1) := by decide +kernel
theorem dL_law_293 : decode cL_law 293 = .ok (.iadd, 1) := by decide +kernel
theorem dL_law_294 : decode cL_law 294 = .ok (.iaload, 1) := by decide +kernel
theorem dL_law_295 : decode cL_law 295 = .ok (.invokevirtual 23, 3) := by decide +kernel
theorem dL_law_298 : decode cL_law 298 = .ok (.aload_n 2, 1) := by decide +kernel
theorem dL_law_299 : decode cL_law 299 = .ok (.aload_n 0, 1) := by decide +kernel
theorem dL_law_300 : decode cL_law 300 = .ok (.iload_n 3, 1) := by decide +kernel
theorem dL_law_301 : decode cL_law 301 = .ok (.iconst 1, 1) := by decide +kernel
theorem dL_law_302 : decode cL_law 302 = .ok (.iadd, 1) := by decide +kernel
theorem dL_law_303 : decode cL_law 303 = .ok (.iaload, 1) := by decide +kernel
theorem dL_law_304 : decode cL_law 304 = .ok (.aload_n 0, 1) := by decide +kernel
theorem dL_law_305 : decode cL_law 305 = .ok (.iload_n 3, 1) := by decide +kernel
theorem dL_law_306 : decode cL_law 306 = .ok (.iconst 2, 1) := by decide +kernel
theorem dL_law_307 : decode cL_law 307 = .ok (.iadd, 1) := by decide +kernel
theorem dL_law_308 : decode cL_law 308 = .ok (.iaload, 1) := by decide +kernel
theorem dL_law_309 : decode cL_law 309 = .ok (.invokevirtual 26, 3) := by decide +kernel
theorem dL_law_312 : decode cL_law 312 = .ok (.if_icmp .eq 654, 3) := by decide +kernel
theorem dL_law_315 : decode cL_law 315 = .ok (.iconst 0, 1) := by decide +kernel
theorem dL_law_316 : decode cL_law 316 = .ok (.ireturn, 1) := by decide +kernel
theorem dL_law_317 : decode cL_law 317 = .ok (.aload_n 1, 1) := by decide +kernel
theorem dL_law_318 : decode cL_law 318 = .ok (.aload_n 0, 1) := by decide +kernel
theorem dL_law_319 : decode cL_law 319 = .ok (.iload_n 3, 1) := by decide +kernel
theorem dL_law_320 : decode cL_law 320 = .ok (.iconst 1, 1) := by decide +kernel
theorem dL_law_321 : decode cL_law 321 = .ok (.iadd, 1) := by decide +kernel
theorem dL_law_322 : decode cL_law 322 = .ok (.iaload, 1) := by decide +kernel
theorem dL_law_323 : decode cL_law 323 = .ok (.invokevirtual 27, 3) := by decide +kernel
theorem dL_law_326 : decode cL_law 326 = .ok (.aload_n 2, 1) := by decide +kernel
theorem dL_law_327 : decode cL_law 327 = .ok (.aload_n 0, 1) := by decide +kernel
theorem dL_law_328 : decode cL_law 328 = .ok (.iload_n 3, 1) := by decide +kernel
theorem dL_law_329 : decode cL_law 329 = .ok (.iconst 1, 1) := by decide +kernel
theorem dL_law_330 : decode cL_law 330 = .ok (.iadd, 1) := by decide +kernel
theorem dL_law_331 : decode cL_law 331 = .ok (.iaload, 1) := by decide +kernel
theorem dL_law_332 : decode cL_law 332 = .ok (.invokevirtual 31, 3) := by decide +kernel
theorem dL_law_335 : decode cL_law 335 = .ok (.if_icmp .eq 631, 3) := by decide +kernel
theorem dL_law_338 : decode cL_law 338 = .ok (.iconst 0, 1) := by decide +kernel
theorem dL_law_339 : decode cL_law 339 = .ok (.ireturn, 1) := by decide +kernel
theorem dL_law_340 : decode cL_law 340 = .ok (.aload_n 1, 1) := by decide +kernel
theorem dL_law_341 : decode cL_law 341 = .ok (.invokevirtual 32, 3) := by decide +kernel
theorem dL_law_344 : decode cL_law 344 = .ok (.aload_n 2, 1) := by decide +kernel
theorem dL_law_345 : decode cL_law 345 = .ok (.invokevirtual 36, 3) := by decide +kernel
theorem dL_law_348 : decode cL_law 348 = .ok (.if_icmp .eq 618, 3) := by decide +kernel
theorem dL_law_351 : decode cL_law 351 = .ok (.iconst 0, 1) := by decide +kernel
theorem dL_law_352 : decode cL_law 352 = .ok (.ireturn, 1) := by decide +kernel
theorem dL_law_353 : decode cL_law 353 = .ok (.aload_n 1, 1) := by decide +kernel
theorem dL_law_354 : decode cL_law 354 = .ok (.invokevirtual 37, 3) := by decide +kernel
theorem dL_law_357 : decode cL_law 357 = .ok (.aload_n 2, 1) := by decide +kernel
theorem dL_law_358 : decode cL_law 358 = .ok (.invokevirtual 40, 3) := by decide +kernel
theorem dL_law_361 : decode cL_law 361 = .ok (.if_icmp .eq 605, 3) := by decide +kernel
theorem dL_law_364 : decode cL_law 364 = .ok (.iconst 0, 1) := by decide +kernel
theorem dL_law_365 : decode cL_law 365 = .ok (.ireturn, 1) := by decide +kernel
theorem dL_law_366 : decode cL_law 366 = .ok (.aload_n 1, 1) := by decide +kernel
theorem dL_law_367 : decode cL_law 367 = .ok (.aload_n 0, 1) := by decide +kernel
theorem dL_law_368 : decode cL_law 368 = .ok (.iload_n 3, 1) := by decide +kernel
theorem dL_law_369 : decode cL_law 369 = .ok (.iconst 1, 1) := by decide +kernel
theorem dL_law_370 : decode cL_law 370 = .ok (.iadd, 1) := by decide +kernel
theorem dL_law_371 : decode cL_law 371 = .ok (.iaload, 1) := by decide +kernel
theorem dL_law_372 : decode cL_law 372 = .ok (.invokevirtual 41, 3) := by decide +kernel
theorem dL_law_375 : decode cL_law 375 = .ok (.aload_n 2, 1) := by decide +kernel
theorem dL_law_376 : decode cL_law 376 = .ok (.aload_n 0, 1) := by decide +kernel
theorem dL_law_377 : decode cL_law 377 = .ok (.iload_n 3, 1) := by decide +kernel
theorem dL_law_378 : decode cL_law 378 = .ok (.iconst 1, 1) := by decide +kernel
theorem dL_law_379 : decode cL_law 379 = .ok (.iadd, 1) := by decide +kernel
theorem dL_law_380 : decode cL_law 380 = .ok (.iaload, 1) := by decide +kernel
theorem dL_law_381 : decode cL_law 381 = .ok (.invokevirtual 44, 3) := by decide +kernel
theorem dL_law_384 : decode cL_law 384 = .ok (.if_icmp .eq 582, 3) := by decide +kernel
theorem dL_law_387 : decode cL_law 387 = .ok (.iconst 0, 1) := by decide +kernel
theorem dL_law_388 : decode cL_law 388 = .ok (.ireturn, 1) := by decide +kernel
theorem dL_law_389 : decode cL_law 389 = .ok (.aload_n 1, 1) := by decide +kernel
theorem dL_law_390 : decode cL_law 390 = .ok (.invokevirtual 45, 3) := by decide +kernel
theorem dL_law_393 : decode cL_law 393 = .ok (.aload_n 2, 1) := by decide +kernel
theorem dL_law_394 : decode cL_law 394 = .ok (.invokevirtual 48, 3) := by decide +kernel
theorem dL_law_397 : decode cL_law 397 = .ok (.if_icmp .eq 569, 3) := by decide +kernel
theorem dL_law_400 : decode cL_law 400 = .ok (.iconst 0, 1) := by decide +kernel
theorem dL_law_401 : decode cL_law 401 = .ok (.ireturn, 1) := by decide +kernel
theorem dL_law_402 : decode cL_law 402 = .ok (.aload_n 1, 1) := by decide +kernel
theorem dL_law_403 : decode cL_law 403 = .ok (.aload_n 0, 1) := by decide +kernel
theorem dL_law_404 : decode cL_law 404 = .ok (.iload_n 3, 1) := by decide +kernel
theorem dL_law_405 : decode cL_law 405 = .ok (.iconst 1, 1) := by decide +kernel
theorem dL_law_406 : decode cL_law 406 = .ok (.iadd, 1) := by decide +kernel
theorem dL_law_407 : decode cL_law 407 = .ok (.iaload, 1) := by decide +kernel
theorem dL_law_408 : decode cL_law 408 = .ok (.aload_n 0, 1) := by decide +kernel
theorem dL_law_409 : decode cL_law 409 = .ok (.iload_n 3, 1) := by decide +kernel
theorem dL_law_410 : decode cL_law 410 = .ok (.iconst 2, 1) := by decide +kernel
theorem dL_law_411 : decode cL_law 411 = .ok (.iadd, 1) := by decide +kernel
theorem dL_law_412 : decode cL_law 412 = .ok (.iaload, 1) := by decide +kernel
theorem dL_law_413 : decode cL_law 413 = .ok (.invokevirtual 49, 3) := by decide +kernel
theorem dL_law_416 : decode cL_law 416 = .ok (.aload_n 2, 1) := by decide +kernel
theorem dL_law_417 : decode cL_law 417 = .ok (.aload_n 0, 1) := by decide +kernel
theorem dL_law_418 : decode cL_law 418 = .ok (.iload_n 3, 1) := by decide +kernel
theorem dL_law_419 : decode cL_law 419 = .ok (.iconst 1, 1) := by decide +kernel
theorem dL_law_420 : decode cL_law 420 = .ok (.iadd, 1) := by decide +kernel
theorem dL_law_421 : decode cL_law 421 = .ok (.iaload, 1) := by decide +kernel
theorem dL_law_422 : decode cL_law 422 = .ok (.aload_n 0, 1) := by decide +kernel
theorem dL_law_423 : decode cL_law 423 = .ok (.iload_n 3, 1) := by decide +kernel
theorem dL_law_424 : decode cL_law 424 = .ok (.iconst 2, 1) := by decide +kernel
theorem dL_law_425 : decode cL_law 425 = .ok (.iadd, 1) := by decide +kernel
theorem dL_law_426 : decode cL_law 426 = .ok (.iaload, 1) := by decide +kernel
theorem dL_law_427 : decode cL_law 427 = .ok (.invokevirtual 52, 3) := by decide +kernel
theorem dL_law_430 : decode cL_law 430 = .ok (.if_icmp .eq 536, 3) := by decide +kernel
theorem dL_law_433 : decode cL_law 433 = .ok (.iconst 0, 1) := by decide +kernel
theorem dL_law_434 : decode cL_law 434 = .ok (.ireturn, 1) := by decide +kernel
theorem dL_law_435 : decode cL_law 435 = .ok (.aload_n 1, 1) := by decide +kernel
theorem dL_law_436 : decode cL_law 436 = .ok (.aload_n 0, 1) := by decide +kernel
theorem dL_law_437 : decode cL_law 437 = .ok (.iload_n 3, 1) := by decide +kernel
theorem dL_law_438 : decode cL_law 438 = .ok (.iconst 1, 1) := by decide +kernel
theorem dL_law_439 : decode cL_law 439 = .ok (.iadd, 1) := by decide +kernel
theorem dL_law_440 : decode cL_law 440 = .ok (.iaload, 1) := by decide +kernel
theorem dL_law_441 : decode cL_law 441 = .ok (.invokevirtual 53, 3) := by decide +kernel
theorem dL_law_444 : decode cL_law 444 = .ok (.aload_n 2, 1) := by decide +kernel
theorem dL_law_445 : decode cL_law 445 = .ok (.aload_n 0, 1) := by decide +kernel
theorem dL_law_446 : decode cL_law 446 = .ok (.iload_n 3, 1) := by decide +kernel
theorem dL_law_447 : decode cL_law 447 = .ok (.iconst 1, 1) := by decide +kernel
theorem dL_law_448 : decode cL_law 448 = .ok (.iadd, 1) := by decide +kernel
theorem dL_law_449 : decode cL_law 449 = .ok (.iaload, 1) := by decide +kernel
theorem dL_law_450 : decode cL_law 450 = .ok (.invokevirtual 56, 3) := by decide +kernel
theorem dL_law_453 : decode cL_law 453 = .ok (.if_icmp .eq 513, 3) := by decide +kernel
theorem dL_law_456 : decode cL_law 456 = .ok (.iconst 0, 1) := by decide +kernel
theorem dL_law_457 : decode cL_law 457 = .ok (.ireturn, 1) := by decide +kernel
theorem dL_law_458 : decode cL_law 458 = .ok (.aload_n 1, 1) := by decide +kernel
theorem dL_law_459 : decode cL_law 459 = .ok (.aload_n 0, 1) := by decide +kernel
theorem dL_law_460 : decode cL_law 460 = .ok (.iload_n 3, 1) := by decide +kernel
theorem dL_law_461 : decode cL_law 461 = .ok (.iconst 1, 1) := by decide +kernel
theorem dL_law_462 : decode cL_law 462 = .ok (.iadd, 1) := by decide +kernel
theorem dL_law_463 : decode cL_law 463 = .ok (.iaload, 1) := by decide +kernel
theorem dL_law_464 : decode cL_law 464 = .ok (.invokevirtual 57, 3) := by decide +kernel
theorem dL_law_467 : decode cL_law 467 = .ok (.aload_n 2, 1) := by decide +kernel
theorem dL_law_468 : decode cL_law 468 = .ok (.aload_n 0, 1) := by decide +kernel
theorem dL_law_469 : decode cL_law 469 = .ok (.iload_n 3, 1) := by decide +kernel
theorem dL_law_470 : decode cL_law 470 = .ok (.iconst 1, 1) := by decide +kernel
theorem dL_law_471 : decode cL_law 471 = .ok (.iadd, 1) := by decide +kernel
theorem dL_law_472 : decode cL_law 472 = .ok (.iaload, 1) := by decide +kernel
theorem dL_law_473 : decode cL_law 473 = .ok (.invokevirtual 60, 3) := by decide +kernel
theorem dL_law_476 : decode cL_law 476 = .ok (.if_icmp .eq 490, 3) := by decide +kernel
theorem dL_law_479 : decode cL_law 479 = .ok (.iconst 0, 1) := by decide +kernel
theorem dL_law_480 : decode cL_law 480 = .ok (.ireturn, 1) := by decide +kernel
theorem dL_law_481 : decode cL_law 481 = .ok (.aload_n 1, 1) := by decide +kernel
theorem dL_law_482 : decode cL_law 482 = .ok (.aload_n 0, 1) := by decide +kernel
theorem dL_law_483 : decode cL_law 483 = .ok (.iload_n 3, 1) := by decide +kernel
theorem dL_law_484 : decode cL_law 484 = .ok (.iconst 1, 1) := by decide +kernel
theorem dL_law_485 : decode cL_law 485 = .ok (.iadd, 1) := by decide +kernel
theorem dL_law_486 : decode cL_law 486 = .ok (.iaload, 1) := by decide +kernel
theorem dL_law_487 : decode cL_law 487 = .ok (.invokevirtual 61, 3) := by decide +kernel
theorem dL_law_490 : decode cL_law 490 = .ok (.aload_n 2, 1) := by decide +kernel
theorem dL_law_491 : decode cL_law 491 = .ok (.aload_n 0, 1) := by decide +kernel
theorem dL_law_492 : decode cL_law 492 = .ok (.iload_n 3, 1) := by decide +kernel
theorem dL_law_493 : decode cL_law 493 = .ok (.iconst 1, 1) := by decide +kernel
theorem dL_law_494 : decode cL_law 494 = .ok (.iadd, 1) := by decide +kernel
theorem dL_law_495 : decode cL_law 495 = .ok (.iaload, 1) := by decide +kernel
theorem dL_law_496 : decode cL_law 496 = .ok (.invokevirtual 64, 3) := by decide +kernel
theorem dL_law_499 : decode cL_law 499 = .ok (.if_icmp .eq 467, 3) := by decide +kernel
theorem dL_law_502 : decode cL_law 502 = .ok (.iconst 0, 1) := by decide +kernel
theorem dL_law_503 : decode cL_law 503 = .ok (.ireturn, 1) := by decide +kernel
theorem dL_law_504 : decode cL_law 504 = .ok (.aload_n 1, 1) := by decide +kernel
theorem dL_law_505 : decode cL_law 505 = .ok (.aload_n 0, 1) := by decide +kernel
theorem dL_law_506 : decode cL_law 506 = .ok (.iload_n 3, 1) := by decide +kernel
theorem dL_law_507 : decode cL_law 507 = .ok (.iconst 1, 1) := by decide +kernel
theorem dL_law_508 : decode cL_law 508 = .ok (.iadd, 1) := by decide +kernel
theorem dL_law_509 : decode cL_law 509 = .ok (.iaload, 1) := by decide +kernel
theorem dL_law_510 : decode cL_law 510 = .ok (.invokevirtual 65, 3) := by decide +kernel
theorem dL_law_513 : decode cL_law 513 = .ok (.aload_n 2, 1) := by decide +kernel
theorem dL_law_514 : decode cL_law 514 = .ok (.aload_n 0, 1) := by decide +kernel
theorem dL_law_515 : decode cL_law 515 = .ok (.iload_n 3, 1) := by decide +kernel
theorem dL_law_516 : decode cL_law 516 = .ok (.iconst 1, 1) := by decide +kernel
theorem dL_law_517 : decode cL_law 517 = .ok (.iadd, 1) := by decide +kernel
theorem dL_law_518 : decode cL_law 518 = .ok (.iaload, 1) := by decide +kernel
theorem dL_law_519 : decode cL_law 519 = .ok (.invokevirtual 68, 3) := by decide +kernel
theorem dL_law_522 : decode cL_law 522 = .ok (.if_icmp .eq 444, 3) := by decide +kernel
theorem dL_law_525 : decode cL_law 525 = .ok (.iconst 0, 1) := by decide +kernel
theorem dL_law_526 : decode cL_law 526 = .ok (.ireturn, 1) := by decide +kernel
theorem dL_law_527 : decode cL_law 527 = .ok (.aload_n 1, 1) := by decide +kernel
theorem dL_law_528 : decode cL_law 528 = .ok (.aload_n 0, 1) := by decide +kernel
theorem dL_law_529 : decode cL_law 529 = .ok (.iload_n 3, 1) := by decide +kernel
theorem dL_law_530 : decode cL_law 530 = .ok (.iconst 1, 1) := by decide +kernel
theorem dL_law_531 : decode cL_law 531 = .ok (.iadd, 1) := by decide +kernel
theorem dL_law_532 : decode cL_law 532 = .ok (.iaload, 1) := by decide +kernel
theorem dL_law_533 : decode cL_law 533 = .ok (.aload_n 0, 1) := by decide +kernel
theorem dL_law_534 : decode cL_law 534 = .ok (.iload_n 3, 1) := by decide +kernel
theorem dL_law_535 : decode cL_law 535 = .ok (.iconst 2, 1) := by decide +kernel
theorem dL_law_536 : decode cL_law 536 = .ok (.iadd, 1) := by decide +kernel
theorem dL_law_537 : decode cL_law 537 = .ok (.iaload, 1) := by decide +kernel
theorem dL_law_538 : decode cL_law 538 = .ok (.invokevirtual 69, 3) := by decide +kernel
theorem dL_law_541 : decode cL_law 541 = .ok (.aload_n 2, 1) := by decide +kernel
theorem dL_law_542 : decode cL_law 542 = .ok (.aload_n 0, 1) := by decide +kernel
theorem dL_law_543 : decode cL_law 543 = .ok (.iload_n 3, 1) := by decide +kernel
theorem dL_law_544 : decode cL_law 544 = .ok (.iconst 1, 1) := by decide +kernel
theorem dL_law_545 : decode cL_law 545 = .ok (.iadd, 1) := by decide +kernel
theorem dL_law_546 : decode cL_law 546 = .ok (.iaload, 1) := by decide +kernel
theorem dL_law_547 : decode cL_law 547 = .ok (.aload_n 0, 1) := by decide +kernel
theorem dL_law_548 : decode cL_law 548 = .ok (.iload_n 3, 1) := by decide +kernel
theorem dL_law_549 : decode cL_law 549 = .ok (.iconst 2, 1) := by decide +kernel
theorem dL_law_550 : decode cL_law 550 = .ok (.iadd, 1) := by decide +kernel
theorem dL_law_551 : decode cL_law 551 = .ok (.iaload, 1) := by decide +kernel
theorem dL_law_552 : decode cL_law 552 = .ok (.invokevirtual 72, 3) := by decide +kernel
theorem dL_law_555 : decode cL_law 555 = .ok (.if_icmp .eq 411, 3) := by decide +kernel
theorem dL_law_558 : decode cL_law 558 = .ok (.iconst 0, 1) := by decide +kernel
theorem dL_law_559 : decode cL_law 559 = .ok (.ireturn, 1) := by decide +kernel
theorem dL_law_560 : decode cL_law 560 = .ok (.aload_n 1, 1) := by decide +kernel
theorem dL_law_561 : decode cL_law 561 = .ok (.aload_n 0, 1) := by decide +kernel
theorem dL_law_562 : decode cL_law 562 = .ok (.iload_n 3, 1) := by decide +kernel
theorem dL_law_563 : decode cL_law 563 = .ok (.iconst 1, 1) := by decide +kernel
theorem dL_law_564 : decode cL_law 564 = .ok (.iadd, 1) := by decide +kernel
theorem dL_law_565 : decode cL_law 565 = .ok (.iaload, 1) := by decide +kernel
theorem dL_law_566 : decode cL_law 566 = .ok (.invokevirtual 73, 3) := by decide +kernel
theorem dL_law_569 : decode cL_law 569 = .ok (.aload_n 2, 1) := by decide +kernel
theorem dL_law_570 : decode cL_law 570 = .ok (.aload_n 0, 1) := by decide +kernel
theorem dL_law_571 : decode cL_law 571 = .ok (.iload_n 3, 1) := by decide +kernel
theorem dL_law_572 : decode cL_law 572 = .ok (.iconst 1, 1) := by decide +kernel
theorem dL_law_573 : decode cL_law 573 = .ok (.iadd, 1) := by decide +kernel
theorem dL_law_574 : decode cL_law 574 = .ok (.iaload, 1) := by decide +kernel
theorem dL_law_575 : decode cL_law 575 = .ok (.invokevirtual 76, 3) := by decide +kernel
theorem dL_law_578 : decode cL_law 578 = .ok (.if_icmp .eq 388, 3) := by decide +kernel
theorem dL_law_581 : decode cL_law 581 = .ok (.iconst 0, 1) := by decide +kernel
theorem dL_law_582 : decode cL_law 582 = .ok (.ireturn, 1) := by decide +kernel
theorem dL_law_583 : decode cL_law 583 = .ok (.aload_n 1, 1) := by decide +kernel
theorem dL_law_584 : decode cL_law 584 = .ok (.aload_n 0, 1) := by decide +kernel
theorem dL_law_585 : decode cL_law 585 = .ok (.iload_n 3, 1) := by decide +kernel
theorem dL_law_586 : decode cL_law 586 = .ok (.iconst 1, 1) := by decide +kernel
theorem dL_law_587 : decode cL_law 587 = .ok (.iadd, 1) := by decide +kernel
theorem dL_law_588 : decode cL_law 588 = .ok (.iaload, 1) := by decide +kernel
theorem dL_law_589 : decode cL_law 589 = .ok (.aload_n 0, 1) := by decide +kernel
theorem dL_law_590 : decode cL_law 590 = .ok (.iload_n 3, 1) := by decide +kernel
theorem dL_law_591 : decode cL_law 591 = .ok (.iconst 2, 1) := by decide +kernel
theorem dL_law_592 : decode cL_law 592 = .ok (.iadd, 1) := by decide +kernel
theorem dL_law_593 : decode cL_law 593 = .ok (.iaload, 1) := by decide +kernel
theorem dL_law_594 : decode cL_law 594 = .ok (.invokevirtual 77, 3) := by decide +kernel
theorem dL_law_597 : decode cL_law 597 = .ok (.aload_n 2, 1) := by decide +kernel
theorem dL_law_598 : decode cL_law 598 = .ok (.aload_n 0, 1) := by decide +kernel
theorem dL_law_599 : decode cL_law 599 = .ok (.iload_n 3, 1) := by decide +kernel
theorem dL_law_600 : decode cL_law 600 = .ok (.iconst 1, 1) := by decide +kernel
theorem dL_law_601 : decode cL_law 601 = .ok (.iadd, 1) := by decide +kernel
theorem dL_law_602 : decode cL_law 602 = .ok (.iaload, 1) := by decide +kernel
theorem dL_law_603 : decode cL_law 603 = .ok (.aload_n 0, 1) := by decide +kernel
theorem dL_law_604 : decode cL_law 604 = .ok (.iload_n 3, 1) := by decide +kernel
theorem dL_law_605 : decode cL_law 605 = .ok (.iconst 2, 1) := by decide +kernel
theorem dL_law_606 : decode cL_law 606 = .ok (.iadd, 1) := by decide +kernel
theorem dL_law_607 : decode cL_law 607 = .ok (.iaload, 1) := by decide +kernel
theorem dL_law_608 : decode cL_law 608 = .ok (.invokevirtual 80, 3) := by decide +kernel
theorem dL_law_611 : decode cL_law 611 = .ok (.if_icmp .eq 355, 3) := by decide +kernel
theorem dL_law_614 : decode cL_law 614 = .ok (.iconst 0, 1) := by decide +kernel
theorem dL_law_615 : decode cL_law 615 = .ok (.ireturn, 1) := by decide +kernel
theorem dL_law_616 : decode cL_law 616 = .ok (.aload_n 1, 1) := by decide +kernel
theorem dL_law_617 : decode cL_law 617 = .ok (.aload_n 0, 1) := by decide +kernel
theorem dL_law_618 : decode cL_law 618 = .ok (.iload_n 3, 1) := by decide +kernel
theorem dL_law_619 : decode cL_law 619 = .ok (.iconst 1, 1) := by decide +kernel
theorem dL_law_620 : decode cL_law 620 = .ok (.iadd, 1) := by decide +kernel
theorem dL_law_621 : decode cL_law 621 = .ok (.iaload, 1) := by decide +kernel
theorem dL_law_622 : decode cL_law 622 = .ok (.invokevirtual 81, 3) := by decide +kernel
theorem dL_law_625 : decode cL_law 625 = .ok (.aload_n 2, 1) := by decide +kernel
theorem dL_law_626 : decode cL_law 626 = .ok (.aload_n 0, 1) := by decide +kernel
theorem dL_law_627 : decode cL_law 627 = .ok (.iload_n 3, 1) := by decide +kernel
theorem dL_law_628 : decode cL_law 628 = .ok (.iconst 1, 1) := by decide +kernel
theorem dL_law_629 : decode cL_law 629 = .ok (.iadd, 1) := by decide +kernel
theorem dL_law_630 : decode cL_law 630 = .ok (.iaload, 1) := by decide +kernel
theorem dL_law_631 : decode cL_law 631 = .ok (.invokevirtual 84, 3) := by decide +kernel
theorem dL_law_634 : decode cL_law 634 = .ok (.if_icmp .eq 332, 3) := by decide +kernel
theorem dL_law_637 : decode cL_law 637 = .ok (.iconst 0, 1) := by decide +kernel
theorem dL_law_638 : decode cL_law 638 = .ok (.ireturn, 1) := by decide +kernel
theorem dL_law_639 : decode cL_law 639 = .ok (.aload_n 1, 1) := by decide +kernel
theorem dL_law_640 : decode cL_law 640 = .ok (.aload_n 0, 1) := by decide +kernel
theorem dL_law_641 : decode cL_law 641 = .ok (.iload_n 3, 1) := by decide +kernel
theorem dL_law_642 : decode cL_law 642 = .ok (.iconst 1, 1) := by decide +kernel
theorem dL_law_643 : decode cL_law 643 = .ok (.iadd, 1) := by decide +kernel
theorem dL_law_644 : decode cL_law 644 = .ok (.iaload, 1) := by decide +kernel
theorem dL_law_645 : decode cL_law 645 = .ok (.aload_n 0, 1) := by decide +kernel
theorem dL_law_646 : decode cL_law 646 = .ok (.iload_n 3, 1) := by decide +kernel
theorem dL_law_647 : decode cL_law 647 = .ok (.iconst 2, 1) := by decide +kernel
theorem dL_law_648 : decode cL_law 648 = .ok (.iadd, 1) := by decide +kernel
theorem dL_law_649 : decode cL_law 649 = .ok (.iaload, 1) := by decide +kernel
theorem dL_law_650 : decode cL_law 650 = .ok (.invokevirtual 85, 3) := by decide +kernel
theorem dL_law_653 : decode cL_law 653 = .ok (.aload_n 2, 1) := by decide +kernel
theorem dL_law_654 : decode cL_law 654 = .ok (.aload_n 0, 1) := by decide +kernel
theorem dL_law_655 : decode cL_law 655 = .ok (.iload_n 3, 1) := by decide +kernel
theorem dL_law_656 : decode cL_law 656 = .ok (.iconst 1, 1) := by decide +kernel
theorem dL_law_657 : decode cL_law 657 = .ok (.iadd, 1) := by decide +kernel
theorem dL_law_658 : decode cL_law 658 = .ok (.iaload, 1) := by decide +kernel
theorem dL_law_659 : decode cL_law 659 = .ok (.aload_n 0, 1) := by decide +kernel
theorem dL_law_660 : decode cL_law 660 = .ok (.iload_n 3, 1) := by decide +kernel
theorem dL_law_661 : decode cL_law 661 = .ok (.iconst 2, 1) := by decide +kernel
theorem dL_law_662 : decode cL_law 662 = .ok (.iadd, 1) := by decide +kernel
theorem dL_law_663 : decode cL_law 663 = .ok (.iaload, 1) := by decide +kernel
theorem dL_law_664 : decode cL_law 664 = .ok (.invokevirtual 88, 3) := by decide +kernel
theorem dL_law_667 : decode cL_law 667 = .ok (.if_icmp .eq 299, 3) := by decide +kernel
theorem dL_law_670 : decode cL_law 670 = .ok (.iconst 0, 1) := by decide +kernel
theorem dL_law_671 : decode cL_law 671 = .ok (.ireturn, 1) := by decide +kernel
theorem dL_law_672 : decode cL_law 672 = .ok (.aload_n 1, 1) := by decide +kernel
theorem dL_law_673 : decode cL_law 673 = .ok (.aload_n 0, 1) := by decide +kernel
theorem dL_law_674 : decode cL_law 674 = .ok (.iload_n 3, 1) := by decide +kernel
theorem dL_law_675 : decode cL_law 675 = .ok (.iconst 1, 1) := by decide +kernel
theorem dL_law_676 : decode cL_law 676 = .ok (.iadd, 1) := by decide +kernel
theorem dL_law_677 : decode cL_law 677 = .ok (.iaload, 1) := by decide +kernel
theorem dL_law_678 : decode cL_law 678 = .ok (.aload_n 0, 1) := by decide +kernel
theorem dL_law_679 : decode cL_law 679 = .ok (.iload_n 3, 1) := by decide +kernel
theorem dL_law_680 : decode cL_law 680 = .ok (.iconst 2, 1) := by decide +kernel
theorem dL_law_681 : decode cL_law 681 = .ok (.iadd, 1) := by decide +kernel
theorem dL_law_682 : decode cL_law 682 = .ok (.iaload, 1) := by decide +kernel
theorem dL_law_683 : decode cL_law 683 = .ok (.aload_n 0, 1) := by decide +kernel
theorem dL_law_684 : decode cL_law 684 = .ok (.iload_n 3, 1) := by decide +kernel
theorem dL_law_685 : decode cL_law 685 = .ok (.iconst 3, 1) := by decide +kernel
theorem dL_law_686 : decode cL_law 686 = .ok (.iadd, 1) := by decide +kernel
theorem dL_law_687 : decode cL_law 687 = .ok (.iaload, 1) := by decide +kernel
theorem dL_law_688 : decode cL_law 688 = .ok (.invokevirtual 89, 3) := by decide +kernel
theorem dL_law_691 : decode cL_law 691 = .ok (.aload_n 2, 1) := by decide +kernel
theorem dL_law_692 : decode cL_law 692 = .ok (.aload_n 0, 1) := by decide +kernel
theorem dL_law_693 : decode cL_law 693 = .ok (.iload_n 3, 1) := by decide +kernel
theorem dL_law_694 : decode cL_law 694 = .ok (.iconst 1, 1) := by decide +kernel
theorem dL_law_695 : decode cL_law 695 = .ok (.iadd, 1) := by decide +kernel
theorem dL_law_696 : decode cL_law 696 = .ok (.iaload, 1) := by decide +kernel
theorem dL_law_697 : decode cL_law 697 = .ok (.aload_n 0, 1) := by decide +kernel
theorem dL_law_698 : decode cL_law 698 = .ok (.iload_n 3, 1) := by decide +kernel
theorem dL_law_699 : decode cL_law 699 = .ok (.iconst 2, 1) := by decide +kernel
theorem dL_law_700 : decode cL_law 700 = .ok (.iadd, 1) := by decide +kernel
theorem dL_law_701 : decode cL_law 701 = .ok (.iaload, 1) := by decide +kernel
theorem dL_law_702 : decode cL_law 702 = .ok (.aload_n 0, 1) := by decide +kernel
theorem dL_law_703 : decode cL_law 703 = .ok (.iload_n 3, 1) := by decide +kernel
theorem dL_law_704 : decode cL_law 704 = .ok (.iconst 3, 1) := by decide +kernel
theorem dL_law_705 : decode cL_law 705 = .ok (.iadd, 1) := by decide +kernel
theorem dL_law_706 : decode cL_law 706 = .ok (.iaload, 1) := by decide +kernel
theorem dL_law_707 : decode cL_law 707 = .ok (.invokevirtual 93, 3) := by decide +kernel
theorem dL_law_710 : decode cL_law 710 = .ok (.if_icmp .eq 256, 3) := by decide +kernel
theorem dL_law_713 : decode cL_law 713 = .ok (.iconst 0, 1) := by decide +kernel
theorem dL_law_714 : decode cL_law 714 = .ok (.ireturn, 1) := by decide +kernel
theorem dL_law_715 : decode cL_law 715 = .ok (.aload_n 1, 1) := by decide +kernel
theorem dL_law_716 : decode cL_law 716 = .ok (.invokevirtual 94, 3) := by decide +kernel
theorem dL_law_719 : decode cL_law 719 = .ok (.aload_n 2, 1) := by decide +kernel
theorem dL_law_720 : decode cL_law 720 = .ok (.invokevirtual 97, 3) := by decide +kernel
theorem dL_law_723 : decode cL_law 723 = .ok (.if_icmp .eq 243, 3) := by decide +kernel
theorem dL_law_726 : decode cL_law 726 = .ok (.iconst 0, 1) := by decide +kernel
theorem dL_law_727 : decode cL_law 727 = .ok (.ireturn, 1) := by decide +kernel
theorem dL_law_728 : decode cL_law 728 = .ok (.aload_n 1, 1) := by decide +kernel
theorem dL_law_729 : decode cL_law 729 = .ok (.invokevirtual 98, 3) := by decide +kernel
theorem dL_law_732 : decode cL_law 732 = .ok (.aload_n 2, 1) := by decide +kernel
theorem dL_law_733 : decode cL_law 733 = .ok (.invokevirtual 101, 3) := by decide +kernel
theorem dL_law_736 : decode cL_law 736 = .ok (.if_icmp .eq 230, 3) := by decide +kernel
theorem dL_law_739 : decode cL_law 739 = .ok (.iconst 0, 1) := by decide +kernel
theorem dL_law_740 : decode cL_law 740 = .ok (.ireturn, 1) := by decide +kernel
theorem dL_law_741 : decode cL_law 741 = .ok (.aload_n 1, 1) := by decide +kernel
theorem dL_law_742 : decode cL_law 742 = .ok (.invokevirtual 102, 3) := by decide +kernel
theorem dL_law_745 : decode cL_law 745 = .ok (.aload_n 2, 1) := by decide +kernel
theorem dL_law_746 : decode cL_law 746 = .ok (.invokevirtual 105, 3) := by decide +kernel
theorem dL_law_749 : decode cL_law 749 = .ok (.if_icmp .eq 217, 3) := by decide +kernel
theorem dL_law_752 : decode cL_law 752 = .ok (.iconst 0, 1) := by decide +kernel
theorem dL_law_753 : decode cL_law 753 = .ok (.ireturn, 1) := by decide +kernel
theorem dL_law_754 : decode cL_law 754 = .ok (.aload_n 1, 1) := by decide +kernel
theorem dL_law_755 : decode cL_law 755 = .ok (.invokevirtual 106, 3) := by decide +kernel
theorem dL_law_758 : decode cL_law 758 = .ok (.aload_n 2, 1) := by decide +kernel
theorem dL_law_759 : decode cL_law 759 = .ok (.invokevirtual 109, 3) := by decide +kernel
theorem dL_law_762 : decode cL_law 762 = .ok (.if_icmp .eq 204, 3) := by decide +kernel
theorem dL_law_765 : decode cL_law 765 = .ok (.iconst 0, 1) := by decide +kernel
theorem dL_law_766 : decode cL_law 766 = .ok (.ireturn, 1) := by decide +kernel
theorem dL_law_767 : decode cL_law 767 = .ok (.aload_n 1, 1) := by decide +kernel
theorem dL_law_768 : decode cL_law 768 = .ok (.aload_n 0, 1) := by decide +kernel
theorem dL_law_769 : decode cL_law 769 = .ok (.iload_n 3, 1) := by decide +kernel
theorem dL_law_770 : decode cL_law 770 = .ok (.iconst 1, 1) := by decide +kernel
theorem dL_law_771 : decode cL_law 771 = .ok (.iadd, 1) := by decide +kernel
theorem dL_law_772 : decode cL_law 772 = .ok (.iaload, 1) := by decide +kernel
theorem dL_law_773 : decode cL_law 773 = .ok (.invokevirtual 110, 3) := by decide +kernel
theorem dL_law_776 : decode cL_law 776 = .ok (.aload_n 2, 1) := by decide +kernel
theorem dL_law_777 : decode cL_law 777 = .ok (.aload_n 0, 1) := by decide +kernel
theorem dL_law_778 : decode cL_law 778 = .ok (.iload_n 3, 1) := by decide +kernel
theorem dL_law_779 : decode cL_law 779 = .ok (.iconst 1, 1) := by decide +kernel
theorem dL_law_780 : decode cL_law 780 = .ok (.iadd, 1) := by decide +kernel
theorem dL_law_781 : decode cL_law 781 = .ok (.iaload, 1) := by decide +kernel
theorem dL_law_782 : decode cL_law 782 = .ok (.invokevirtual 113, 3) := by decide +kernel
theorem dL_law_785 : decode cL_law 785 = .ok (.if_icmp .eq 181, 3) := by decide +kernel
theorem dL_law_788 : decode cL_law 788 = .ok (.iconst 0, 1) := by decide +kernel
theorem dL_law_789 : decode cL_law 789 = .ok (.ireturn, 1) := by decide +kernel
theorem dL_law_790 : decode cL_law 790 = .ok (.aload_n 1, 1) := by decide +kernel
theorem dL_law_791 : decode cL_law 791 = .ok (.invokevirtual 114, 3) := by decide +kernel
theorem dL_law_794 : decode cL_law 794 = .ok (.aload_n 2, 1) := by decide +kernel
theorem dL_law_795 : decode cL_law 795 = .ok (.invokevirtual 117, 3) := by decide +kernel
theorem dL_law_798 : decode cL_law 798 = .ok (.if_icmp .eq 168, 3) := by decide +kernel
theorem dL_law_801 : decode cL_law 801 = .ok (.iconst 0, 1) := by decide +kernel
theorem dL_law_802 : decode cL_law 802 = .ok (.ireturn, 1) := by decide +kernel
theorem dL_law_803 : decode cL_law 803 = .ok (.aload_n 1, 1) := by decide +kernel
theorem dL_law_804 : decode cL_law 804 = .ok (.aload_n 0, 1) := by decide +kernel
theorem dL_law_805 : decode cL_law 805 = .ok (.iload_n 3, 1) := by decide +kernel
theorem dL_law_806 : decode cL_law 806 = .ok (.iconst 1, 1) := by decide +kernel
theorem dL_law_807 : decode cL_law 807 = .ok (.iadd, 1) := by decide +kernel
theorem dL_law_808 : decode cL_law 808 = .ok (.iaload, 1) := by decide +kernel
theorem dL_law_809 : decode cL_law 809 = .ok (.aload_n 0, 1) := by decide +kernel
theorem dL_law_810 : decode cL_law 810 = .ok (.iload_n 3, 1) := by decide +kernel
theorem dL_law_811 : decode cL_law 811 = .ok (.iconst 2, 1) := by decide +kernel
theorem dL_law_812 : decode cL_law 812 = .ok (.iadd, 1) := by decide +kernel
theorem dL_law_813 : decode cL_law 813 = .ok (.iaload, 1) := by decide +kernel
theorem dL_law_814 : decode cL_law 814 = .ok (.invokevirtual 118, 3) := by decide +kernel
theorem dL_law_817 : decode cL_law 817 = .ok (.aload_n 2, 1) := by decide +kernel
theorem dL_law_818 : decode cL_law 818 = .ok (.aload_n 0, 1) := by decide +kernel
theorem dL_law_819 : decode cL_law 819 = .ok (.iload_n 3, 1) := by decide +kernel
theorem dL_law_820 : decode cL_law 820 = .ok (.iconst 1, 1) := by decide +kernel
theorem dL_law_821 : decode cL_law 821 = .ok (.iadd, 1) := by decide +kernel
theorem dL_law_822 : decode cL_law 822 = .ok (.iaload, 1) := by decide +kernel
theorem dL_law_823 : decode cL_law 823 = .ok (.aload_n 0, 1) := by decide +kernel
theorem dL_law_824 : decode cL_law 824 = .ok (.iload_n 3, 1) := by decide +kernel
theorem dL_law_825 : decode cL_law 825 = .ok (.iconst 2, 1) := by decide +kernel
theorem dL_law_826 : decode cL_law 826 = .ok (.iadd, 1) := by decide +kernel
theorem dL_law_827 : decode cL_law 827 = .ok (.iaload, 1) := by decide +kernel
theorem dL_law_828 : decode cL_law 828 = .ok (.invokevirtual 121, 3) := by decide +kernel
theorem dL_law_831 : decode cL_law 831 = .ok (.if_icmp .eq 135, 3) := by decide +kernel
theorem dL_law_834 : decode cL_law 834 = .ok (.iconst 0, 1) := by decide +kernel
theorem dL_law_835 : decode cL_law 835 = .ok (.ireturn, 1) := by decide +kernel
theorem dL_law_836 : decode cL_law 836 = .ok (.aload_n 1, 1) := by decide +kernel
theorem dL_law_837 : decode cL_law 837 = .ok (.aload_n 0, 1) := by decide +kernel
theorem dL_law_838 : decode cL_law 838 = .ok (.iload_n 3, 1) := by decide +kernel
theorem dL_law_839 : decode cL_law 839 = .ok (.iconst 1, 1) := by decide +kernel
theorem dL_law_840 : decode cL_law 840 = .ok (.iadd, 1) := by decide +kernel
theorem dL_law_841 : decode cL_law 841 = .ok (.iaload, 1) := by decide +kernel
theorem dL_law_842 : decode cL_law 842 = .ok (.invokevirtual 122, 3) := by decide +kernel
theorem dL_law_845 : decode cL_law 845 = .ok (.aload_n 2, 1) := by decide +kernel
theorem dL_law_846 : decode cL_law 846 = .ok (.aload_n 0, 1) := by decide +kernel
theorem dL_law_847 : decode cL_law 847 = .ok (.iload_n 3, 1) := by decide +kernel
theorem dL_law_848 : decode cL_law 848 = .ok (.iconst 1, 1) := by decide +kernel
theorem dL_law_849 : decode cL_law 849 = .ok (.iadd, 1) := by decide +kernel
theorem dL_law_850 : decode cL_law 850 = .ok (.iaload, 1) := by decide +kernel
theorem dL_law_851 : decode cL_law 851 = .ok (.invokevirtual 126, 3) := by decide +kernel
theorem dL_law_854 : decode cL_law 854 = .ok (.lcmp, 1) := by decide +kernel
theorem dL_law_855 : decode cL_law 855 = .ok (.ifCond .eq 111, 3) := by decide +kernel
theorem dL_law_858 : decode cL_law 858 = .ok (.iconst 0, 1) := by decide +kernel
theorem dL_law_859 : decode cL_law 859 = .ok (.ireturn, 1) := by decide +kernel
theorem dL_law_860 : decode cL_law 860 = .ok (.aload_n 1, 1) := by decide +kernel
theorem dL_law_861 : decode cL_law 861 = .ok (.aload_n 0, 1) := by decide +kernel
theorem dL_law_862 : decode cL_law 862 = .ok (.iload_n 3, 1) := by decide +kernel
theorem dL_law_863 : decode cL_law 863 = .ok (.iconst 1, 1) := by decide +kernel
theorem dL_law_864 : decode cL_law 864 = .ok (.iadd, 1) := by decide +kernel
theorem dL_law_865 : decode cL_law 865 = .ok (.iaload, 1) := by decide +kernel
theorem dL_law_866 : decode cL_law 866 = .ok (.invokevirtual 127, 3) := by decide +kernel
theorem dL_law_869 : decode cL_law 869 = .ok (.aload_n 2, 1) := by decide +kernel
theorem dL_law_870 : decode cL_law 870 = .ok (.aload_n 0, 1) := by decide +kernel
theorem dL_law_871 : decode cL_law 871 = .ok (.iload_n 3, 1) := by decide +kernel
theorem dL_law_872 : decode cL_law 872 = .ok (.iconst 1, 1) := by decide +kernel
theorem dL_law_873 : decode cL_law 873 = .ok (.iadd, 1) := by decide +kernel
theorem dL_law_874 : decode cL_law 874 = .ok (.iaload, 1) := by decide +kernel
theorem dL_law_875 : decode cL_law 875 = .ok (.invokevirtual 130, 3) := by decide +kernel
theorem dL_law_878 : decode cL_law 878 = .ok (.if_icmp .eq 88, 3) := by decide +kernel
theorem dL_law_881 : decode cL_law 881 = .ok (.iconst 0, 1) := by decide +kernel
theorem dL_law_882 : decode cL_law 882 = .ok (.ireturn, 1) := by decide +kernel
theorem dL_law_883 : decode cL_law 883 = .ok (.aload_n 1, 1) := by decide +kernel
theorem dL_law_884 : decode cL_law 884 = .ok (.aload_n 0, 1) := by decide +kernel
theorem dL_law_885 : decode cL_law 885 = .ok (.iload_n 3, 1) := by decide +kernel
theorem dL_law_886 : decode cL_law 886 = .ok (.iconst 1, 1) := by decide +kernel
theorem dL_law_887 : decode cL_law 887 = .ok (.iadd, 1) := by decide +kernel
theorem dL_law_888 : decode cL_law 888 = .ok (.iaload, 1) := by decide +kernel
theorem dL_law_889 : decode cL_law 889 = .ok (.invokevirtual 131, 3) := by decide +kernel
theorem dL_law_892 : decode cL_law 892 = .ok (.aload_n 2, 1) := by decide +kernel
theorem dL_law_893 : decode cL_law 893 = .ok (.aload_n 0, 1) := by decide +kernel
theorem dL_law_894 : decode cL_law 894 = .ok (.iload_n 3, 1) := by decide +kernel
theorem dL_law_895 : decode cL_law 895 = .ok (.iconst 1, 1) := by decide +kernel
theorem dL_law_896 : decode cL_law 896 = .ok (.iadd, 1) := by decide +kernel
theorem dL_law_897 : decode cL_law 897 = .ok (.iaload, 1) := by decide +kernel
theorem dL_law_898 : decode cL_law 898 = .ok (.invokevirtual 134, 3) := by decide +kernel
theorem dL_law_901 : decode cL_law 901 = .ok (.if_icmp .eq 65, 3) := by decide +kernel
theorem dL_law_904 : decode cL_law 904 = .ok (.iconst 0, 1) := by decide +kernel
theorem dL_law_905 : decode cL_law 905 = .ok (.ireturn, 1) := by decide +kernel
theorem dL_law_906 : decode cL_law 906 = .ok (.aload_n 1, 1) := by decide +kernel
theorem dL_law_907 : decode cL_law 907 = .ok (.aload_n 0, 1) := by decide +kernel
theorem dL_law_908 : decode cL_law 908 = .ok (.iload_n 3, 1) := by decide +kernel
theorem dL_law_909 : decode cL_law 909 = .ok (.iconst 1, 1) := by decide +kernel
theorem dL_law_910 : decode cL_law 910 = .ok (.iadd, 1) := by decide +kernel
theorem dL_law_911 : decode cL_law 911 = .ok (.iaload, 1) := by decide +kernel
theorem dL_law_912 : decode cL_law 912 = .ok (.invokevirtual 135, 3) := by decide +kernel
theorem dL_law_915 : decode cL_law 915 = .ok (.aload_n 2, 1) := by decide +kernel
theorem dL_law_916 : decode cL_law 916 = .ok (.aload_n 0, 1) := by decide +kernel
theorem dL_law_917 : decode cL_law 917 = .ok (.iload_n 3, 1) := by decide +kernel
theorem dL_law_918 : decode cL_law 918 = .ok (.iconst 1, 1) := by decide +kernel
theorem dL_law_919 : decode cL_law 919 = .ok (.iadd, 1) := by decide +kernel
theorem dL_law_920 : decode cL_law 920 = .ok (.iaload, 1) := by decide +kernel
theorem dL_law_921 : decode cL_law 921 = .ok (.invokevirtual 138, 3) := by decide +kernel
theorem dL_law_924 : decode cL_law 924 = .ok (.if_icmp .eq 42, 3) := by decide +kernel
theorem dL_law_927 : decode cL_law 927 = .ok (.iconst 0, 1) := by decide +kernel
theorem dL_law_928 : decode cL_law 928 = .ok (.ireturn, 1) := by decide +kernel
theorem dL_law_929 : decode cL_law 929 = .ok (.aload_n 1, 1) := by decide +kernel
theorem dL_law_930 : decode cL_law 930 = .ok (.aload_n 0, 1) := by decide +kernel
theorem dL_law_931 : decode cL_law 931 = .ok (.iload_n 3, 1) := by decide +kernel
theorem dL_law_932 : decode cL_law 932 = .ok (.iconst 1, 1) := by decide +kernel
theorem dL_law_933 : decode cL_law 933 = .ok (.iadd, 1) := by decide +kernel
theorem dL_law_934 : decode cL_law 934 = .ok (.iaload, 1) := by decide +kernel
theorem dL_law_935 : decode cL_law 935 = .ok (.invokevirtual 139, 3) := by decide +kernel
theorem dL_law_938 : decode cL_law 938 = .ok (.aload_n 2, 1) := by decide +kernel
theorem dL_law_939 : decode cL_law 939 = .ok (.aload_n 0, 1) := by decide +kernel
theorem dL_law_940 : decode cL_law 940 = .ok (.iload_n 3, 1) := by decide +kernel
theorem dL_law_941 : decode cL_law 941 = .ok (.iconst 1, 1) := by decide +kernel
theorem dL_law_942 : decode cL_law 942 = .ok (.iadd, 1) := by decide +kernel
theorem dL_law_943 : decode cL_law 943 = .ok (.iaload, 1) := by decide +kernel
theorem dL_law_944 : decode cL_law 944 = .ok (.invokevirtual 142, 3) := by decide +kernel
theorem dL_law_947 : decode cL_law 947 = .ok (.if_icmp .eq 19, 3) := by decide +kernel
theorem dL_law_950 : decode cL_law 950 = .ok (.iconst 0, 1) := by decide +kernel
theorem dL_law_951 : decode cL_law 951 = .ok (.ireturn, 1) := by decide +kernel
theorem dL_law_952 : decode cL_law 952 = .ok (.aload_n 1, 1) := by decide +kernel
theorem dL_law_953 : decode cL_law 953 = .ok (.invokevirtual 143, 3) := by decide +kernel
theorem dL_law_956 : decode cL_law 956 = .ok (.aload_n 2, 1) := by decide +kernel
theorem dL_law_957 : decode cL_law 957 = .ok (.invokevirtual 147, 3) := by decide +kernel
theorem dL_law_960 : decode cL_law 960 = .ok (.lcmp, 1) := by decide +kernel
theorem dL_law_961 : decode cL_law 961 = .ok (.ifCond .eq 5, 3) := by decide +kernel
theorem dL_law_964 : decode cL_law 964 = .ok (.iconst 0, 1) := by decide +kernel
theorem dL_law_965 : decode cL_law 965 = .ok (.ireturn, 1) := by decide +kernel
theorem dL_law_966 : decode cL_law 966 = .ok (.iinc 3 7, 3) := by decide +kernel
theorem dL_law_969 : decode cL_law 969 = .ok (.goto (-951), 3) := by decide +kernel
theorem dL_law_972 : decode cL_law 972 = .ok (.iconst 1, 1) := by decide +kernel
theorem dL_law_973 : decode cL_law 973 = .ok (.ireturn, 1) := by decide +kernel
