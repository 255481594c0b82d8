theorem dX0_init_0 : decode cX0_init 0 = .ok (.aload_n 0, 1) := by decide +kernel
theorem dX0_init_1 : decode cX0_init 1 = .ok (.invokespecial 3, 3) := by decide +kernel
theorem dX0_init_4 : decode cX0_init 4 = .ok (.aload_n 0, 1) := by decide +kernel
theorem dX0_init_5 : decode cX0_init 5 = .ok (.bipush 6, 2) := by decide +kernel
theorem dX0_init_7 : decode cX0_init 7 = .ok (.bipush 6, 2) := by decide +kernel
theorem dX0_init_9 : decode cX0_init 9 = .ok (.multianewarray 9 2, 4) := by decide +kernel
theorem dX0_init_13 : decode cX0_init 13 = .ok (.putfield 11, 3) := by decide +kernel
theorem dX0_init_16 : decode cX0_init 16 = .ok (.aload_n 0, 1) := by decide +kernel
theorem dX0_init_17 : decode cX0_init 17 = .ok (.bipush 6, 2) := by decide +kernel
theorem dX0_init_19 : decode cX0_init 19 = .ok (.newarray .int, 2) := by decide +kernel
theorem dX0_init_21 : decode cX0_init 21 = .ok (.putfield 16, 3) := by decide +kernel
theorem dX0_init_24 : decode cX0_init 24 = .ok (.aload_n 0, 1) := by decide +kernel
theorem dX0_init_25 : decode cX0_init 25 = .ok (.bipush 6, 2) := by decide +kernel
theorem dX0_init_27 : decode cX0_init 27 = .ok (.newarray .int, 2) := by decide +kernel
theorem dX0_init_29 : decode cX0_init 29 = .ok (.putfield 20, 3) := by decide +kernel
theorem dX0_init_32 : decode cX0_init 32 = .ok (.aload_n 0, 1) := by decide +kernel
theorem dX0_init_33 : decode cX0_init 33 = .ok (.iconst 0, 1) := by decide +kernel
theorem dX0_init_34 : decode cX0_init 34 = .ok (.putfield 23, 3) := by decide +kernel
theorem dX0_init_37 : decode cX0_init 37 = .ok (.aload_n 0, 1) := by decide +kernel
theorem dX0_init_38 : decode cX0_init 38 = .ok (.iconst 0, 1) := by decide +kernel
theorem dX0_init_39 : decode cX0_init 39 = .ok (.putfield 27, 3) := by decide +kernel
theorem dX0_init_42 : decode cX0_init 42 = .ok (.return_, 1) := by decide +kernel
theorem dX0_find_0 : decode cX0_find 0 = .ok (.iconst 0, 1) := by decide +kernel
theorem dX0_find_1 : decode cX0_find 1 = .ok (.istore_n 3, 1) := by decide +kernel
theorem dX0_find_2 : decode cX0_find 2 = .ok (.iload_n 3, 1) := by decide +kernel
theorem dX0_find_3 : decode cX0_find 3 = .ok (.aload_n 1, 1) := by decide +kernel
theorem dX0_find_4 : decode cX0_find 4 = .ok (.getfield 30, 3) := by decide +kernel
theorem dX0_find_7 : decode cX0_find 7 = .ok (.if_icmp .ge 37, 3) := by decide +kernel
theorem dX0_find_10 : decode cX0_find 10 = .ok (.iconst 0, 1) := by decide +kernel
theorem dX0_find_11 : decode cX0_find 11 = .ok (.istore 4, 2) := by decide +kernel
theorem dX0_find_13 : decode cX0_find 13 = .ok (.iload 4, 2) := by decide +kernel
theorem dX0_find_15 : decode cX0_find 15 = .ok (.aload_n 1, 1) := by decide +kernel
theorem dX0_find_16 : decode cX0_find 16 = .ok (.getfield 33, 3) := by decide +kernel
theorem dX0_find_19 : decode cX0_find 19 = .ok (.if_icmp .ge 19, 3) := by decide +kernel
theorem dX0_find_22 : decode cX0_find 22 = .ok (.aload_n 0, 1) := by decide +kernel
theorem dX0_find_23 : decode cX0_find 23 = .ok (.getfield 11, 3) := by decide +kernel
theorem dX0_find_26 : decode cX0_find 26 = .ok (.iload_n 3, 1) := by decide +kernel
theorem dX0_find_27 : decode cX0_find 27 = .ok (.aaload, 1) := by decide +kernel
theorem dX0_find_28 : decode cX0_find 28 = .ok (.iload 4, 2) := by decide +kernel
theorem dX0_find_30 : decode cX0_find 30 = .ok (.iconst 0, 1) := by decide +kernel
theorem dX0_find_31 : decode cX0_find 31 = .ok (.iastore, 1) := by decide +kernel
theorem dX0_find_32 : decode cX0_find 32 = .ok (.iinc 4 1, 3) := by decide +kernel
theorem dX0_find_35 : decode cX0_find 35 = .ok (.goto (-22), 3) := by decide +kernel
theorem dX0_find_38 : decode cX0_find 38 = .ok (.iinc 3 1, 3) := by decide +kernel
theorem dX0_find_41 : decode cX0_find 41 = .ok (.goto (-39), 3) := by decide +kernel
theorem dX0_find_44 : decode cX0_find 44 = .ok (.iconst 0, 1) := by decide +kernel
theorem dX0_find_45 : decode cX0_find 45 = .ok (.istore_n 3, 1) := by decide +kernel
theorem dX0_find_46 : decode cX0_find 46 = .ok (.iload_n 3, 1) := by decide +kernel
theorem dX0_find_47 : decode cX0_find 47 = .ok (.bipush 24, 2) := by decide +kernel
theorem dX0_find_49 : decode cX0_find 49 = .ok (.if_icmp .ge 29, 3) := by decide +kernel
theorem dX0_find_52 : decode cX0_find 52 = .ok (.aload_n 1, 1) := by decide +kernel
theorem dX0_find_53 : decode cX0_find 53 = .ok (.aload_n 2, 1) := by decide +kernel
theorem dX0_find_54 : decode cX0_find 54 = .ok (.getfield 36, 3) := by decide +kernel
theorem dX0_find_57 : decode cX0_find 57 = .ok (.iload_n 3, 1) := by decide +kernel
theorem dX0_find_58 : decode cX0_find 58 = .ok (.iadd, 1) := by decide +kernel
theorem dX0_find_59 : decode cX0_find 59 = .ok (.invokevirtual 41, 3) := by decide +kernel
theorem dX0_find_62 : decode cX0_find 62 = .ok (.ifCond .ne 10, 3) := by decide +kernel
theorem dX0_find_65 : decode cX0_find 65 = .ok (.aload_n 0, 1) := by decide +kernel
theorem dX0_find_66 : decode cX0_find 66 = .ok (.aload_n 1, 1) := by decide +kernel
theorem dX0_find_67 : decode cX0_find 67 = .ok (.aload_n 2, 1) := by decide +kernel
theorem dX0_find_68 : decode cX0_find 68 = .ok (.iload_n 3, 1) := by decide +kernel
theorem dX0_find_69 : decode cX0_find 69 = .ok (.invokevirtual 45, 3) := by decide +kernel
theorem dX0_find_72 : decode cX0_find 72 = .ok (.iinc 3 1, 3) := by decide +kernel
theorem dX0_find_75 : decode cX0_find 75 = .ok (.goto (-29), 3) := by decide +kernel
theorem dX0_find_78 : decode cX0_find 78 = .ok (.aload_n 0, 1) := by decide +kernel
theorem dX0_find_79 : decode cX0_find 79 = .ok (.aload_n 1, 1) := by decide +kernel
theorem dX0_find_80 : decode cX0_find 80 = .ok (.getfield 30, 3) := by decide +kernel
theorem dX0_find_83 : decode cX0_find 83 = .ok (.putfield 23, 3) := by decide +kernel
theorem dX0_find_86 : decode cX0_find 86 = .ok (.aload_n 0, 1) := by decide +kernel
theorem dX0_find_87 : decode cX0_find 87 = .ok (.iconst (-1), 1) := by decide +kernel
theorem dX0_find_88 : decode cX0_find 88 = .ok (.putfield 27, 3) := by decide +kernel
theorem dX0_find_91 : decode cX0_find 91 = .ok (.aload_n 0, 1) := by decide +kernel
theorem dX0_find_92 : decode cX0_find 92 = .ok (.aload_n 1, 1) := by decide +kernel
theorem dX0_find_93 : decode cX0_find 93 = .ok (.iconst 0, 1) := by decide +kernel
theorem dX0_find_94 : decode cX0_find 94 = .ok (.iconst 0, 1) := by decide +kernel
theorem dX0_find_95 : decode cX0_find 95 = .ok (.iconst 0, 1) := by decide +kernel
theorem dX0_find_96 : decode cX0_find 96 = .ok (.invokestatic 49, 3) := by decide +kernel
theorem dX0_find_99 : decode cX0_find 99 = .ok (.aload_n 0, 1) := by decide +kernel
theorem dX0_find_100 : decode cX0_find 100 = .ok (.getfield 27, 3) := by decide +kernel
theorem dX0_find_103 : decode cX0_find 103 = .ok (.ireturn, 1) := by decide +kernel
theorem dX0_countHour_0 : decode cX0_countHour 0 = .ok (.aload_n 2, 1) := by decide +kernel
theorem dX0_countHour_1 : decode cX0_countHour 1 = .ok (.aload_n 1, 1) := by decide +kernel
theorem dX0_countHour_2 : decode cX0_countHour 2 = .ok (.iload_n 3, 1) := by decide +kernel
theorem dX0_countHour_3 : decode cX0_countHour 3 = .ok (.invokevirtual 53, 3) := by decide +kernel
theorem dX0_countHour_6 : decode cX0_countHour 6 = .ok (.iconst 1, 1) := by decide +kernel
theorem dX0_countHour_7 : decode cX0_countHour 7 = .ok (.aload_n 1, 1) := by decide +kernel
theorem dX0_countHour_8 : decode cX0_countHour 8 = .ok (.getfield 57, 3) := by decide +kernel
theorem dX0_countHour_11 : decode cX0_countHour 11 = .ok (.ishl, 1) := by decide +kernel
theorem dX0_countHour_12 : decode cX0_countHour 12 = .ok (.iconst 1, 1) := by decide +kernel
theorem dX0_countHour_13 : decode cX0_countHour 13 = .ok (.isub, 1) := by decide +kernel
theorem dX0_countHour_14 : decode cX0_countHour 14 = .ok (.iand, 1) := by decide +kernel
theorem dX0_countHour_15 : decode cX0_countHour 15 = .ok (.istore 4, 2) := by decide +kernel
theorem dX0_countHour_17 : decode cX0_countHour 17 = .ok (.iconst 0, 1) := by decide +kernel
theorem dX0_countHour_18 : decode cX0_countHour 18 = .ok (.istore 5, 2) := by decide +kernel
theorem dX0_countHour_20 : decode cX0_countHour 20 = .ok (.iload 5, 2) := by decide +kernel
theorem dX0_countHour_22 : decode cX0_countHour 22 = .ok (.aload_n 1, 1) := by decide +kernel
theorem dX0_countHour_23 : decode cX0_countHour 23 = .ok (.getfield 30, 3) := by decide +kernel
theorem dX0_countHour_26 : decode cX0_countHour 26 = .ok (.if_icmp .ge 88, 3) := by decide +kernel
theorem dX0_countHour_29 : decode cX0_countHour 29 = .ok (.iconst 0, 1) := by decide +kernel
theorem dX0_countHour_30 : decode cX0_countHour 30 = .ok (.istore 6, 2) := by decide +kernel
theorem dX0_countHour_32 : decode cX0_countHour 32 = .ok (.iload 6, 2) := by decide +kernel
theorem dX0_countHour_34 : decode cX0_countHour 34 = .ok (.aload_n 1, 1) := by decide +kernel
theorem dX0_countHour_35 : decode cX0_countHour 35 = .ok (.getfield 33, 3) := by decide +kernel
theorem dX0_countHour_38 : decode cX0_countHour 38 = .ok (.if_icmp .ge 70, 3) := by decide +kernel
theorem dX0_countHour_41 : decode cX0_countHour 41 = .ok (.aload_n 2, 1) := by decide +kernel
theorem dX0_countHour_42 : decode cX0_countHour 42 = .ok (.aload_n 1, 1) := by decide +kernel
theorem dX0_countHour_43 : decode cX0_countHour 43 = .ok (.iload 6, 2) := by decide +kernel
theorem dX0_countHour_45 : decode cX0_countHour 45 = .ok (.aload_n 2, 1) := by decide +kernel
theorem dX0_countHour_46 : decode cX0_countHour 46 = .ok (.aload_n 1, 1) := by decide +kernel
theorem dX0_countHour_47 : decode cX0_countHour 47 = .ok (.iload 5, 2) := by decide +kernel
theorem dX0_countHour_49 : decode cX0_countHour 49 = .ok (.iload 6, 2) := by decide +kernel
theorem dX0_countHour_51 : decode cX0_countHour 51 = .ok (.iload 4, 2) := by decide +kernel
theorem dX0_countHour_53 : decode cX0_countHour 53 = .ok (.invokevirtual 60, 3) := by decide +kernel
theorem dX0_countHour_56 : decode cX0_countHour 56 = .ok (.invokevirtual 64, 3) := by decide +kernel
theorem dX0_countHour_59 : decode cX0_countHour 59 = .ok (.istore 7, 2) := by decide +kernel
theorem dX0_countHour_61 : decode cX0_countHour 61 = .ok (.iload 7, 2) := by decide +kernel
theorem dX0_countHour_63 : decode cX0_countHour 63 = .ok (.iconst (-1), 1) := by decide +kernel
theorem dX0_countHour_64 : decode cX0_countHour 64 = .ok (.if_icmp .eq 38, 3) := by decide +kernel
theorem dX0_countHour_67 : decode cX0_countHour 67 = .ok (.aload_n 1, 1) := by decide +kernel
theorem dX0_countHour_68 : decode cX0_countHour 68 = .ok (.getfield 68, 3) := by decide +kernel
theorem dX0_countHour_71 : decode cX0_countHour 71 = .ok (.iload 7, 2) := by decide +kernel
theorem dX0_countHour_73 : decode cX0_countHour 73 = .ok (.aaload, 1) := by decide +kernel
theorem dX0_countHour_74 : decode cX0_countHour 74 = .ok (.iconst 0, 1) := by decide +kernel
theorem dX0_countHour_75 : decode cX0_countHour 75 = .ok (.iaload, 1) := by decide +kernel
theorem dX0_countHour_76 : decode cX0_countHour 76 = .ok (.aload_n 1, 1) := by decide +kernel
theorem dX0_countHour_77 : decode cX0_countHour 77 = .ok (.getfield 71, 3) := by decide +kernel
theorem dX0_countHour_80 : decode cX0_countHour 80 = .ok (.iload 6, 2) := by decide +kernel
theorem dX0_countHour_82 : decode cX0_countHour 82 = .ok (.aaload, 1) := by decide +kernel
theorem dX0_countHour_83 : decode cX0_countHour 83 = .ok (.iconst 2, 1) := by decide +kernel
theorem dX0_countHour_84 : decode cX0_countHour 84 = .ok (.iaload, 1) := by decide +kernel
theorem dX0_countHour_85 : decode cX0_countHour 85 = .ok (.if_icmp .ne 17, 3) := by decide +kernel
theorem dX0_countHour_88 : decode cX0_countHour 88 = .ok (.aload_n 0, 1) := by decide +kernel
theorem dX0_countHour_89 : decode cX0_countHour 89 = .ok (.getfield 11, 3) := by decide +kernel
theorem dX0_countHour_92 : decode cX0_countHour 92 = .ok (.iload 5, 2) := by decide +kernel
theorem dX0_countHour_94 : decode cX0_countHour 94 = .ok (.aaload, 1) := by decide +kernel
theorem dX0_countHour_95 : decode cX0_countHour 95 = .ok (.iload 6, 2) := by decide +kernel
theorem dX0_countHour_97 : decode cX0_countHour 97 = .ok (.dup2, 1) := by decide +kernel
theorem dX0_countHour_98 : decode cX0_countHour 98 = .ok (.iaload, 1) := by decide +kernel
theorem dX0_countHour_99 : decode cX0_countHour 99 = .ok (.iconst 1, 1) := by decide +kernel
theorem dX0_countHour_100 : decode cX0_countHour 100 = .ok (.iadd, 1) := by decide +kernel
theorem dX0_countHour_101 : decode cX0_countHour 101 = .ok (.iastore, 1) := by decide +kernel
theorem dX0_countHour_102 : decode cX0_countHour 102 = .ok (.iinc 6 1, 3) := by decide +kernel
theorem dX0_countHour_105 : decode cX0_countHour 105 = .ok (.goto (-73), 3) := by decide +kernel
theorem dX0_countHour_108 : decode cX0_countHour 108 = .ok (.iinc 5 1, 3) := by decide +kernel
theorem dX0_countHour_111 : decode cX0_countHour 111 = .ok (.goto (-91), 3) := by decide +kernel
theorem dX0_countHour_114 : decode cX0_countHour 114 = .ok (.return_, 1) := by decide +kernel
theorem dX0_choose_0 : decode cX0_choose 0 = .ok (.iload_n 2, 1) := by decide +kernel
theorem dX0_choose_1 : decode cX0_choose 1 = .ok (.aload_n 1, 1) := by decide +kernel
theorem dX0_choose_2 : decode cX0_choose 2 = .ok (.getfield 30, 3) := by decide +kernel
theorem dX0_choose_5 : decode cX0_choose 5 = .ok (.if_icmp .ge 9, 3) := by decide +kernel
theorem dX0_choose_8 : decode cX0_choose 8 = .ok (.iload_n 2, 1) := by decide +kernel
theorem dX0_choose_9 : decode cX0_choose 9 = .ok (.bipush 6, 2) := by decide +kernel
theorem dX0_choose_11 : decode cX0_choose 11 = .ok (.if_icmp .lt 34, 3) := by decide +kernel
theorem dX0_choose_14 : decode cX0_choose 14 = .ok (.iload 4, 2) := by decide +kernel
theorem dX0_choose_16 : decode cX0_choose 16 = .ok (.aload_n 0, 1) := by decide +kernel
theorem dX0_choose_17 : decode cX0_choose 17 = .ok (.getfield 27, 3) := by decide +kernel
theorem dX0_choose_20 : decode cX0_choose 20 = .ok (.if_icmp .le 24, 3) := by decide +kernel
theorem dX0_choose_23 : decode cX0_choose 23 = .ok (.aload_n 0, 1) := by decide +kernel
theorem dX0_choose_24 : decode cX0_choose 24 = .ok (.iload 4, 2) := by decide +kernel
theorem dX0_choose_26 : decode cX0_choose 26 = .ok (.putfield 27, 3) := by decide +kernel
theorem dX0_choose_29 : decode cX0_choose 29 = .ok (.aload_n 0, 1) := by decide +kernel
theorem dX0_choose_30 : decode cX0_choose 30 = .ok (.getfield 16, 3) := by decide +kernel
theorem dX0_choose_33 : decode cX0_choose 33 = .ok (.iconst 0, 1) := by decide +kernel
theorem dX0_choose_34 : decode cX0_choose 34 = .ok (.aload_n 0, 1) := by decide +kernel
theorem dX0_choose_35 : decode cX0_choose 35 = .ok (.getfield 20, 3) := by decide +kernel
theorem dX0_choose_38 : decode cX0_choose 38 = .ok (.iconst 0, 1) := by decide +kernel
theorem dX0_choose_39 : decode cX0_choose 39 = .ok (.bipush 6, 2) := by decide +kernel
theorem dX0_choose_41 : decode cX0_choose 41 = .ok (.invokestatic 74, 3) := by decide +kernel
theorem dX0_choose_44 : decode cX0_choose 44 = .ok (.return_, 1) := by decide +kernel
theorem dX0_choose_45 : decode cX0_choose 45 = .ok (.iconst 0, 1) := by decide +kernel
theorem dX0_choose_46 : decode cX0_choose 46 = .ok (.istore 5, 2) := by decide +kernel
theorem dX0_choose_48 : decode cX0_choose 48 = .ok (.iload 5, 2) := by decide +kernel
theorem dX0_choose_50 : decode cX0_choose 50 = .ok (.aload_n 1, 1) := by decide +kernel
theorem dX0_choose_51 : decode cX0_choose 51 = .ok (.getfield 33, 3) := by decide +kernel
theorem dX0_choose_54 : decode cX0_choose 54 = .ok (.if_icmp .ge 52, 3) := by decide +kernel
theorem dX0_choose_57 : decode cX0_choose 57 = .ok (.iload_n 3, 1) := by decide +kernel
theorem dX0_choose_58 : decode cX0_choose 58 = .ok (.iload 5, 2) := by decide +kernel
theorem dX0_choose_60 : decode cX0_choose 60 = .ok (.ishr, 1) := by decide +kernel
theorem dX0_choose_61 : decode cX0_choose 61 = .ok (.iconst 1, 1) := by decide +kernel
theorem dX0_choose_62 : decode cX0_choose 62 = .ok (.iand, 1) := by decide +kernel
theorem dX0_choose_63 : decode cX0_choose 63 = .ok (.ifCond .ne 37, 3) := by decide +kernel
theorem dX0_choose_66 : decode cX0_choose 66 = .ok (.aload_n 0, 1) := by decide +kernel
theorem dX0_choose_67 : decode cX0_choose 67 = .ok (.getfield 16, 3) := by decide +kernel
theorem dX0_choose_70 : decode cX0_choose 70 = .ok (.iload_n 2, 1) := by decide +kernel
theorem dX0_choose_71 : decode cX0_choose 71 = .ok (.iload 5, 2) := by decide +kernel
theorem dX0_choose_73 : decode cX0_choose 73 = .ok (.iastore, 1) := by decide +kernel
theorem dX0_choose_74 : decode cX0_choose 74 = .ok (.aload_n 0, 1) := by decide +kernel
theorem dX0_choose_75 : decode cX0_choose 75 = .ok (.aload_n 1, 1) := by decide +kernel
theorem dX0_choose_76 : decode cX0_choose 76 = .ok (.iload_n 2, 1) := by decide +kernel
theorem dX0_choose_77 : decode cX0_choose 77 = .ok (.iconst 1, 1) := by decide +kernel
theorem dX0_choose_78 : decode cX0_choose 78 = .ok (.iadd, 1) := by decide +kernel
theorem dX0_choose_79 : decode cX0_choose 79 = .ok (.iload_n 3, 1) := by decide +kernel
theorem dX0_choose_80 : decode cX0_choose 80 = .ok (.iconst 1, 1) := by decide +kernel
theorem dX0_choose_81 : decode cX0_choose 81 = .ok (.iload 5, 2) := by decide +kernel
theorem dX0_choose_83 : decode cX0_choose 83 = .ok (.ishl, 1) := by decide +kernel
theorem dX0_choose_84 : decode cX0_choose 84 = .ok (.ior, 1) := by decide +kernel
theorem dX0_choose_85 : decode cX0_choose 85 = .ok (.iload 4, 2) := by decide +kernel
theorem dX0_choose_87 : decode cX0_choose 87 = .ok (.aload_n 0, 1) := by decide +kernel
theorem dX0_choose_88 : decode cX0_choose 88 = .ok (.getfield 11, 3) := by decide +kernel
theorem dX0_choose_91 : decode cX0_choose 91 = .ok (.iload_n 2, 1) := by decide +kernel
theorem dX0_choose_92 : decode cX0_choose 92 = .ok (.aaload, 1) := by decide +kernel
theorem dX0_choose_93 : decode cX0_choose 93 = .ok (.iload 5, 2) := by decide +kernel
theorem dX0_choose_95 : decode cX0_choose 95 = .ok (.iaload, 1) := by decide +kernel
theorem dX0_choose_96 : decode cX0_choose 96 = .ok (.iadd, 1) := by decide +kernel
theorem dX0_choose_97 : decode cX0_choose 97 = .ok (.invokestatic 49, 3) := by decide +kernel
theorem dX0_choose_100 : decode cX0_choose 100 = .ok (.iinc 5 1, 3) := by decide +kernel
theorem dX0_choose_103 : decode cX0_choose 103 = .ok (.goto (-55), 3) := by decide +kernel
theorem dX0_choose_106 : decode cX0_choose 106 = .ok (.return_, 1) := by decide +kernel
theorem dX1_init_0 : decode cX1_init 0 = .ok (.aload_n 0, 1) := by decide +kernel
theorem dX1_init_1 : decode cX1_init 1 = .ok (.invokespecial 3, 3) := by decide +kernel
theorem dX1_init_4 : decode cX1_init 4 = .ok (.aload_n 0, 1) := by decide +kernel
theorem dX1_init_5 : decode cX1_init 5 = .ok (.bipush 40, 2) := by decide +kernel
theorem dX1_init_7 : decode cX1_init 7 = .ok (.iconst 4, 1) := by decide +kernel
theorem dX1_init_8 : decode cX1_init 8 = .ok (.multianewarray 11 2, 4) := by decide +kernel
theorem dX1_init_12 : decode cX1_init 12 = .ok (.putfield 13, 3) := by decide +kernel
theorem dX1_init_15 : decode cX1_init 15 = .ok (.aload_n 0, 1) := by decide +kernel
theorem dX1_init_16 : decode cX1_init 16 = .ok (.iconst 0, 1) := by decide +kernel
theorem dX1_init_17 : decode cX1_init 17 = .ok (.putfield 16, 3) := by decide +kernel
theorem dX1_init_20 : decode cX1_init 20 = .ok (.aload_n 0, 1) := by decide +kernel
theorem dX1_init_21 : decode cX1_init 21 = .ok (.iconst 0, 1) := by decide +kernel
theorem dX1_init_22 : decode cX1_init 22 = .ok (.putfield 20, 3) := by decide +kernel
theorem dX1_init_25 : decode cX1_init 25 = .ok (.aload_n 0, 1) := by decide +kernel
theorem dX1_init_26 : decode cX1_init 26 = .ok (.iconst 0, 1) := by decide +kernel
theorem dX1_init_27 : decode cX1_init 27 = .ok (.putfield 24, 3) := by decide +kernel
theorem dX1_init_30 : decode cX1_init 30 = .ok (.aload_n 0, 1) := by decide +kernel
theorem dX1_init_31 : decode cX1_init 31 = .ok (.iconst 0, 1) := by decide +kernel
theorem dX1_init_32 : decode cX1_init 32 = .ok (.putfield 27, 3) := by decide +kernel
theorem dX1_init_35 : decode cX1_init 35 = .ok (.aload_n 0, 1) := by decide +kernel
theorem dX1_init_36 : decode cX1_init 36 = .ok (.iconst 0, 1) := by decide +kernel
theorem dX1_init_37 : decode cX1_init 37 = .ok (.putfield 30, 3) := by decide +kernel
theorem dX1_init_40 : decode cX1_init 40 = .ok (.aload_n 0, 1) := by decide +kernel
theorem dX1_init_41 : decode cX1_init 41 = .ok (.iconst 0, 1) := by decide +kernel
theorem dX1_init_42 : decode cX1_init 42 = .ok (.putfield 33, 3) := by decide +kernel
theorem dX1_init_45 : decode cX1_init 45 = .ok (.return_, 1) := by decide +kernel
theorem dX1_readAll_0 : decode cX1_readAll 0 = .ok (.aload_n 0, 1) := by decide +kernel
theorem dX1_readAll_1 : decode cX1_readAll 1 = .ok (.iconst 0, 1) := by decide +kernel
theorem dX1_readAll_2 : decode cX1_readAll 2 = .ok (.putfield 16, 3) := by decide +kernel
theorem dX1_readAll_5 : decode cX1_readAll 5 = .ok (.iconst 0, 1) := by decide +kernel
theorem dX1_readAll_6 : decode cX1_readAll 6 = .ok (.istore_n 3, 1) := by decide +kernel
theorem dX1_readAll_7 : decode cX1_readAll 7 = .ok (.iload_n 3, 1) := by decide +kernel
theorem dX1_readAll_8 : decode cX1_readAll 8 = .ok (.bipush 40, 2) := by decide +kernel
theorem dX1_readAll_10 : decode cX1_readAll 10 = .ok (.if_icmp .gt 86, 3) := by decide +kernel
theorem dX1_readAll_13 : decode cX1_readAll 13 = .ok (.aload_n 1, 1) := by decide +kernel
theorem dX1_readAll_14 : decode cX1_readAll 14 = .ok (.getfield 36, 3) := by decide +kernel
theorem dX1_readAll_17 : decode cX1_readAll 17 = .ok (.ifCond .ne 5, 3) := by decide +kernel
theorem dX1_readAll_20 : decode cX1_readAll 20 = .ok (.iconst 1, 1) := by decide +kernel
theorem dX1_readAll_21 : decode cX1_readAll 21 = .ok (.ireturn, 1) := by decide +kernel
theorem dX1_readAll_22 : decode cX1_readAll 22 = .ok (.aload_n 1, 1) := by decide +kernel
theorem dX1_readAll_23 : decode cX1_readAll 23 = .ok (.getfield 41, 3) := by decide +kernel
theorem dX1_readAll_26 : decode cX1_readAll 26 = .ok (.bipush 16, 2) := by decide +kernel
theorem dX1_readAll_28 : decode cX1_readAll 28 = .ok (.if_icmp .lt 12, 3) := by decide +kernel
theorem dX1_readAll_31 : decode cX1_readAll 31 = .ok (.aload_n 1, 1) := by decide +kernel
theorem dX1_readAll_32 : decode cX1_readAll 32 = .ok (.getfield 41, 3) := by decide +kernel
theorem dX1_readAll_35 : decode cX1_readAll 35 = .ok (.bipush 20, 2) := by decide +kernel
theorem dX1_readAll_37 : decode cX1_readAll 37 = .ok (.if_icmp .le 9, 3) := by decide +kernel
theorem dX1_readAll_40 : decode cX1_readAll 40 = .ok (.aload_n 1, 1) := by decide +kernel
theorem dX1_readAll_41 : decode cX1_readAll 41 = .ok (.iconst 1, 1) := by decide +kernel
theorem dX1_readAll_42 : decode cX1_readAll 42 = .ok (.invokevirtual 44, 3) := by decide +kernel
theorem dX1_readAll_45 : decode cX1_readAll 45 = .ok (.ireturn, 1) := by decide +kernel
theorem dX1_readAll_46 : decode cX1_readAll 46 = .ok (.iload_n 3, 1) := by decide +kernel
theorem dX1_readAll_47 : decode cX1_readAll 47 = .ok (.bipush 40, 2) := by decide +kernel
theorem dX1_readAll_49 : decode cX1_readAll 49 = .ok (.if_icmp .lt 9, 3) := by decide +kernel
theorem dX1_readAll_52 : decode cX1_readAll 52 = .ok (.aload_n 1, 1) := by decide +kernel
theorem dX1_readAll_53 : decode cX1_readAll 53 = .ok (.iconst 4, 1) := by decide +kernel
theorem dX1_readAll_54 : decode cX1_readAll 54 = .ok (.invokevirtual 44, 3) := by decide +kernel
theorem dX1_readAll_57 : decode cX1_readAll 57 = .ok (.ireturn, 1) := by decide +kernel
theorem dX1_readAll_58 : decode cX1_readAll 58 = .ok (.aload_n 1, 1) := by decide +kernel
theorem dX1_readAll_59 : decode cX1_readAll 59 = .ok (.aload_n 2, 1) := by decide +kernel
theorem dX1_readAll_60 : decode cX1_readAll 60 = .ok (.aload_n 0, 1) := by decide +kernel
theorem dX1_readAll_61 : decode cX1_readAll 61 = .ok (.getfield 13, 3) := by decide +kernel
theorem dX1_readAll_64 : decode cX1_readAll 64 = .ok (.iload_n 3, 1) := by decide +kernel
theorem dX1_readAll_65 : decode cX1_readAll 65 = .ok (.aaload, 1) := by decide +kernel
theorem dX1_readAll_66 : decode cX1_readAll 66 = .ok (.invokestatic 48, 3) := by decide +kernel
theorem dX1_readAll_69 : decode cX1_readAll 69 = .ok (.ifCond .eq 12, 3) := by decide +kernel
theorem dX1_readAll_72 : decode cX1_readAll 72 = .ok (.aload_n 1, 1) := by decide +kernel
theorem dX1_readAll_73 : decode cX1_readAll 73 = .ok (.bipush 59, 2) := by decide +kernel
theorem dX1_readAll_75 : decode cX1_readAll 75 = .ok (.invokevirtual 52, 3) := by decide +kernel
theorem dX1_readAll_78 : decode cX1_readAll 78 = .ok (.ifCond .ne 5, 3) := by decide +kernel
theorem dX1_readAll_81 : decode cX1_readAll 81 = .ok (.iconst 0, 1) := by decide +kernel
theorem dX1_readAll_82 : decode cX1_readAll 82 = .ok (.ireturn, 1) := by decide +kernel
theorem dX1_readAll_83 : decode cX1_readAll 83 = .ok (.aload_n 0, 1) := by decide +kernel
theorem dX1_readAll_84 : decode cX1_readAll 84 = .ok (.iload_n 3, 1) := by decide +kernel
theorem dX1_readAll_85 : decode cX1_readAll 85 = .ok (.iconst 1, 1) := by decide +kernel
theorem dX1_readAll_86 : decode cX1_readAll 86 = .ok (.iadd, 1) := by decide +kernel
theorem dX1_readAll_87 : decode cX1_readAll 87 = .ok (.putfield 16, 3) := by decide +kernel
theorem dX1_readAll_90 : decode cX1_readAll 90 = .ok (.iinc 3 1, 3) := by decide +kernel
theorem dX1_readAll_93 : decode cX1_readAll 93 = .ok (.goto (-86), 3) := by decide +kernel
theorem dX1_readAll_96 : decode cX1_readAll 96 = .ok (.iconst 0, 1) := by decide +kernel
theorem dX1_readAll_97 : decode cX1_readAll 97 = .ok (.ireturn, 1) := by decide +kernel
theorem dX1_readLine_0 : decode cX1_readLine 0 = .ok (.aload_n 2, 1) := by decide +kernel
theorem dX1_readLine_1 : decode cX1_readLine 1 = .ok (.iconst 0, 1) := by decide +kernel
theorem dX1_readLine_2 : decode cX1_readLine 2 = .ok (.aload_n 0, 1) := by decide +kernel
theorem dX1_readLine_3 : decode cX1_readLine 3 = .ok (.getfield 41, 3) := by decide +kernel
theorem dX1_readLine_6 : decode cX1_readLine 6 = .ok (.iastore, 1) := by decide +kernel
theorem dX1_readLine_7 : decode cX1_readLine 7 = .ok (.aload_n 0, 1) := by decide +kernel
theorem dX1_readLine_8 : decode cX1_readLine 8 = .ok (.invokevirtual 56, 3) := by decide +kernel
theorem dX1_readLine_11 : decode cX1_readLine 11 = .ok (.aload_n 2, 1) := by decide +kernel
theorem dX1_readLine_12 : decode cX1_readLine 12 = .ok (.iconst 0, 1) := by decide +kernel
theorem dX1_readLine_13 : decode cX1_readLine 13 = .ok (.iaload, 1) := by decide +kernel
theorem dX1_readLine_14 : decode cX1_readLine 14 = .ok (.tableswitch 176 16 20 #[34, 176, 176, 88, 153], 34) := by decide +kernel
theorem dX1_readLine_48 : decode cX1_readLine 48 = .ok (.aload_n 2, 1) := by decide +kernel
theorem dX1_readLine_49 : decode cX1_readLine 49 = .ok (.iconst 1, 1) := by decide +kernel
theorem dX1_readLine_50 : decode cX1_readLine 50 = .ok (.aload_n 0, 1) := by decide +kernel
theorem dX1_readLine_51 : decode cX1_readLine 51 = .ok (.aload_n 1, 1) := by decide +kernel
theorem dX1_readLine_52 : decode cX1_readLine 52 = .ok (.getfield 59, 3) := by decide +kernel
theorem dX1_readLine_55 : decode cX1_readLine 55 = .ok (.aload_n 1, 1) := by decide +kernel
theorem dX1_readLine_56 : decode cX1_readLine 56 = .ok (.getfield 65, 3) := by decide +kernel
theorem dX1_readLine_59 : decode cX1_readLine 59 = .ok (.invokevirtual 68, 3) := by decide +kernel
theorem dX1_readLine_62 : decode cX1_readLine 62 = .ok (.iastore, 1) := by decide +kernel
theorem dX1_readLine_63 : decode cX1_readLine 63 = .ok (.aload_n 2, 1) := by decide +kernel
theorem dX1_readLine_64 : decode cX1_readLine 64 = .ok (.iconst 2, 1) := by decide +kernel
theorem dX1_readLine_65 : decode cX1_readLine 65 = .ok (.aload_n 2, 1) := by decide +kernel
theorem dX1_readLine_66 : decode cX1_readLine 66 = .ok (.iconst 1, 1) := by decide +kernel
theorem dX1_readLine_67 : decode cX1_readLine 67 = .ok (.iaload, 1) := by decide +kernel
theorem dX1_readLine_68 : decode cX1_readLine 68 = .ok (.iconst (-1), 1) := by decide +kernel
theorem dX1_readLine_69 : decode cX1_readLine 69 = .ok (.if_icmp .ne 7, 3) := by decide +kernel
theorem dX1_readLine_72 : decode cX1_readLine 72 = .ok (.iconst (-1), 1) := by decide +kernel
theorem dX1_readLine_73 : decode cX1_readLine 73 = .ok (.goto 15, 3) := by decide +kernel
theorem dX1_readLine_76 : decode cX1_readLine 76 = .ok (.aload_n 0, 1) := by decide +kernel
theorem dX1_readLine_77 : decode cX1_readLine 77 = .ok (.aload_n 1, 1) := by decide +kernel
theorem dX1_readLine_78 : decode cX1_readLine 78 = .ok (.getfield 72, 3) := by decide +kernel
theorem dX1_readLine_81 : decode cX1_readLine 81 = .ok (.aload_n 1, 1) := by decide +kernel
theorem dX1_readLine_82 : decode cX1_readLine 82 = .ok (.getfield 75, 3) := by decide +kernel
theorem dX1_readLine_85 : decode cX1_readLine 85 = .ok (.invokevirtual 68, 3) := by decide +kernel
theorem dX1_readLine_88 : decode cX1_readLine 88 = .ok (.iastore, 1) := by decide +kernel
theorem dX1_readLine_89 : decode cX1_readLine 89 = .ok (.aload_n 2, 1) := by decide +kernel
theorem dX1_readLine_90 : decode cX1_readLine 90 = .ok (.iconst 2, 1) := by decide +kernel
theorem dX1_readLine_91 : decode cX1_readLine 91 = .ok (.iaload, 1) := by decide +kernel
theorem dX1_readLine_92 : decode cX1_readLine 92 = .ok (.iconst (-1), 1) := by decide +kernel
theorem dX1_readLine_93 : decode cX1_readLine 93 = .ok (.if_icmp .eq 7, 3) := by decide +kernel
theorem dX1_readLine_96 : decode cX1_readLine 96 = .ok (.iconst 1, 1) := by decide +kernel
theorem dX1_readLine_97 : decode cX1_readLine 97 = .ok (.goto 4, 3) := by decide +kernel
theorem dX1_readLine_100 : decode cX1_readLine 100 = .ok (.iconst 0, 1) := by decide +kernel
theorem dX1_readLine_101 : decode cX1_readLine 101 = .ok (.ireturn, 1) := by decide +kernel
theorem dX1_readLine_102 : decode cX1_readLine 102 = .ok (.aload_n 2, 1) := by decide +kernel
theorem dX1_readLine_103 : decode cX1_readLine 103 = .ok (.iconst 1, 1) := by decide +kernel
theorem dX1_readLine_104 : decode cX1_readLine 104 = .ok (.aload_n 0, 1) := by decide +kernel
theorem dX1_readLine_105 : decode cX1_readLine 105 = .ok (.iconst 0, 1) := by decide +kernel
theorem dX1_readLine_106 : decode cX1_readLine 106 = .ok (.bipush 8, 2) := by decide +kernel
theorem dX1_readLine_108 : decode cX1_readLine 108 = .ok (.invokevirtual 78, 3) := by decide +kernel
theorem dX1_readLine_111 : decode cX1_readLine 111 = .ok (.iastore, 1) := by decide +kernel
theorem dX1_readLine_112 : decode cX1_readLine 112 = .ok (.aload_n 2, 1) := by decide +kernel
theorem dX1_readLine_113 : decode cX1_readLine 113 = .ok (.iconst 2, 1) := by decide +kernel
theorem dX1_readLine_114 : decode cX1_readLine 114 = .ok (.aload_n 2, 1) := by decide +kernel
theorem dX1_readLine_115 : decode cX1_readLine 115 = .ok (.iconst 1, 1) := by decide +kernel
theorem dX1_readLine_116 : decode cX1_readLine 116 = .ok (.iaload, 1) := by decide +kernel
theorem dX1_readLine_117 : decode cX1_readLine 117 = .ok (.iconst (-1), 1) := by decide +kernel
theorem dX1_readLine_118 : decode cX1_readLine 118 = .ok (.if_icmp .ne 7, 3) := by decide +kernel
theorem dX1_readLine_121 : decode cX1_readLine 121 = .ok (.iconst (-1), 1) := by decide +kernel
theorem dX1_readLine_122 : decode cX1_readLine 122 = .ok (.goto 10, 3) := by decide +kernel
theorem dX1_readLine_125 : decode cX1_readLine 125 = .ok (.aload_n 0, 1) := by decide +kernel
theorem dX1_readLine_126 : decode cX1_readLine 126 = .ok (.iconst 0, 1) := by decide +kernel
theorem dX1_readLine_127 : decode cX1_readLine 127 = .ok (.bipush 8, 2) := by decide +kernel
theorem dX1_readLine_129 : decode cX1_readLine 129 = .ok (.invokevirtual 78, 3) := by decide +kernel
theorem dX1_readLine_132 : decode cX1_readLine 132 = .ok (.iastore, 1) := by decide +kernel
theorem dX1_readLine_133 : decode cX1_readLine 133 = .ok (.aload_n 2, 1) := by decide +kernel
theorem dX1_readLine_134 : decode cX1_readLine 134 = .ok (.iconst 3, 1) := by decide +kernel
theorem dX1_readLine_135 : decode cX1_readLine 135 = .ok (.aload_n 2, 1) := by decide +kernel
theorem dX1_readLine_136 : decode cX1_readLine 136 = .ok (.iconst 2, 1) := by decide +kernel
theorem dX1_readLine_137 : decode cX1_readLine 137 = .ok (.iaload, 1) := by decide +kernel
theorem dX1_readLine_138 : decode cX1_readLine 138 = .ok (.iconst (-1), 1) := by decide +kernel
theorem dX1_readLine_139 : decode cX1_readLine 139 = .ok (.if_icmp .ne 7, 3) := by decide +kernel
theorem dX1_readLine_142 : decode cX1_readLine 142 = .ok (.iconst (-1), 1) := by decide +kernel
theorem dX1_readLine_143 : decode cX1_readLine 143 = .ok (.goto 10, 3) := by decide +kernel
theorem dX1_readLine_146 : decode cX1_readLine 146 = .ok (.aload_n 0, 1) := by decide +kernel
theorem dX1_readLine_147 : decode cX1_readLine 147 = .ok (.iconst 1, 1) := by decide +kernel
theorem dX1_readLine_148 : decode cX1_readLine 148 = .ok (.bipush 30, 2) := by decide +kernel
theorem dX1_readLine_150 : decode cX1_readLine 150 = .ok (.invokevirtual 78, 3) := by decide +kernel
theorem dX1_readLine_153 : decode cX1_readLine 153 = .ok (.iastore, 1) := by decide +kernel
theorem dX1_readLine_154 : decode cX1_readLine 154 = .ok (.aload_n 2, 1) := by decide +kernel
theorem dX1_readLine_155 : decode cX1_readLine 155 = .ok (.iconst 3, 1) := by decide +kernel
theorem dX1_readLine_156 : decode cX1_readLine 156 = .ok (.iaload, 1) := by decide +kernel
theorem dX1_readLine_157 : decode cX1_readLine 157 = .ok (.iconst (-1), 1) := by decide +kernel
theorem dX1_readLine_158 : decode cX1_readLine 158 = .ok (.if_icmp .eq 7, 3) := by decide +kernel
theorem dX1_readLine_161 : decode cX1_readLine 161 = .ok (.iconst 1, 1) := by decide +kernel
theorem dX1_readLine_162 : decode cX1_readLine 162 = .ok (.goto 4, 3) := by decide +kernel
theorem dX1_readLine_165 : decode cX1_readLine 165 = .ok (.iconst 0, 1) := by decide +kernel
theorem dX1_readLine_166 : decode cX1_readLine 166 = .ok (.ireturn, 1) := by decide +kernel
theorem dX1_readLine_167 : decode cX1_readLine 167 = .ok (.aload_n 2, 1) := by decide +kernel
theorem dX1_readLine_168 : decode cX1_readLine 168 = .ok (.iconst 1, 1) := by decide +kernel
theorem dX1_readLine_169 : decode cX1_readLine 169 = .ok (.aload_n 0, 1) := by decide +kernel
theorem dX1_readLine_170 : decode cX1_readLine 170 = .ok (.iconst 1, 1) := by decide +kernel
theorem dX1_readLine_171 : decode cX1_readLine 171 = .ok (.bipush 60, 2) := by decide +kernel
theorem dX1_readLine_173 : decode cX1_readLine 173 = .ok (.invokevirtual 78, 3) := by decide +kernel
theorem dX1_readLine_176 : decode cX1_readLine 176 = .ok (.iastore, 1) := by decide +kernel
theorem dX1_readLine_177 : decode cX1_readLine 177 = .ok (.aload_n 2, 1) := by decide +kernel
theorem dX1_readLine_178 : decode cX1_readLine 178 = .ok (.iconst 1, 1) := by decide +kernel
theorem dX1_readLine_179 : decode cX1_readLine 179 = .ok (.iaload, 1) := by decide +kernel
theorem dX1_readLine_180 : decode cX1_readLine 180 = .ok (.iconst (-1), 1) := by decide +kernel
theorem dX1_readLine_181 : decode cX1_readLine 181 = .ok (.if_icmp .eq 7, 3) := by decide +kernel
theorem dX1_readLine_184 : decode cX1_readLine 184 = .ok (.iconst 1, 1) := by decide +kernel
theorem dX1_readLine_185 : decode cX1_readLine 185 = .ok (.goto 4, 3) := by decide +kernel
theorem dX1_readLine_188 : decode cX1_readLine 188 = .ok (.iconst 0, 1) := by decide +kernel
theorem dX1_readLine_189 : decode cX1_readLine 189 = .ok (.ireturn, 1) := by decide +kernel
theorem dX1_readLine_190 : decode cX1_readLine 190 = .ok (.aload_n 2, 1) := by decide +kernel
theorem dX1_readLine_191 : decode cX1_readLine 191 = .ok (.iconst 1, 1) := by decide +kernel
theorem dX1_readLine_192 : decode cX1_readLine 192 = .ok (.aload_n 0, 1) := by decide +kernel
theorem dX1_readLine_193 : decode cX1_readLine 193 = .ok (.aload_n 1, 1) := by decide +kernel
theorem dX1_readLine_194 : decode cX1_readLine 194 = .ok (.getfield 82, 3) := by decide +kernel
theorem dX1_readLine_197 : decode cX1_readLine 197 = .ok (.aload_n 1, 1) := by decide +kernel
theorem dX1_readLine_198 : decode cX1_readLine 198 = .ok (.getfield 85, 3) := by decide +kernel
theorem dX1_readLine_201 : decode cX1_readLine 201 = .ok (.invokevirtual 68, 3) := by decide +kernel
theorem dX1_readLine_204 : decode cX1_readLine 204 = .ok (.iastore, 1) := by decide +kernel
theorem dX1_readLine_205 : decode cX1_readLine 205 = .ok (.aload_n 2, 1) := by decide +kernel
theorem dX1_readLine_206 : decode cX1_readLine 206 = .ok (.iconst 1, 1) := by decide +kernel
theorem dX1_readLine_207 : decode cX1_readLine 207 = .ok (.iaload, 1) := by decide +kernel
theorem dX1_readLine_208 : decode cX1_readLine 208 = .ok (.iconst (-1), 1) := by decide +kernel
theorem dX1_readLine_209 : decode cX1_readLine 209 = .ok (.if_icmp .eq 7, 3) := by decide +kernel
theorem dX1_readLine_212 : decode cX1_readLine 212 = .ok (.iconst 1, 1) := by decide +kernel
theorem dX1_readLine_213 : decode cX1_readLine 213 = .ok (.goto 4, 3) := by decide +kernel
theorem dX1_readLine_216 : decode cX1_readLine 216 = .ok (.iconst 0, 1) := by decide +kernel
theorem dX1_readLine_217 : decode cX1_readLine 217 = .ok (.ireturn, 1) := by decide +kernel
theorem dX1_live_0 : decode cX1_live 0 = .ok (.aload_n 0, 1) := by decide +kernel
theorem dX1_live_1 : decode cX1_live 1 = .ok (.iconst 0, 1) := by decide +kernel
theorem dX1_live_2 : decode cX1_live 2 = .ok (.putfield 24, 3) := by decide +kernel
theorem dX1_live_5 : decode cX1_live 5 = .ok (.aload_n 0, 1) := by decide +kernel
theorem dX1_live_6 : decode cX1_live 6 = .ok (.iconst 0, 1) := by decide +kernel
theorem dX1_live_7 : decode cX1_live 7 = .ok (.putfield 27, 3) := by decide +kernel
theorem dX1_live_10 : decode cX1_live 10 = .ok (.iconst 0, 1) := by decide +kernel
theorem dX1_live_11 : decode cX1_live 11 = .ok (.istore_n 3, 1) := by decide +kernel
theorem dX1_live_12 : decode cX1_live 12 = .ok (.iload_n 3, 1) := by decide +kernel
theorem dX1_live_13 : decode cX1_live 13 = .ok (.aload_n 0, 1) := by decide +kernel
theorem dX1_live_14 : decode cX1_live 14 = .ok (.getfield 16, 3) := by decide +kernel
theorem dX1_live_17 : decode cX1_live 17 = .ok (.if_icmp .ge 48, 3) := by decide +kernel
theorem dX1_live_20 : decode cX1_live 20 = .ok (.aload_n 0, 1) := by decide +kernel
theorem dX1_live_21 : decode cX1_live 21 = .ok (.getfield 24, 3) := by decide +kernel
theorem dX1_live_24 : decode cX1_live 24 = .ok (.ifCond .ne 41, 3) := by decide +kernel
theorem dX1_live_27 : decode cX1_live 27 = .ok (.aload_n 0, 1) := by decide +kernel
theorem dX1_live_28 : decode cX1_live 28 = .ok (.aload_n 1, 1) := by decide +kernel
theorem dX1_live_29 : decode cX1_live 29 = .ok (.aload_n 2, 1) := by decide +kernel
theorem dX1_live_30 : decode cX1_live 30 = .ok (.aload_n 0, 1) := by decide +kernel
theorem dX1_live_31 : decode cX1_live 31 = .ok (.getfield 13, 3) := by decide +kernel
theorem dX1_live_34 : decode cX1_live 34 = .ok (.iload_n 3, 1) := by decide +kernel
theorem dX1_live_35 : decode cX1_live 35 = .ok (.aaload, 1) := by decide +kernel
theorem dX1_live_36 : decode cX1_live 36 = .ok (.invokestatic 88, 3) := by decide +kernel
theorem dX1_live_39 : decode cX1_live 39 = .ok (.putfield 24, 3) := by decide +kernel
theorem dX1_live_42 : decode cX1_live 42 = .ok (.aload_n 0, 1) := by decide +kernel
theorem dX1_live_43 : decode cX1_live 43 = .ok (.getfield 24, 3) := by decide +kernel
theorem dX1_live_46 : decode cX1_live 46 = .ok (.ifCond .ne 13, 3) := by decide +kernel
theorem dX1_live_49 : decode cX1_live 49 = .ok (.aload_n 0, 1) := by decide +kernel
theorem dX1_live_50 : decode cX1_live 50 = .ok (.dup, 1) := by decide +kernel
theorem dX1_live_51 : decode cX1_live 51 = .ok (.getfield 27, 3) := by decide +kernel
theorem dX1_live_54 : decode cX1_live 54 = .ok (.iconst 1, 1) := by decide +kernel
theorem dX1_live_55 : decode cX1_live 55 = .ok (.iadd, 1) := by decide +kernel
theorem dX1_live_56 : decode cX1_live 56 = .ok (.putfield 27, 3) := by decide +kernel
theorem dX1_live_59 : decode cX1_live 59 = .ok (.iinc 3 1, 3) := by decide +kernel
theorem dX1_live_62 : decode cX1_live 62 = .ok (.goto (-50), 3) := by decide +kernel
theorem dX1_live_65 : decode cX1_live 65 = .ok (.aload_n 0, 1) := by decide +kernel
theorem dX1_live_66 : decode cX1_live 66 = .ok (.aload_n 2, 1) := by decide +kernel
theorem dX1_live_67 : decode cX1_live 67 = .ok (.getfield 92, 3) := by decide +kernel
theorem dX1_live_70 : decode cX1_live 70 = .ok (.putfield 30, 3) := by decide +kernel
theorem dX1_live_73 : decode cX1_live 73 = .ok (.aload_n 0, 1) := by decide +kernel
theorem dX1_live_74 : decode cX1_live 74 = .ok (.aload_n 2, 1) := by decide +kernel
theorem dX1_live_75 : decode cX1_live 75 = .ok (.aload_n 1, 1) := by decide +kernel
theorem dX1_live_76 : decode cX1_live 76 = .ok (.invokevirtual 97, 3) := by decide +kernel
theorem dX1_live_79 : decode cX1_live 79 = .ok (.putfield 33, 3) := by decide +kernel
theorem dX1_live_82 : decode cX1_live 82 = .ok (.aload_n 0, 1) := by decide +kernel
theorem dX1_live_83 : decode cX1_live 83 = .ok (.iconst 1, 1) := by decide +kernel
theorem dX1_live_84 : decode cX1_live 84 = .ok (.putfield 20, 3) := by decide +kernel
theorem dX1_live_87 : decode cX1_live 87 = .ok (.return_, 1) := by decide +kernel
theorem dX1_liveLine_0 : decode cX1_liveLine 0 = .ok (.aload_n 2, 1) := by decide +kernel
theorem dX1_liveLine_1 : decode cX1_liveLine 1 = .ok (.iconst 0, 1) := by decide +kernel
theorem dX1_liveLine_2 : decode cX1_liveLine 2 = .ok (.iaload, 1) := by decide +kernel
theorem dX1_liveLine_3 : decode cX1_liveLine 3 = .ok (.tableswitch 114 16 19 #[29, 41, 58, 75], 29) := by decide +kernel
theorem dX1_liveLine_32 : decode cX1_liveLine 32 = .ok (.aload_n 1, 1) := by decide +kernel
theorem dX1_liveLine_33 : decode cX1_liveLine 33 = .ok (.aload_n 0, 1) := by decide +kernel
theorem dX1_liveLine_34 : decode cX1_liveLine 34 = .ok (.aload_n 2, 1) := by decide +kernel
theorem dX1_liveLine_35 : decode cX1_liveLine 35 = .ok (.iconst 1, 1) := by decide +kernel
theorem dX1_liveLine_36 : decode cX1_liveLine 36 = .ok (.iaload, 1) := by decide +kernel
theorem dX1_liveLine_37 : decode cX1_liveLine 37 = .ok (.aload_n 2, 1) := by decide +kernel
theorem dX1_liveLine_38 : decode cX1_liveLine 38 = .ok (.iconst 2, 1) := by decide +kernel
theorem dX1_liveLine_39 : decode cX1_liveLine 39 = .ok (.iaload, 1) := by decide +kernel
theorem dX1_liveLine_40 : decode cX1_liveLine 40 = .ok (.invokevirtual 101, 3) := by decide +kernel
theorem dX1_liveLine_43 : decode cX1_liveLine 43 = .ok (.ireturn, 1) := by decide +kernel
theorem dX1_liveLine_44 : decode cX1_liveLine 44 = .ok (.aload_n 1, 1) := by decide +kernel
theorem dX1_liveLine_45 : decode cX1_liveLine 45 = .ok (.aload_n 2, 1) := by decide +kernel
theorem dX1_liveLine_46 : decode cX1_liveLine 46 = .ok (.iconst 1, 1) := by decide +kernel
theorem dX1_liveLine_47 : decode cX1_liveLine 47 = .ok (.iaload, 1) := by decide +kernel
theorem dX1_liveLine_48 : decode cX1_liveLine 48 = .ok (.invokevirtual 105, 3) := by decide +kernel
theorem dX1_liveLine_51 : decode cX1_liveLine 51 = .ok (.ifCond .ne 7, 3) := by decide +kernel
theorem dX1_liveLine_54 : decode cX1_liveLine 54 = .ok (.iconst 0, 1) := by decide +kernel
theorem dX1_liveLine_55 : decode cX1_liveLine 55 = .ok (.goto 5, 3) := by decide +kernel
theorem dX1_liveLine_58 : decode cX1_liveLine 58 = .ok (.bipush 11, 2) := by decide +kernel
theorem dX1_liveLine_60 : decode cX1_liveLine 60 = .ok (.ireturn, 1) := by decide +kernel
theorem dX1_liveLine_61 : decode cX1_liveLine 61 = .ok (.aload_n 1, 1) := by decide +kernel
theorem dX1_liveLine_62 : decode cX1_liveLine 62 = .ok (.aload_n 2, 1) := by decide +kernel
theorem dX1_liveLine_63 : decode cX1_liveLine 63 = .ok (.iconst 1, 1) := by decide +kernel
theorem dX1_liveLine_64 : decode cX1_liveLine 64 = .ok (.iaload, 1) := by decide +kernel
theorem dX1_liveLine_65 : decode cX1_liveLine 65 = .ok (.invokevirtual 109, 3) := by decide +kernel
theorem dX1_liveLine_68 : decode cX1_liveLine 68 = .ok (.ifCond .ne 7, 3) := by decide +kernel
theorem dX1_liveLine_71 : decode cX1_liveLine 71 = .ok (.iconst 0, 1) := by decide +kernel
theorem dX1_liveLine_72 : decode cX1_liveLine 72 = .ok (.goto 5, 3) := by decide +kernel
theorem dX1_liveLine_75 : decode cX1_liveLine 75 = .ok (.bipush 21, 2) := by decide +kernel
theorem dX1_liveLine_77 : decode cX1_liveLine 77 = .ok (.ireturn, 1) := by decide +kernel
theorem dX1_liveLine_78 : decode cX1_liveLine 78 = .ok (.aload_n 0, 1) := by decide +kernel
theorem dX1_liveLine_79 : decode cX1_liveLine 79 = .ok (.aload_n 2, 1) := by decide +kernel
theorem dX1_liveLine_80 : decode cX1_liveLine 80 = .ok (.iconst 1, 1) := by decide +kernel
theorem dX1_liveLine_81 : decode cX1_liveLine 81 = .ok (.iaload, 1) := by decide +kernel
theorem dX1_liveLine_82 : decode cX1_liveLine 82 = .ok (.aload_n 2, 1) := by decide +kernel
theorem dX1_liveLine_83 : decode cX1_liveLine 83 = .ok (.iconst 2, 1) := by decide +kernel
theorem dX1_liveLine_84 : decode cX1_liveLine 84 = .ok (.iaload, 1) := by decide +kernel
theorem dX1_liveLine_85 : decode cX1_liveLine 85 = .ok (.invokevirtual 112, 3) := by decide +kernel
theorem dX1_liveLine_88 : decode cX1_liveLine 88 = .ok (.ifCond .ne 6, 3) := by decide +kernel
theorem dX1_liveLine_91 : decode cX1_liveLine 91 = .ok (.bipush 39, 2) := by decide +kernel
theorem dX1_liveLine_93 : decode cX1_liveLine 93 = .ok (.ireturn, 1) := by decide +kernel
theorem dX1_liveLine_94 : decode cX1_liveLine 94 = .ok (.aload_n 1, 1) := by decide +kernel
theorem dX1_liveLine_95 : decode cX1_liveLine 95 = .ok (.aload_n 2, 1) := by decide +kernel
theorem dX1_liveLine_96 : decode cX1_liveLine 96 = .ok (.iconst 1, 1) := by decide +kernel
theorem dX1_liveLine_97 : decode cX1_liveLine 97 = .ok (.iaload, 1) := by decide +kernel
theorem dX1_liveLine_98 : decode cX1_liveLine 98 = .ok (.aload_n 2, 1) := by decide +kernel
theorem dX1_liveLine_99 : decode cX1_liveLine 99 = .ok (.iconst 2, 1) := by decide +kernel
theorem dX1_liveLine_100 : decode cX1_liveLine 100 = .ok (.iaload, 1) := by decide +kernel
theorem dX1_liveLine_101 : decode cX1_liveLine 101 = .ok (.aload_n 2, 1) := by decide +kernel
theorem dX1_liveLine_102 : decode cX1_liveLine 102 = .ok (.iconst 3, 1) := by decide +kernel
theorem dX1_liveLine_103 : decode cX1_liveLine 103 = .ok (.iaload, 1) := by decide +kernel
theorem dX1_liveLine_104 : decode cX1_liveLine 104 = .ok (.invokevirtual 116, 3) := by decide +kernel
theorem dX1_liveLine_107 : decode cX1_liveLine 107 = .ok (.ifCond .ne 7, 3) := by decide +kernel
theorem dX1_liveLine_110 : decode cX1_liveLine 110 = .ok (.iconst 0, 1) := by decide +kernel
theorem dX1_liveLine_111 : decode cX1_liveLine 111 = .ok (.goto 5, 3) := by decide +kernel
theorem dX1_liveLine_114 : decode cX1_liveLine 114 = .ok (.bipush 31, 2) := by decide +kernel
theorem dX1_liveLine_116 : decode cX1_liveLine 116 = .ok (.ireturn, 1) := by decide +kernel
theorem dX1_liveLine_117 : decode cX1_liveLine 117 = .ok (.aload_n 2, 1) := by decide +kernel
theorem dX1_liveLine_118 : decode cX1_liveLine 118 = .ok (.iconst 1, 1) := by decide +kernel
theorem dX1_liveLine_119 : decode cX1_liveLine 119 = .ok (.iaload, 1) := by decide +kernel
theorem dX1_liveLine_120 : decode cX1_liveLine 120 = .ok (.sipush 400, 3) := by decide +kernel
theorem dX1_liveLine_123 : decode cX1_liveLine 123 = .ok (.aload_n 1, 1) := by decide +kernel
theorem dX1_liveLine_124 : decode cX1_liveLine 124 = .ok (.getfield 92, 3) := by decide +kernel
theorem dX1_liveLine_127 : decode cX1_liveLine 127 = .ok (.isub, 1) := by decide +kernel
theorem dX1_liveLine_128 : decode cX1_liveLine 128 = .ok (.if_icmp .le 6, 3) := by decide +kernel
theorem dX1_liveLine_131 : decode cX1_liveLine 131 = .ok (.bipush 41, 2) := by decide +kernel
theorem dX1_liveLine_133 : decode cX1_liveLine 133 = .ok (.ireturn, 1) := by decide +kernel
theorem dX1_liveLine_134 : decode cX1_liveLine 134 = .ok (.iconst 0, 1) := by decide +kernel
theorem dX1_liveLine_135 : decode cX1_liveLine 135 = .ok (.istore_n 3, 1) := by decide +kernel
theorem dX1_liveLine_136 : decode cX1_liveLine 136 = .ok (.iload_n 3, 1) := by decide +kernel
theorem dX1_liveLine_137 : decode cX1_liveLine 137 = .ok (.aload_n 2, 1) := by decide +kernel
theorem dX1_liveLine_138 : decode cX1_liveLine 138 = .ok (.iconst 1, 1) := by decide +kernel
theorem dX1_liveLine_139 : decode cX1_liveLine 139 = .ok (.iaload, 1) := by decide +kernel
theorem dX1_liveLine_140 : decode cX1_liveLine 140 = .ok (.if_icmp .ge 14, 3) := by decide +kernel
theorem dX1_liveLine_143 : decode cX1_liveLine 143 = .ok (.aload_n 1, 1) := by decide +kernel
theorem dX1_liveLine_144 : decode cX1_liveLine 144 = .ok (.aload_n 0, 1) := by decide +kernel
theorem dX1_liveLine_145 : decode cX1_liveLine 145 = .ok (.invokevirtual 120, 3) := by decide +kernel
theorem dX1_liveLine_148 : decode cX1_liveLine 148 = .ok (.iinc 3 1, 3) := by decide +kernel
theorem dX1_liveLine_151 : decode cX1_liveLine 151 = .ok (.goto (-15), 3) := by decide +kernel
theorem dX1_liveLine_154 : decode cX1_liveLine 154 = .ok (.iconst 0, 1) := by decide +kernel
theorem dX1_liveLine_155 : decode cX1_liveLine 155 = .ok (.ireturn, 1) := by decide +kernel
theorem dX2_init_0 : decode cX2_init 0 = .ok (.aload_n 0, 1) := by decide +kernel
theorem dX2_init_1 : decode cX2_init 1 = .ok (.invokespecial 3, 3) := by decide +kernel
theorem dX2_init_4 : decode cX2_init 4 = .ok (.aload_n 0, 1) := by decide +kernel
theorem dX2_init_5 : decode cX2_init 5 = .ok (.bipush 6, 2) := by decide +kernel
theorem dX2_init_7 : decode cX2_init 7 = .ok (.putfield 9, 3) := by decide +kernel
theorem dX2_init_10 : decode cX2_init 10 = .ok (.aload_n 0, 1) := by decide +kernel
theorem dX2_init_11 : decode cX2_init 11 = .ok (.bipush 6, 2) := by decide +kernel
theorem dX2_init_13 : decode cX2_init 13 = .ok (.putfield 15, 3) := by decide +kernel
theorem dX2_init_16 : decode cX2_init 16 = .ok (.aload_n 0, 1) := by decide +kernel
theorem dX2_init_17 : decode cX2_init 17 = .ok (.bipush 6, 2) := by decide +kernel
theorem dX2_init_19 : decode cX2_init 19 = .ok (.putfield 18, 3) := by decide +kernel
theorem dX2_init_22 : decode cX2_init 22 = .ok (.aload_n 0, 1) := by decide +kernel
theorem dX2_init_23 : decode cX2_init 23 = .ok (.bipush 17, 2) := by decide +kernel
theorem dX2_init_25 : decode cX2_init 25 = .ok (.putfield 21, 3) := by decide +kernel
theorem dX2_init_28 : decode cX2_init 28 = .ok (.aload_n 0, 1) := by decide +kernel
theorem dX2_init_29 : decode cX2_init 29 = .ok (.iconst 0, 1) := by decide +kernel
theorem dX2_init_30 : decode cX2_init 30 = .ok (.putfield 24, 3) := by decide +kernel
theorem dX2_init_33 : decode cX2_init 33 = .ok (.aload_n 0, 1) := by decide +kernel
theorem dX2_init_34 : decode cX2_init 34 = .ok (.iconst 0, 1) := by decide +kernel
theorem dX2_init_35 : decode cX2_init 35 = .ok (.putfield 28, 3) := by decide +kernel
theorem dX2_init_38 : decode cX2_init 38 = .ok (.aload_n 0, 1) := by decide +kernel
theorem dX2_init_39 : decode cX2_init 39 = .ok (.iconst 0, 1) := by decide +kernel
theorem dX2_init_40 : decode cX2_init 40 = .ok (.putfield 31, 3) := by decide +kernel
theorem dX2_init_43 : decode cX2_init 43 = .ok (.aload_n 0, 1) := by decide +kernel
theorem dX2_init_44 : decode cX2_init 44 = .ok (.iconst 0, 1) := by decide +kernel
theorem dX2_init_45 : decode cX2_init 45 = .ok (.putfield 34, 3) := by decide +kernel
theorem dX2_init_48 : decode cX2_init 48 = .ok (.aload_n 0, 1) := by decide +kernel
theorem dX2_init_49 : decode cX2_init 49 = .ok (.iconst 0, 1) := by decide +kernel
theorem dX2_init_50 : decode cX2_init 50 = .ok (.putfield 37, 3) := by decide +kernel
theorem dX2_init_53 : decode cX2_init 53 = .ok (.aload_n 0, 1) := by decide +kernel
theorem dX2_init_54 : decode cX2_init 54 = .ok (.bipush 6, 2) := by decide +kernel
theorem dX2_init_56 : decode cX2_init 56 = .ok (.newarray .long, 2) := by decide +kernel
theorem dX2_init_58 : decode cX2_init 58 = .ok (.putfield 40, 3) := by decide +kernel
theorem dX2_init_61 : decode cX2_init 61 = .ok (.aload_n 0, 1) := by decide +kernel
theorem dX2_init_62 : decode cX2_init 62 = .ok (.bipush 6, 2) := by decide +kernel
theorem dX2_init_64 : decode cX2_init 64 = .ok (.newarray .long, 2) := by decide +kernel
theorem dX2_init_66 : decode cX2_init 66 = .ok (.putfield 44, 3) := by decide +kernel
theorem dX2_init_69 : decode cX2_init 69 = .ok (.aload_n 0, 1) := by decide +kernel
theorem dX2_init_70 : decode cX2_init 70 = .ok (.bipush 8, 2) := by decide +kernel
theorem dX2_init_72 : decode cX2_init 72 = .ok (.newarray .long, 2) := by decide +kernel
theorem dX2_init_74 : decode cX2_init 74 = .ok (.putfield 47, 3) := by decide +kernel
theorem dX2_init_77 : decode cX2_init 77 = .ok (.aload_n 0, 1) := by decide +kernel
theorem dX2_init_78 : decode cX2_init 78 = .ok (.bipush 6, 2) := by decide +kernel
theorem dX2_init_80 : decode cX2_init 80 = .ok (.iconst 3, 1) := by decide +kernel
theorem dX2_init_81 : decode cX2_init 81 = .ok (.multianewarray 50 2, 4) := by decide +kernel
theorem dX2_init_85 : decode cX2_init 85 = .ok (.putfield 52, 3) := by decide +kernel
theorem dX2_init_88 : decode cX2_init 88 = .ok (.aload_n 0, 1) := by decide +kernel
theorem dX2_init_89 : decode cX2_init 89 = .ok (.bipush 6, 2) := by decide +kernel
theorem dX2_init_91 : decode cX2_init 91 = .ok (.iconst 4, 1) := by decide +kernel
theorem dX2_init_92 : decode cX2_init 92 = .ok (.multianewarray 50 2, 4) := by decide +kernel
theorem dX2_init_96 : decode cX2_init 96 = .ok (.putfield 55, 3) := by decide +kernel
theorem dX2_init_99 : decode cX2_init 99 = .ok (.aload_n 0, 1) := by decide +kernel
theorem dX2_init_100 : decode cX2_init 100 = .ok (.bipush 8, 2) := by decide +kernel
theorem dX2_init_102 : decode cX2_init 102 = .ok (.bipush 6, 2) := by decide +kernel
theorem dX2_init_104 : decode cX2_init 104 = .ok (.multianewarray 50 2, 4) := by decide +kernel
theorem dX2_init_108 : decode cX2_init 108 = .ok (.putfield 58, 3) := by decide +kernel
theorem dX2_init_111 : decode cX2_init 111 = .ok (.return_, 1) := by decide +kernel
theorem dX2_clear_0 : decode cX2_clear 0 = .ok (.aload_n 0, 1) := by decide +kernel
theorem dX2_clear_1 : decode cX2_clear 1 = .ok (.bipush 6, 2) := by decide +kernel
theorem dX2_clear_3 : decode cX2_clear 3 = .ok (.putfield 9, 3) := by decide +kernel
theorem dX2_clear_6 : decode cX2_clear 6 = .ok (.aload_n 0, 1) := by decide +kernel
theorem dX2_clear_7 : decode cX2_clear 7 = .ok (.bipush 6, 2) := by decide +kernel
theorem dX2_clear_9 : decode cX2_clear 9 = .ok (.putfield 15, 3) := by decide +kernel
theorem dX2_clear_12 : decode cX2_clear 12 = .ok (.aload_n 0, 1) := by decide +kernel
theorem dX2_clear_13 : decode cX2_clear 13 = .ok (.bipush 6, 2) := by decide +kernel
theorem dX2_clear_15 : decode cX2_clear 15 = .ok (.putfield 18, 3) := by decide +kernel
theorem dX2_clear_18 : decode cX2_clear 18 = .ok (.aload_n 0, 1) := by decide +kernel
theorem dX2_clear_19 : decode cX2_clear 19 = .ok (.bipush 17, 2) := by decide +kernel
theorem dX2_clear_21 : decode cX2_clear 21 = .ok (.putfield 21, 3) := by decide +kernel
theorem dX2_clear_24 : decode cX2_clear 24 = .ok (.aload_n 0, 1) := by decide +kernel
theorem dX2_clear_25 : decode cX2_clear 25 = .ok (.iconst 0, 1) := by decide +kernel
theorem dX2_clear_26 : decode cX2_clear 26 = .ok (.putfield 24, 3) := by decide +kernel
theorem dX2_clear_29 : decode cX2_clear 29 = .ok (.aload_n 0, 1) := by decide +kernel
theorem dX2_clear_30 : decode cX2_clear 30 = .ok (.iconst 0, 1) := by decide +kernel
theorem dX2_clear_31 : decode cX2_clear 31 = .ok (.putfield 28, 3) := by decide +kernel
theorem dX2_clear_34 : decode cX2_clear 34 = .ok (.aload_n 0, 1) := by decide +kernel
theorem dX2_clear_35 : decode cX2_clear 35 = .ok (.iconst 0, 1) := by decide +kernel
theorem dX2_clear_36 : decode cX2_clear 36 = .ok (.putfield 31, 3) := by decide +kernel
theorem dX2_clear_39 : decode cX2_clear 39 = .ok (.aload_n 0, 1) := by decide +kernel
theorem dX2_clear_40 : decode cX2_clear 40 = .ok (.iconst 0, 1) := by decide +kernel
theorem dX2_clear_41 : decode cX2_clear 41 = .ok (.putfield 34, 3) := by decide +kernel
theorem dX2_clear_44 : decode cX2_clear 44 = .ok (.aload_n 0, 1) := by decide +kernel
theorem dX2_clear_45 : decode cX2_clear 45 = .ok (.iconst 0, 1) := by decide +kernel
theorem dX2_clear_46 : decode cX2_clear 46 = .ok (.putfield 37, 3) := by decide +kernel
theorem dX2_clear_49 : decode cX2_clear 49 = .ok (.return_, 1) := by decide +kernel
theorem dX2_copyFrom_0 : decode cX2_copyFrom 0 = .ok (.aload_n 0, 1) := by decide +kernel
theorem dX2_copyFrom_1 : decode cX2_copyFrom 1 = .ok (.aload_n 1, 1) := by decide +kernel
theorem dX2_copyFrom_2 : decode cX2_copyFrom 2 = .ok (.getfield 9, 3) := by decide +kernel
theorem dX2_copyFrom_5 : decode cX2_copyFrom 5 = .ok (.putfield 9, 3) := by decide +kernel
theorem dX2_copyFrom_8 : decode cX2_copyFrom 8 = .ok (.aload_n 0, 1) := by decide +kernel
theorem dX2_copyFrom_9 : decode cX2_copyFrom 9 = .ok (.aload_n 1, 1) := by decide +kernel
theorem dX2_copyFrom_10 : decode cX2_copyFrom 10 = .ok (.getfield 15, 3) := by decide +kernel
theorem dX2_copyFrom_13 : decode cX2_copyFrom 13 = .ok (.putfield 15, 3) := by decide +kernel
theorem dX2_copyFrom_16 : decode cX2_copyFrom 16 = .ok (.aload_n 0, 1) := by decide +kernel
theorem dX2_copyFrom_17 : decode cX2_copyFrom 17 = .ok (.aload_n 1, 1) := by decide +kernel
theorem dX2_copyFrom_18 : decode cX2_copyFrom 18 = .ok (.getfield 18, 3) := by decide +kernel
theorem dX2_copyFrom_21 : decode cX2_copyFrom 21 = .ok (.putfield 18, 3) := by decide +kernel
theorem dX2_copyFrom_24 : decode cX2_copyFrom 24 = .ok (.aload_n 0, 1) := by decide +kernel
theorem dX2_copyFrom_25 : decode cX2_copyFrom 25 = .ok (.aload_n 1, 1) := by decide +kernel
theorem dX2_copyFrom_26 : decode cX2_copyFrom 26 = .ok (.getfield 21, 3) := by decide +kernel
theorem dX2_copyFrom_29 : decode cX2_copyFrom 29 = .ok (.putfield 21, 3) := by decide +kernel
theorem dX2_copyFrom_32 : decode cX2_copyFrom 32 = .ok (.aload_n 0, 1) := by decide +kernel
theorem dX2_copyFrom_33 : decode cX2_copyFrom 33 = .ok (.aload_n 1, 1) := by decide +kernel
theorem dX2_copyFrom_34 : decode cX2_copyFrom 34 = .ok (.getfield 31, 3) := by decide +kernel
theorem dX2_copyFrom_37 : decode cX2_copyFrom 37 = .ok (.putfield 31, 3) := by decide +kernel
theorem dX2_copyFrom_40 : decode cX2_copyFrom 40 = .ok (.aload_n 0, 1) := by decide +kernel
theorem dX2_copyFrom_41 : decode cX2_copyFrom 41 = .ok (.aload_n 1, 1) := by decide +kernel
theorem dX2_copyFrom_42 : decode cX2_copyFrom 42 = .ok (.getfield 34, 3) := by decide +kernel
theorem dX2_copyFrom_45 : decode cX2_copyFrom 45 = .ok (.putfield 34, 3) := by decide +kernel
theorem dX2_copyFrom_48 : decode cX2_copyFrom 48 = .ok (.aload_n 0, 1) := by decide +kernel
theorem dX2_copyFrom_49 : decode cX2_copyFrom 49 = .ok (.aload_n 1, 1) := by decide +kernel
theorem dX2_copyFrom_50 : decode cX2_copyFrom 50 = .ok (.getfield 37, 3) := by decide +kernel
theorem dX2_copyFrom_53 : decode cX2_copyFrom 53 = .ok (.putfield 37, 3) := by decide +kernel
theorem dX2_copyFrom_56 : decode cX2_copyFrom 56 = .ok (.aload_n 1, 1) := by decide +kernel
theorem dX2_copyFrom_57 : decode cX2_copyFrom 57 = .ok (.getfield 40, 3) := by decide +kernel
theorem dX2_copyFrom_60 : decode cX2_copyFrom 60 = .ok (.iconst 0, 1) := by decide +kernel
theorem dX2_copyFrom_61 : decode cX2_copyFrom 61 = .ok (.aload_n 0, 1) := by decide +kernel
theorem dX2_copyFrom_62 : decode cX2_copyFrom 62 = .ok (.getfield 40, 3) := by decide +kernel
theorem dX2_copyFrom_65 : decode cX2_copyFrom 65 = .ok (.iconst 0, 1) := by decide +kernel
theorem dX2_copyFrom_66 : decode cX2_copyFrom 66 = .ok (.bipush 6, 2) := by decide +kernel
theorem dX2_copyFrom_68 : decode cX2_copyFrom 68 = .ok (.invokestatic 61, 3) := by decide +kernel
theorem dX2_copyFrom_71 : decode cX2_copyFrom 71 = .ok (.aload_n 1, 1) := by decide +kernel
theorem dX2_copyFrom_72 : decode cX2_copyFrom 72 = .ok (.getfield 44, 3) := by decide +kernel
theorem dX2_copyFrom_75 : decode cX2_copyFrom 75 = .ok (.iconst 0, 1) := by decide +kernel
theorem dX2_copyFrom_76 : decode cX2_copyFrom 76 = .ok (.aload_n 0, 1) := by decide +kernel
theorem dX2_copyFrom_77 : decode cX2_copyFrom 77 = .ok (.getfield 44, 3) := by decide +kernel
theorem dX2_copyFrom_80 : decode cX2_copyFrom 80 = .ok (.iconst 0, 1) := by decide +kernel
theorem dX2_copyFrom_81 : decode cX2_copyFrom 81 = .ok (.bipush 6, 2) := by decide +kernel
theorem dX2_copyFrom_83 : decode cX2_copyFrom 83 = .ok (.invokestatic 61, 3) := by decide +kernel
theorem dX2_copyFrom_86 : decode cX2_copyFrom 86 = .ok (.aload_n 1, 1) := by decide +kernel
theorem dX2_copyFrom_87 : decode cX2_copyFrom 87 = .ok (.getfield 47, 3) := by decide +kernel
theorem dX2_copyFrom_90 : decode cX2_copyFrom 90 = .ok (.iconst 0, 1) := by decide +kernel
theorem dX2_copyFrom_91 : decode cX2_copyFrom 91 = .ok (.aload_n 0, 1) := by decide +kernel
theorem dX2_copyFrom_92 : decode cX2_copyFrom 92 = .ok (.getfield 47, 3) := by decide +kernel
theorem dX2_copyFrom_95 : decode cX2_copyFrom 95 = .ok (.iconst 0, 1) := by decide +kernel
theorem dX2_copyFrom_96 : decode cX2_copyFrom 96 = .ok (.bipush 8, 2) := by decide +kernel
theorem dX2_copyFrom_98 : decode cX2_copyFrom 98 = .ok (.invokestatic 61, 3) := by decide +kernel
theorem dX2_copyFrom_101 : decode cX2_copyFrom 101 = .ok (.aload_n 1, 1) := by decide +kernel
theorem dX2_copyFrom_102 : decode cX2_copyFrom 102 = .ok (.getfield 52, 3) := by decide +kernel
theorem dX2_copyFrom_105 : decode cX2_copyFrom 105 = .ok (.aload_n 0, 1) := by decide +kernel
theorem dX2_copyFrom_106 : decode cX2_copyFrom 106 = .ok (.getfield 52, 3) := by decide +kernel
theorem dX2_copyFrom_109 : decode cX2_copyFrom 109 = .ok (.invokestatic 67, 3) := by decide +kernel
theorem dX2_copyFrom_112 : decode cX2_copyFrom 112 = .ok (.aload_n 1, 1) := by decide +kernel
theorem dX2_copyFrom_113 : decode cX2_copyFrom 113 = .ok (.getfield 55, 3) := by decide +kernel
theorem dX2_copyFrom_116 : decode cX2_copyFrom 116 = .ok (.aload_n 0, 1) := by decide +kernel
theorem dX2_copyFrom_117 : decode cX2_copyFrom 117 = .ok (.getfield 55, 3) := by decide +kernel
theorem dX2_copyFrom_120 : decode cX2_copyFrom 120 = .ok (.invokestatic 67, 3) := by decide +kernel
theorem dX2_copyFrom_123 : decode cX2_copyFrom 123 = .ok (.aload_n 1, 1) := by decide +kernel
theorem dX2_copyFrom_124 : decode cX2_copyFrom 124 = .ok (.getfield 58, 3) := by decide +kernel
theorem dX2_copyFrom_127 : decode cX2_copyFrom 127 = .ok (.aload_n 0, 1) := by decide +kernel
theorem dX2_copyFrom_128 : decode cX2_copyFrom 128 = .ok (.getfield 58, 3) := by decide +kernel
theorem dX2_copyFrom_131 : decode cX2_copyFrom 131 = .ok (.invokestatic 67, 3) := by decide +kernel
theorem dX2_copyFrom_134 : decode cX2_copyFrom 134 = .ok (.return_, 1) := by decide +kernel
theorem dX2_copyRows_0 : decode cX2_copyRows 0 = .ok (.iconst 0, 1) := by decide +kernel
theorem dX2_copyRows_1 : decode cX2_copyRows 1 = .ok (.istore_n 2, 1) := by decide +kernel
theorem dX2_copyRows_2 : decode cX2_copyRows 2 = .ok (.iload_n 2, 1) := by decide +kernel
theorem dX2_copyRows_3 : decode cX2_copyRows 3 = .ok (.aload_n 0, 1) := by decide +kernel
theorem dX2_copyRows_4 : decode cX2_copyRows 4 = .ok (.arraylength, 1) := by decide +kernel
theorem dX2_copyRows_5 : decode cX2_copyRows 5 = .ok (.if_icmp .ge 37, 3) := by decide +kernel
theorem dX2_copyRows_8 : decode cX2_copyRows 8 = .ok (.iload_n 2, 1) := by decide +kernel
theorem dX2_copyRows_9 : decode cX2_copyRows 9 = .ok (.aload_n 1, 1) := by decide +kernel
theorem dX2_copyRows_10 : decode cX2_copyRows 10 = .ok (.arraylength, 1) := by decide +kernel
theorem dX2_copyRows_11 : decode cX2_copyRows 11 = .ok (.if_icmp .ge 31, 3) := by decide +kernel
theorem dX2_copyRows_14 : decode cX2_copyRows 14 = .ok (.aload_n 0, 1) := by decide +kernel
theorem dX2_copyRows_15 : decode cX2_copyRows 15 = .ok (.iload_n 2, 1) := by decide +kernel
theorem dX2_copyRows_16 : decode cX2_copyRows 16 = .ok (.aaload, 1) := by decide +kernel
theorem dX2_copyRows_17 : decode cX2_copyRows 17 = .ok (.iconst 0, 1) := by decide +kernel
theorem dX2_copyRows_18 : decode cX2_copyRows 18 = .ok (.aload_n 1, 1) := by decide +kernel
theorem dX2_copyRows_19 : decode cX2_copyRows 19 = .ok (.iload_n 2, 1) := by decide +kernel
theorem dX2_copyRows_20 : decode cX2_copyRows 20 = .ok (.aaload, 1) := by decide +kernel
theorem dX2_copyRows_21 : decode cX2_copyRows 21 = .ok (.iconst 0, 1) := by decide +kernel
theorem dX2_copyRows_22 : decode cX2_copyRows 22 = .ok (.aload_n 0, 1) := by decide +kernel
theorem dX2_copyRows_23 : decode cX2_copyRows 23 = .ok (.iload_n 2, 1) := by decide +kernel
theorem dX2_copyRows_24 : decode cX2_copyRows 24 = .ok (.aaload, 1) := by decide +kernel
theorem dX2_copyRows_25 : decode cX2_copyRows 25 = .ok (.arraylength, 1) := by decide +kernel
theorem dX2_copyRows_26 : decode cX2_copyRows 26 = .ok (.aload_n 1, 1) := by decide +kernel
theorem dX2_copyRows_27 : decode cX2_copyRows 27 = .ok (.iload_n 2, 1) := by decide +kernel
theorem dX2_copyRows_28 : decode cX2_copyRows 28 = .ok (.aaload, 1) := by decide +kernel
theorem dX2_copyRows_29 : decode cX2_copyRows 29 = .ok (.arraylength, 1) := by decide +kernel
theorem dX2_copyRows_30 : decode cX2_copyRows 30 = .ok (.invokestatic 71, 3) := by decide +kernel
theorem dX2_copyRows_33 : decode cX2_copyRows 33 = .ok (.invokestatic 61, 3) := by decide +kernel
theorem dX2_copyRows_36 : decode cX2_copyRows 36 = .ok (.iinc 2 1, 3) := by decide +kernel
theorem dX2_copyRows_39 : decode cX2_copyRows 39 = .ok (.goto (-37), 3) := by decide +kernel
theorem dX2_copyRows_42 : decode cX2_copyRows 42 = .ok (.return_, 1) := by decide +kernel
theorem dX2_hasBed_0 : decode cX2_hasBed 0 = .ok (.iload_n 1, 1) := by decide +kernel
theorem dX2_hasBed_1 : decode cX2_hasBed 1 = .ok (.ifCond .lt 15, 3) := by decide +kernel
theorem dX2_hasBed_4 : decode cX2_hasBed 4 = .ok (.iload_n 1, 1) := by decide +kernel
theorem dX2_hasBed_5 : decode cX2_hasBed 5 = .ok (.aload_n 0, 1) := by decide +kernel
theorem dX2_hasBed_6 : decode cX2_hasBed 6 = .ok (.getfield 31, 3) := by decide +kernel
theorem dX2_hasBed_9 : decode cX2_hasBed 9 = .ok (.if_icmp .ge 7, 3) := by decide +kernel
theorem dX2_hasBed_12 : decode cX2_hasBed 12 = .ok (.iconst 1, 1) := by decide +kernel
theorem dX2_hasBed_13 : decode cX2_hasBed 13 = .ok (.goto 4, 3) := by decide +kernel
theorem dX2_hasBed_16 : decode cX2_hasBed 16 = .ok (.iconst 0, 1) := by decide +kernel
theorem dX2_hasBed_17 : decode cX2_hasBed 17 = .ok (.ireturn, 1) := by decide +kernel
theorem dX2_hasOwl_0 : decode cX2_hasOwl 0 = .ok (.iload_n 1, 1) := by decide +kernel
theorem dX2_hasOwl_1 : decode cX2_hasOwl 1 = .ok (.ifCond .lt 15, 3) := by decide +kernel
theorem dX2_hasOwl_4 : decode cX2_hasOwl 4 = .ok (.iload_n 1, 1) := by decide +kernel
theorem dX2_hasOwl_5 : decode cX2_hasOwl 5 = .ok (.aload_n 0, 1) := by decide +kernel
theorem dX2_hasOwl_6 : decode cX2_hasOwl 6 = .ok (.getfield 34, 3) := by decide +kernel
theorem dX2_hasOwl_9 : decode cX2_hasOwl 9 = .ok (.if_icmp .ge 7, 3) := by decide +kernel
theorem dX2_hasOwl_12 : decode cX2_hasOwl 12 = .ok (.iconst 1, 1) := by decide +kernel
theorem dX2_hasOwl_13 : decode cX2_hasOwl 13 = .ok (.goto 4, 3) := by decide +kernel
theorem dX2_hasOwl_16 : decode cX2_hasOwl 16 = .ok (.iconst 0, 1) := by decide +kernel
theorem dX2_hasOwl_17 : decode cX2_hasOwl 17 = .ok (.ireturn, 1) := by decide +kernel
theorem dX2_hasSound_0 : decode cX2_hasSound 0 = .ok (.iload_n 1, 1) := by decide +kernel
theorem dX2_hasSound_1 : decode cX2_hasSound 1 = .ok (.ifCond .lt 15, 3) := by decide +kernel
theorem dX2_hasSound_4 : decode cX2_hasSound 4 = .ok (.iload_n 1, 1) := by decide +kernel
theorem dX2_hasSound_5 : decode cX2_hasSound 5 = .ok (.aload_n 0, 1) := by decide +kernel
theorem dX2_hasSound_6 : decode cX2_hasSound 6 = .ok (.getfield 37, 3) := by decide +kernel
theorem dX2_hasSound_9 : decode cX2_hasSound 9 = .ok (.if_icmp .ge 7, 3) := by decide +kernel
theorem dX2_hasSound_12 : decode cX2_hasSound 12 = .ok (.iconst 1, 1) := by decide +kernel
theorem dX2_hasSound_13 : decode cX2_hasSound 13 = .ok (.goto 4, 3) := by decide +kernel
theorem dX2_hasSound_16 : decode cX2_hasSound 16 = .ok (.iconst 0, 1) := by decide +kernel
theorem dX2_hasSound_17 : decode cX2_hasSound 17 = .ok (.ireturn, 1) := by decide +kernel
theorem dX2_hasCell_0 : decode cX2_hasCell 0 = .ok (.iload_n 1, 1) := by decide +kernel
theorem dX2_hasCell_1 : decode cX2_hasCell 1 = .ok (.ifCond .lt 27, 3) := by decide +kernel
theorem dX2_hasCell_4 : decode cX2_hasCell 4 = .ok (.iload_n 1, 1) := by decide +kernel
theorem dX2_hasCell_5 : decode cX2_hasCell 5 = .ok (.aload_n 0, 1) := by decide +kernel
theorem dX2_hasCell_6 : decode cX2_hasCell 6 = .ok (.getfield 9, 3) := by decide +kernel
theorem dX2_hasCell_9 : decode cX2_hasCell 9 = .ok (.if_icmp .ge 19, 3) := by decide +kernel
theorem dX2_hasCell_12 : decode cX2_hasCell 12 = .ok (.iload_n 2, 1) := by decide +kernel
theorem dX2_hasCell_13 : decode cX2_hasCell 13 = .ok (.ifCond .lt 15, 3) := by decide +kernel
theorem dX2_hasCell_16 : decode cX2_hasCell 16 = .ok (.iload_n 2, 1) := by decide +kernel
theorem dX2_hasCell_17 : decode cX2_hasCell 17 = .ok (.aload_n 0, 1) := by decide +kernel
theorem dX2_hasCell_18 : decode cX2_hasCell 18 = .ok (.getfield 15, 3) := by decide +kernel
theorem dX2_hasCell_21 : decode cX2_hasCell 21 = .ok (.if_icmp .ge 7, 3) := by decide +kernel
theorem dX2_hasCell_24 : decode cX2_hasCell 24 = .ok (.iconst 1, 1) := by decide +kernel
theorem dX2_hasCell_25 : decode cX2_hasCell 25 = .ok (.goto 4, 3) := by decide +kernel
theorem dX2_hasCell_28 : decode cX2_hasCell 28 = .ok (.iconst 0, 1) := by decide +kernel
theorem dX2_hasCell_29 : decode cX2_hasCell 29 = .ok (.ireturn, 1) := by decide +kernel
theorem dX2_hasName_0 : decode cX2_hasName 0 = .ok (.aload_n 0, 1) := by decide +kernel
theorem dX2_hasName_1 : decode cX2_hasName 1 = .ok (.getfield 40, 3) := by decide +kernel
theorem dX2_hasName_4 : decode cX2_hasName 4 = .ok (.aload_n 0, 1) := by decide +kernel
theorem dX2_hasName_5 : decode cX2_hasName 5 = .ok (.getfield 31, 3) := by decide +kernel
theorem dX2_hasName_8 : decode cX2_hasName 8 = .ok (.lload_n 1, 1) := by decide +kernel
theorem dX2_hasName_9 : decode cX2_hasName 9 = .ok (.invokestatic 77, 3) := by decide +kernel
theorem dX2_hasName_12 : decode cX2_hasName 12 = .ok (.iconst (-1), 1) := by decide +kernel
theorem dX2_hasName_13 : decode cX2_hasName 13 = .ok (.if_icmp .ne 35, 3) := by decide +kernel
theorem dX2_hasName_16 : decode cX2_hasName 16 = .ok (.aload_n 0, 1) := by decide +kernel
theorem dX2_hasName_17 : decode cX2_hasName 17 = .ok (.getfield 44, 3) := by decide +kernel
theorem dX2_hasName_20 : decode cX2_hasName 20 = .ok (.aload_n 0, 1) := by decide +kernel
theorem dX2_hasName_21 : decode cX2_hasName 21 = .ok (.getfield 34, 3) := by decide +kernel
theorem dX2_hasName_24 : decode cX2_hasName 24 = .ok (.lload_n 1, 1) := by decide +kernel
theorem dX2_hasName_25 : decode cX2_hasName 25 = .ok (.invokestatic 77, 3) := by decide +kernel
theorem dX2_hasName_28 : decode cX2_hasName 28 = .ok (.iconst (-1), 1) := by decide +kernel
theorem dX2_hasName_29 : decode cX2_hasName 29 = .ok (.if_icmp .ne 19, 3) := by decide +kernel
theorem dX2_hasName_32 : decode cX2_hasName 32 = .ok (.aload_n 0, 1) := by decide +kernel
theorem dX2_hasName_33 : decode cX2_hasName 33 = .ok (.getfield 47, 3) := by decide +kernel
theorem dX2_hasName_36 : decode cX2_hasName 36 = .ok (.aload_n 0, 1) := by decide +kernel
theorem dX2_hasName_37 : decode cX2_hasName 37 = .ok (.getfield 37, 3) := by decide +kernel
theorem dX2_hasName_40 : decode cX2_hasName 40 = .ok (.lload_n 1, 1) := by decide +kernel
theorem dX2_hasName_41 : decode cX2_hasName 41 = .ok (.invokestatic 77, 3) := by decide +kernel
theorem dX2_hasName_44 : decode cX2_hasName 44 = .ok (.iconst (-1), 1) := by decide +kernel
theorem dX2_hasName_45 : decode cX2_hasName 45 = .ok (.if_icmp .eq 7, 3) := by decide +kernel
theorem dX2_hasName_48 : decode cX2_hasName 48 = .ok (.iconst 1, 1) := by decide +kernel
theorem dX2_hasName_49 : decode cX2_hasName 49 = .ok (.goto 4, 3) := by decide +kernel
theorem dX2_hasName_52 : decode cX2_hasName 52 = .ok (.iconst 0, 1) := by decide +kernel
theorem dX2_hasName_53 : decode cX2_hasName 53 = .ok (.ireturn, 1) := by decide +kernel
theorem dX2_hasBedIn_0 : decode cX2_hasBedIn 0 = .ok (.iconst 0, 1) := by decide +kernel
theorem dX2_hasBedIn_1 : decode cX2_hasBedIn 1 = .ok (.istore_n 3, 1) := by decide +kernel
theorem dX2_hasBedIn_2 : decode cX2_hasBedIn 2 = .ok (.iload_n 3, 1) := by decide +kernel
theorem dX2_hasBedIn_3 : decode cX2_hasBedIn 3 = .ok (.aload_n 0, 1) := by decide +kernel
theorem dX2_hasBedIn_4 : decode cX2_hasBedIn 4 = .ok (.getfield 31, 3) := by decide +kernel
theorem dX2_hasBedIn_7 : decode cX2_hasBedIn 7 = .ok (.if_icmp .ge 35, 3) := by decide +kernel
theorem dX2_hasBedIn_10 : decode cX2_hasBedIn 10 = .ok (.aload_n 0, 1) := by decide +kernel
theorem dX2_hasBedIn_11 : decode cX2_hasBedIn 11 = .ok (.getfield 52, 3) := by decide +kernel
theorem dX2_hasBedIn_14 : decode cX2_hasBedIn 14 = .ok (.iload_n 3, 1) := by decide +kernel
theorem dX2_hasBedIn_15 : decode cX2_hasBedIn 15 = .ok (.aaload, 1) := by decide +kernel
theorem dX2_hasBedIn_16 : decode cX2_hasBedIn 16 = .ok (.iconst 0, 1) := by decide +kernel
theorem dX2_hasBedIn_17 : decode cX2_hasBedIn 17 = .ok (.iaload, 1) := by decide +kernel
theorem dX2_hasBedIn_18 : decode cX2_hasBedIn 18 = .ok (.iload_n 1, 1) := by decide +kernel
theorem dX2_hasBedIn_19 : decode cX2_hasBedIn 19 = .ok (.if_icmp .ne 17, 3) := by decide +kernel
theorem dX2_hasBedIn_22 : decode cX2_hasBedIn 22 = .ok (.aload_n 0, 1) := by decide +kernel
theorem dX2_hasBedIn_23 : decode cX2_hasBedIn 23 = .ok (.getfield 52, 3) := by decide +kernel
theorem dX2_hasBedIn_26 : decode cX2_hasBedIn 26 = .ok (.iload_n 3, 1) := by decide +kernel
theorem dX2_hasBedIn_27 : decode cX2_hasBedIn 27 = .ok (.aaload, 1) := by decide +kernel
theorem dX2_hasBedIn_28 : decode cX2_hasBedIn 28 = .ok (.iconst 1, 1) := by decide +kernel
theorem dX2_hasBedIn_29 : decode cX2_hasBedIn 29 = .ok (.iaload, 1) := by decide +kernel
theorem dX2_hasBedIn_30 : decode cX2_hasBedIn 30 = .ok (.iload_n 2, 1) := by decide +kernel
theorem dX2_hasBedIn_31 : decode cX2_hasBedIn 31 = .ok (.if_icmp .ne 5, 3) := by decide +kernel
theorem dX2_hasBedIn_34 : decode cX2_hasBedIn 34 = .ok (.iconst 1, 1) := by decide +kernel
theorem dX2_hasBedIn_35 : decode cX2_hasBedIn 35 = .ok (.ireturn, 1) := by decide +kernel
theorem dX2_hasBedIn_36 : decode cX2_hasBedIn 36 = .ok (.iinc 3 1, 3) := by decide +kernel
theorem dX2_hasBedIn_39 : decode cX2_hasBedIn 39 = .ok (.goto (-37), 3) := by decide +kernel
theorem dX2_hasBedIn_42 : decode cX2_hasBedIn 42 = .ok (.iconst 0, 1) := by decide +kernel
theorem dX2_hasBedIn_43 : decode cX2_hasBedIn 43 = .ok (.ireturn, 1) := by decide +kernel
theorem dX2_hasOwlBy_0 : decode cX2_hasOwlBy 0 = .ok (.iconst 0, 1) := by decide +kernel
theorem dX2_hasOwlBy_1 : decode cX2_hasOwlBy 1 = .ok (.istore_n 2, 1) := by decide +kernel
theorem dX2_hasOwlBy_2 : decode cX2_hasOwlBy 2 = .ok (.iload_n 2, 1) := by decide +kernel
theorem dX2_hasOwlBy_3 : decode cX2_hasOwlBy 3 = .ok (.aload_n 0, 1) := by decide +kernel
theorem dX2_hasOwlBy_4 : decode cX2_hasOwlBy 4 = .ok (.getfield 34, 3) := by decide +kernel
theorem dX2_hasOwlBy_7 : decode cX2_hasOwlBy 7 = .ok (.if_icmp .ge 23, 3) := by decide +kernel
theorem dX2_hasOwlBy_10 : decode cX2_hasOwlBy 10 = .ok (.aload_n 0, 1) := by decide +kernel
theorem dX2_hasOwlBy_11 : decode cX2_hasOwlBy 11 = .ok (.getfield 55, 3) := by decide +kernel
theorem dX2_hasOwlBy_14 : decode cX2_hasOwlBy 14 = .ok (.iload_n 2, 1) := by decide +kernel
theorem dX2_hasOwlBy_15 : decode cX2_hasOwlBy 15 = .ok (.aaload, 1) := by decide +kernel
theorem dX2_hasOwlBy_16 : decode cX2_hasOwlBy 16 = .ok (.iconst 0, 1) := by decide +kernel
theorem dX2_hasOwlBy_17 : decode cX2_hasOwlBy 17 = .ok (.iaload, 1) := by decide +kernel
theorem dX2_hasOwlBy_18 : decode cX2_hasOwlBy 18 = .ok (.iload_n 1, 1) := by decide +kernel
theorem dX2_hasOwlBy_19 : decode cX2_hasOwlBy 19 = .ok (.if_icmp .ne 5, 3) := by decide +kernel
theorem dX2_hasOwlBy_22 : decode cX2_hasOwlBy 22 = .ok (.iconst 1, 1) := by decide +kernel
theorem dX2_hasOwlBy_23 : decode cX2_hasOwlBy 23 = .ok (.ireturn, 1) := by decide +kernel
theorem dX2_hasOwlBy_24 : decode cX2_hasOwlBy 24 = .ok (.iinc 2 1, 3) := by decide +kernel
theorem dX2_hasOwlBy_27 : decode cX2_hasOwlBy 27 = .ok (.goto (-25), 3) := by decide +kernel
theorem dX2_hasOwlBy_30 : decode cX2_hasOwlBy 30 = .ok (.iconst 0, 1) := by decide +kernel
theorem dX2_hasOwlBy_31 : decode cX2_hasOwlBy 31 = .ok (.ireturn, 1) := by decide +kernel
theorem dX2_within_0 : decode cX2_within 0 = .ok (.iload_n 2, 1) := by decide +kernel
theorem dX2_within_1 : decode cX2_within 1 = .ok (.bipush 24, 2) := by decide +kernel
theorem dX2_within_3 : decode cX2_within 3 = .ok (.irem, 1) := by decide +kernel
theorem dX2_within_4 : decode cX2_within 4 = .ok (.istore_n 3, 1) := by decide +kernel
theorem dX2_within_5 : decode cX2_within 5 = .ok (.iload_n 0, 1) := by decide +kernel
theorem dX2_within_6 : decode cX2_within 6 = .ok (.iload_n 1, 1) := by decide +kernel
theorem dX2_within_7 : decode cX2_within 7 = .ok (.if_icmp .gt 21, 3) := by decide +kernel
theorem dX2_within_10 : decode cX2_within 10 = .ok (.iload_n 3, 1) := by decide +kernel
theorem dX2_within_11 : decode cX2_within 11 = .ok (.iload_n 0, 1) := by decide +kernel
theorem dX2_within_12 : decode cX2_within 12 = .ok (.if_icmp .lt 12, 3) := by decide +kernel
theorem dX2_within_15 : decode cX2_within 15 = .ok (.iload_n 3, 1) := by decide +kernel
theorem dX2_within_16 : decode cX2_within 16 = .ok (.iload_n 1, 1) := by decide +kernel
theorem dX2_within_17 : decode cX2_within 17 = .ok (.if_icmp .gt 7, 3) := by decide +kernel
theorem dX2_within_20 : decode cX2_within 20 = .ok (.iconst 1, 1) := by decide +kernel
theorem dX2_within_21 : decode cX2_within 21 = .ok (.goto 22, 3) := by decide +kernel
theorem dX2_within_24 : decode cX2_within 24 = .ok (.iconst 0, 1) := by decide +kernel
theorem dX2_within_25 : decode cX2_within 25 = .ok (.goto 18, 3) := by decide +kernel
theorem dX2_within_28 : decode cX2_within 28 = .ok (.iload_n 3, 1) := by decide +kernel
theorem dX2_within_29 : decode cX2_within 29 = .ok (.iload_n 0, 1) := by decide +kernel
theorem dX2_within_30 : decode cX2_within 30 = .ok (.if_icmp .ge 8, 3) := by decide +kernel
theorem dX2_within_33 : decode cX2_within 33 = .ok (.iload_n 3, 1) := by decide +kernel
theorem dX2_within_34 : decode cX2_within 34 = .ok (.iload_n 1, 1) := by decide +kernel
theorem dX2_within_35 : decode cX2_within 35 = .ok (.if_icmp .gt 7, 3) := by decide +kernel
theorem dX2_within_38 : decode cX2_within 38 = .ok (.iconst 1, 1) := by decide +kernel
theorem dX2_within_39 : decode cX2_within 39 = .ok (.goto 4, 3) := by decide +kernel
theorem dX2_within_42 : decode cX2_within 42 = .ok (.iconst 0, 1) := by decide +kernel
theorem dX2_within_43 : decode cX2_within 43 = .ok (.ireturn, 1) := by decide +kernel
theorem dX2_shutAt_0 : decode cX2_shutAt 0 = .ok (.aload_n 0, 1) := by decide +kernel
theorem dX2_shutAt_1 : decode cX2_shutAt 1 = .ok (.getfield 18, 3) := by decide +kernel
theorem dX2_shutAt_4 : decode cX2_shutAt 4 = .ok (.aload_n 0, 1) := by decide +kernel
theorem dX2_shutAt_5 : decode cX2_shutAt 5 = .ok (.getfield 21, 3) := by decide +kernel
theorem dX2_shutAt_8 : decode cX2_shutAt 8 = .ok (.iload_n 1, 1) := by decide +kernel
theorem dX2_shutAt_9 : decode cX2_shutAt 9 = .ok (.invokestatic 83, 3) := by decide +kernel
theorem dX2_shutAt_12 : decode cX2_shutAt 12 = .ok (.ireturn, 1) := by decide +kernel
theorem dX2_loudAt_0 : decode cX2_loudAt 0 = .ok (.aload_n 2, 1) := by decide +kernel
theorem dX2_loudAt_1 : decode cX2_loudAt 1 = .ok (.iconst 1, 1) := by decide +kernel
theorem dX2_loudAt_2 : decode cX2_loudAt 2 = .ok (.iaload, 1) := by decide +kernel
theorem dX2_loudAt_3 : decode cX2_loudAt 3 = .ok (.aload_n 0, 1) := by decide +kernel
theorem dX2_loudAt_4 : decode cX2_loudAt 4 = .ok (.getfield 52, 3) := by decide +kernel
theorem dX2_loudAt_7 : decode cX2_loudAt 7 = .ok (.iload_n 1, 1) := by decide +kernel
theorem dX2_loudAt_8 : decode cX2_loudAt 8 = .ok (.aaload, 1) := by decide +kernel
theorem dX2_loudAt_9 : decode cX2_loudAt 9 = .ok (.iconst 0, 1) := by decide +kernel
theorem dX2_loudAt_10 : decode cX2_loudAt 10 = .ok (.iaload, 1) := by decide +kernel
theorem dX2_loudAt_11 : decode cX2_loudAt 11 = .ok (.isub, 1) := by decide +kernel
theorem dX2_loudAt_12 : decode cX2_loudAt 12 = .ok (.istore_n 3, 1) := by decide +kernel
theorem dX2_loudAt_13 : decode cX2_loudAt 13 = .ok (.aload_n 2, 1) := by decide +kernel
theorem dX2_loudAt_14 : decode cX2_loudAt 14 = .ok (.iconst 2, 1) := by decide +kernel
theorem dX2_loudAt_15 : decode cX2_loudAt 15 = .ok (.iaload, 1) := by decide +kernel
theorem dX2_loudAt_16 : decode cX2_loudAt 16 = .ok (.aload_n 0, 1) := by decide +kernel
theorem dX2_loudAt_17 : decode cX2_loudAt 17 = .ok (.getfield 52, 3) := by decide +kernel
theorem dX2_loudAt_20 : decode cX2_loudAt 20 = .ok (.iload_n 1, 1) := by decide +kernel
theorem dX2_loudAt_21 : decode cX2_loudAt 21 = .ok (.aaload, 1) := by decide +kernel
theorem dX2_loudAt_22 : decode cX2_loudAt 22 = .ok (.iconst 1, 1) := by decide +kernel
theorem dX2_loudAt_23 : decode cX2_loudAt 23 = .ok (.iaload, 1) := by decide +kernel
theorem dX2_loudAt_24 : decode cX2_loudAt 24 = .ok (.isub, 1) := by decide +kernel
theorem dX2_loudAt_25 : decode cX2_loudAt 25 = .ok (.istore 4, 2) := by decide +kernel
theorem dX2_loudAt_27 : decode cX2_loudAt 27 = .ok (.aload_n 2, 1) := by decide +kernel
theorem dX2_loudAt_28 : decode cX2_loudAt 28 = .ok (.iconst 3, 1) := by decide +kernel
theorem dX2_loudAt_29 : decode cX2_loudAt 29 = .ok (.iaload, 1) := by decide +kernel
theorem dX2_loudAt_30 : decode cX2_loudAt 30 = .ok (.iload_n 3, 1) := by decide +kernel
theorem dX2_loudAt_31 : decode cX2_loudAt 31 = .ok (.ifCond .ge 8, 3) := by decide +kernel
theorem dX2_loudAt_34 : decode cX2_loudAt 34 = .ok (.iload_n 3, 1) := by decide +kernel
theorem dX2_loudAt_35 : decode cX2_loudAt 35 = .ok (.ineg, 1) := by decide +kernel
theorem dX2_loudAt_36 : decode cX2_loudAt 36 = .ok (.goto 4, 3) := by decide +kernel
theorem dX2_loudAt_39 : decode cX2_loudAt 39 = .ok (.iload_n 3, 1) := by decide +kernel
theorem dX2_loudAt_40 : decode cX2_loudAt 40 = .ok (.isub, 1) := by decide +kernel
theorem dX2_loudAt_41 : decode cX2_loudAt 41 = .ok (.iload 4, 2) := by decide +kernel
theorem dX2_loudAt_43 : decode cX2_loudAt 43 = .ok (.ifCond .ge 9, 3) := by decide +kernel
theorem dX2_loudAt_46 : decode cX2_loudAt 46 = .ok (.iload 4, 2) := by decide +kernel
theorem dX2_loudAt_48 : decode cX2_loudAt 48 = .ok (.ineg, 1) := by decide +kernel
theorem dX2_loudAt_49 : decode cX2_loudAt 49 = .ok (.goto 5, 3) := by decide +kernel
theorem dX2_loudAt_52 : decode cX2_loudAt 52 = .ok (.iload 4, 2) := by decide +kernel
theorem dX2_loudAt_54 : decode cX2_loudAt 54 = .ok (.isub, 1) := by decide +kernel
theorem dX2_loudAt_55 : decode cX2_loudAt 55 = .ok (.ireturn, 1) := by decide +kernel
theorem dX2_sideAt_0 : decode cX2_sideAt 0 = .ok (.aload_n 2, 1) := by decide +kernel
theorem dX2_sideAt_1 : decode cX2_sideAt 1 = .ok (.iconst 1, 1) := by decide +kernel
theorem dX2_sideAt_2 : decode cX2_sideAt 2 = .ok (.iaload, 1) := by decide +kernel
theorem dX2_sideAt_3 : decode cX2_sideAt 3 = .ok (.aload_n 0, 1) := by decide +kernel
theorem dX2_sideAt_4 : decode cX2_sideAt 4 = .ok (.getfield 52, 3) := by decide +kernel
theorem dX2_sideAt_7 : decode cX2_sideAt 7 = .ok (.iload_n 1, 1) := by decide +kernel
theorem dX2_sideAt_8 : decode cX2_sideAt 8 = .ok (.aaload, 1) := by decide +kernel
theorem dX2_sideAt_9 : decode cX2_sideAt 9 = .ok (.iconst 0, 1) := by decide +kernel
theorem dX2_sideAt_10 : decode cX2_sideAt 10 = .ok (.iaload, 1) := by decide +kernel
theorem dX2_sideAt_11 : decode cX2_sideAt 11 = .ok (.isub, 1) := by decide +kernel
theorem dX2_sideAt_12 : decode cX2_sideAt 12 = .ok (.istore_n 3, 1) := by decide +kernel
theorem dX2_sideAt_13 : decode cX2_sideAt 13 = .ok (.aload_n 2, 1) := by decide +kernel
theorem dX2_sideAt_14 : decode cX2_sideAt 14 = .ok (.iconst 2, 1) := by decide +kernel
theorem dX2_sideAt_15 : decode cX2_sideAt 15 = .ok (.iaload, 1) := by decide +kernel
theorem dX2_sideAt_16 : decode cX2_sideAt 16 = .ok (.aload_n 0, 1) := by decide +kernel
theorem dX2_sideAt_17 : decode cX2_sideAt 17 = .ok (.getfield 52, 3) := by decide +kernel
theorem dX2_sideAt_20 : decode cX2_sideAt 20 = .ok (.iload_n 1, 1) := by decide +kernel
theorem dX2_sideAt_21 : decode cX2_sideAt 21 = .ok (.aaload, 1) := by decide +kernel
theorem dX2_sideAt_22 : decode cX2_sideAt 22 = .ok (.iconst 1, 1) := by decide +kernel
theorem dX2_sideAt_23 : decode cX2_sideAt 23 = .ok (.iaload, 1) := by decide +kernel
theorem dX2_sideAt_24 : decode cX2_sideAt 24 = .ok (.isub, 1) := by decide +kernel
theorem dX2_sideAt_25 : decode cX2_sideAt 25 = .ok (.istore 4, 2) := by decide +kernel
theorem dX2_sideAt_27 : decode cX2_sideAt 27 = .ok (.iload_n 3, 1) := by decide +kernel
theorem dX2_sideAt_28 : decode cX2_sideAt 28 = .ok (.ifCond .ne 10, 3) := by decide +kernel
theorem dX2_sideAt_31 : decode cX2_sideAt 31 = .ok (.iload 4, 2) := by decide +kernel
theorem dX2_sideAt_33 : decode cX2_sideAt 33 = .ok (.ifCond .ne 5, 3) := by decide +kernel
theorem dX2_sideAt_36 : decode cX2_sideAt 36 = .ok (.iconst 4, 1) := by decide +kernel
theorem dX2_sideAt_37 : decode cX2_sideAt 37 = .ok (.ireturn, 1) := by decide +kernel
theorem dX2_sideAt_38 : decode cX2_sideAt 38 = .ok (.iload_n 3, 1) := by decide +kernel
theorem dX2_sideAt_39 : decode cX2_sideAt 39 = .ok (.ifCond .ge 8, 3) := by decide +kernel
theorem dX2_sideAt_42 : decode cX2_sideAt 42 = .ok (.iload_n 3, 1) := by decide +kernel
theorem dX2_sideAt_43 : decode cX2_sideAt 43 = .ok (.ineg, 1) := by decide +kernel
theorem dX2_sideAt_44 : decode cX2_sideAt 44 = .ok (.goto 4, 3) := by decide +kernel
theorem dX2_sideAt_47 : decode cX2_sideAt 47 = .ok (.iload_n 3, 1) := by decide +kernel
theorem dX2_sideAt_48 : decode cX2_sideAt 48 = .ok (.iload 4, 2) := by decide +kernel
theorem dX2_sideAt_50 : decode cX2_sideAt 50 = .ok (.ifCond .ge 9, 3) := by decide +kernel
theorem dX2_sideAt_53 : decode cX2_sideAt 53 = .ok (.iload 4, 2) := by decide +kernel
theorem dX2_sideAt_55 : decode cX2_sideAt 55 = .ok (.ineg, 1) := by decide +kernel
theorem dX2_sideAt_56 : decode cX2_sideAt 56 = .ok (.goto 5, 3) := by decide +kernel
theorem dX2_sideAt_59 : decode cX2_sideAt 59 = .ok (.iload 4, 2) := by decide +kernel
theorem dX2_sideAt_61 : decode cX2_sideAt 61 = .ok (.if_icmp .lt 13, 3) := by decide +kernel
theorem dX2_sideAt_64 : decode cX2_sideAt 64 = .ok (.iload_n 3, 1) := by decide +kernel
theorem dX2_sideAt_65 : decode cX2_sideAt 65 = .ok (.ifCond .le 7, 3) := by decide +kernel
theorem dX2_sideAt_68 : decode cX2_sideAt 68 = .ok (.iconst 0, 1) := by decide +kernel
theorem dX2_sideAt_69 : decode cX2_sideAt 69 = .ok (.goto 4, 3) := by decide +kernel
theorem dX2_sideAt_72 : decode cX2_sideAt 72 = .ok (.iconst 2, 1) := by decide +kernel
theorem dX2_sideAt_73 : decode cX2_sideAt 73 = .ok (.ireturn, 1) := by decide +kernel
theorem dX2_sideAt_74 : decode cX2_sideAt 74 = .ok (.iload 4, 2) := by decide +kernel
theorem dX2_sideAt_76 : decode cX2_sideAt 76 = .ok (.ifCond .le 7, 3) := by decide +kernel
theorem dX2_sideAt_79 : decode cX2_sideAt 79 = .ok (.iconst 1, 1) := by decide +kernel
theorem dX2_sideAt_80 : decode cX2_sideAt 80 = .ok (.goto 4, 3) := by decide +kernel
theorem dX2_sideAt_83 : decode cX2_sideAt 83 = .ok (.iconst 3, 1) := by decide +kernel
theorem dX2_sideAt_84 : decode cX2_sideAt 84 = .ok (.ireturn, 1) := by decide +kernel
theorem dX2_heardSide_0 : decode cX2_heardSide 0 = .ok (.aload_n 0, 1) := by decide +kernel
theorem dX2_heardSide_1 : decode cX2_heardSide 1 = .ok (.iload_n 2, 1) := by decide +kernel
theorem dX2_heardSide_2 : decode cX2_heardSide 2 = .ok (.aload_n 3, 1) := by decide +kernel
theorem dX2_heardSide_3 : decode cX2_heardSide 3 = .ok (.invokevirtual 87, 3) := by decide +kernel
theorem dX2_heardSide_6 : decode cX2_heardSide 6 = .ok (.istore 4, 2) := by decide +kernel
theorem dX2_heardSide_8 : decode cX2_heardSide 8 = .ok (.aload_n 0, 1) := by decide +kernel
theorem dX2_heardSide_9 : decode cX2_heardSide 9 = .ok (.getfield 55, 3) := by decide +kernel
theorem dX2_heardSide_12 : decode cX2_heardSide 12 = .ok (.iload_n 1, 1) := by decide +kernel
theorem dX2_heardSide_13 : decode cX2_heardSide 13 = .ok (.aaload, 1) := by decide +kernel
theorem dX2_heardSide_14 : decode cX2_heardSide 14 = .ok (.iconst 3, 1) := by decide +kernel
theorem dX2_heardSide_15 : decode cX2_heardSide 15 = .ok (.iaload, 1) := by decide +kernel
theorem dX2_heardSide_16 : decode cX2_heardSide 16 = .ok (.aload_n 3, 1) := by decide +kernel
theorem dX2_heardSide_17 : decode cX2_heardSide 17 = .ok (.iconst 0, 1) := by decide +kernel
theorem dX2_heardSide_18 : decode cX2_heardSide 18 = .ok (.iaload, 1) := by decide +kernel
theorem dX2_heardSide_19 : decode cX2_heardSide 19 = .ok (.ishr, 1) := by decide +kernel
theorem dX2_heardSide_20 : decode cX2_heardSide 20 = .ok (.iconst 1, 1) := by decide +kernel
theorem dX2_heardSide_21 : decode cX2_heardSide 21 = .ok (.iand, 1) := by decide +kernel
theorem dX2_heardSide_22 : decode cX2_heardSide 22 = .ok (.iconst 1, 1) := by decide +kernel
theorem dX2_heardSide_23 : decode cX2_heardSide 23 = .ok (.if_icmp .ne 7, 3) := by decide +kernel
theorem dX2_heardSide_26 : decode cX2_heardSide 26 = .ok (.iconst 1, 1) := by decide +kernel
theorem dX2_heardSide_27 : decode cX2_heardSide 27 = .ok (.goto 4, 3) := by decide +kernel
theorem dX2_heardSide_30 : decode cX2_heardSide 30 = .ok (.iconst 0, 1) := by decide +kernel
theorem dX2_heardSide_31 : decode cX2_heardSide 31 = .ok (.istore 5, 2) := by decide +kernel
theorem dX2_heardSide_33 : decode cX2_heardSide 33 = .ok (.iload 5, 2) := by decide +kernel
theorem dX2_heardSide_35 : decode cX2_heardSide 35 = .ok (.ifCond .ne 33, 3) := by decide +kernel
theorem dX2_heardSide_38 : decode cX2_heardSide 38 = .ok (.iload 4, 2) := by decide +kernel
theorem dX2_heardSide_40 : decode cX2_heardSide 40 = .ok (.aload_n 0, 1) := by decide +kernel
theorem dX2_heardSide_41 : decode cX2_heardSide 41 = .ok (.getfield 55, 3) := by decide +kernel
theorem dX2_heardSide_44 : decode cX2_heardSide 44 = .ok (.iload_n 1, 1) := by decide +kernel
theorem dX2_heardSide_45 : decode cX2_heardSide 45 = .ok (.aaload, 1) := by decide +kernel
theorem dX2_heardSide_46 : decode cX2_heardSide 46 = .ok (.iconst 2, 1) := by decide +kernel
theorem dX2_heardSide_47 : decode cX2_heardSide 47 = .ok (.iaload, 1) := by decide +kernel
theorem dX2_heardSide_48 : decode cX2_heardSide 48 = .ok (.if_icmp .eq 20, 3) := by decide +kernel
theorem dX2_heardSide_51 : decode cX2_heardSide 51 = .ok (.aload_n 0, 1) := by decide +kernel
theorem dX2_heardSide_52 : decode cX2_heardSide 52 = .ok (.iload_n 2, 1) := by decide +kernel
theorem dX2_heardSide_53 : decode cX2_heardSide 53 = .ok (.aload_n 3, 1) := by decide +kernel
theorem dX2_heardSide_54 : decode cX2_heardSide 54 = .ok (.invokevirtual 91, 3) := by decide +kernel
theorem dX2_heardSide_57 : decode cX2_heardSide 57 = .ok (.aload_n 0, 1) := by decide +kernel
theorem dX2_heardSide_58 : decode cX2_heardSide 58 = .ok (.getfield 55, 3) := by decide +kernel
theorem dX2_heardSide_61 : decode cX2_heardSide 61 = .ok (.iload_n 1, 1) := by decide +kernel
theorem dX2_heardSide_62 : decode cX2_heardSide 62 = .ok (.aaload, 1) := by decide +kernel
theorem dX2_heardSide_63 : decode cX2_heardSide 63 = .ok (.iconst 1, 1) := by decide +kernel
theorem dX2_heardSide_64 : decode cX2_heardSide 64 = .ok (.iaload, 1) := by decide +kernel
theorem dX2_heardSide_65 : decode cX2_heardSide 65 = .ok (.if_icmp .ge 5, 3) := by decide +kernel
theorem dX2_heardSide_68 : decode cX2_heardSide 68 = .ok (.iconst (-1), 1) := by decide +kernel
theorem dX2_heardSide_69 : decode cX2_heardSide 69 = .ok (.ireturn, 1) := by decide +kernel
theorem dX2_heardSide_70 : decode cX2_heardSide 70 = .ok (.iload 4, 2) := by decide +kernel
theorem dX2_heardSide_72 : decode cX2_heardSide 72 = .ok (.ireturn, 1) := by decide +kernel
theorem dX3_readAll_0 : decode cX3_readAll 0 = .ok (.aload_n 1, 1) := by decide +kernel
theorem dX3_readAll_1 : decode cX3_readAll 1 = .ok (.invokevirtual 9, 3) := by decide +kernel
theorem dX3_readAll_4 : decode cX3_readAll 4 = .ok (.iconst 0, 1) := by decide +kernel
theorem dX3_readAll_5 : decode cX3_readAll 5 = .ok (.istore_n 2, 1) := by decide +kernel
theorem dX3_readAll_6 : decode cX3_readAll 6 = .ok (.iload_n 2, 1) := by decide +kernel
theorem dX3_readAll_7 : decode cX3_readAll 7 = .ok (.sipush 900, 3) := by decide +kernel
theorem dX3_readAll_10 : decode cX3_readAll 10 = .ok (.if_icmp .gt 161, 3) := by decide +kernel
theorem dX3_readAll_13 : decode cX3_readAll 13 = .ok (.aload_n 0, 1) := by decide +kernel
theorem dX3_readAll_14 : decode cX3_readAll 14 = .ok (.getfield 16, 3) := by decide +kernel
theorem dX3_readAll_17 : decode cX3_readAll 17 = .ok (.ifCond .ne 5, 3) := by decide +kernel
theorem dX3_readAll_20 : decode cX3_readAll 20 = .ok (.iload_n 2, 1) := by decide +kernel
theorem dX3_readAll_21 : decode cX3_readAll 21 = .ok (.ireturn, 1) := by decide +kernel
theorem dX3_readAll_22 : decode cX3_readAll 22 = .ok (.aload_n 0, 1) := by decide +kernel
theorem dX3_readAll_23 : decode cX3_readAll 23 = .ok (.getfield 22, 3) := by decide +kernel
theorem dX3_readAll_26 : decode cX3_readAll 26 = .ok (.tableswitch 118 0 7 #[46, 55, 64, 73, 82, 91, 100, 109], 46) := by decide +kernel
theorem dX3_readAll_72 : decode cX3_readAll 72 = .ok (.aload_n 0, 1) := by decide +kernel
theorem dX3_readAll_73 : decode cX3_readAll 73 = .ok (.aload_n 1, 1) := by decide +kernel
theorem dX3_readAll_74 : decode cX3_readAll 74 = .ok (.invokestatic 25, 3) := by decide +kernel
theorem dX3_readAll_77 : decode cX3_readAll 77 = .ok (.istore_n 3, 1) := by decide +kernel
theorem dX3_readAll_78 : decode cX3_readAll 78 = .ok (.goto 72, 3) := by decide +kernel
theorem dX3_readAll_81 : decode cX3_readAll 81 = .ok (.aload_n 0, 1) := by decide +kernel
theorem dX3_readAll_82 : decode cX3_readAll 82 = .ok (.aload_n 1, 1) := by decide +kernel
theorem dX3_readAll_83 : decode cX3_readAll 83 = .ok (.invokestatic 29, 3) := by decide +kernel
theorem dX3_readAll_86 : decode cX3_readAll 86 = .ok (.istore_n 3, 1) := by decide +kernel
theorem dX3_readAll_87 : decode cX3_readAll 87 = .ok (.goto 63, 3) := by decide +kernel
theorem dX3_readAll_90 : decode cX3_readAll 90 = .ok (.aload_n 0, 1) := by decide +kernel
theorem dX3_readAll_91 : decode cX3_readAll 91 = .ok (.aload_n 1, 1) := by decide +kernel
theorem dX3_readAll_92 : decode cX3_readAll 92 = .ok (.invokestatic 32, 3) := by decide +kernel
theorem dX3_readAll_95 : decode cX3_readAll 95 = .ok (.istore_n 3, 1) := by decide +kernel
theorem dX3_readAll_96 : decode cX3_readAll 96 = .ok (.goto 54, 3) := by decide +kernel
theorem dX3_readAll_99 : decode cX3_readAll 99 = .ok (.aload_n 0, 1) := by decide +kernel
theorem dX3_readAll_100 : decode cX3_readAll 100 = .ok (.aload_n 1, 1) := by decide +kernel
theorem dX3_readAll_101 : decode cX3_readAll 101 = .ok (.invokestatic 35, 3) := by decide +kernel
theorem dX3_readAll_104 : decode cX3_readAll 104 = .ok (.istore_n 3, 1) := by decide +kernel
theorem dX3_readAll_105 : decode cX3_readAll 105 = .ok (.goto 45, 3) := by decide +kernel
theorem dX3_readAll_108 : decode cX3_readAll 108 = .ok (.aload_n 0, 1) := by decide +kernel
theorem dX3_readAll_109 : decode cX3_readAll 109 = .ok (.aload_n 1, 1) := by decide +kernel
theorem dX3_readAll_110 : decode cX3_readAll 110 = .ok (.invokestatic 38, 3) := by decide +kernel
theorem dX3_readAll_113 : decode cX3_readAll 113 = .ok (.istore_n 3, 1) := by decide +kernel
theorem dX3_readAll_114 : decode cX3_readAll 114 = .ok (.goto 36, 3) := by decide +kernel
theorem dX3_readAll_117 : decode cX3_readAll 117 = .ok (.aload_n 0, 1) := by decide +kernel
theorem dX3_readAll_118 : decode cX3_readAll 118 = .ok (.aload_n 1, 1) := by decide +kernel
theorem dX3_readAll_119 : decode cX3_readAll 119 = .ok (.invokestatic 41, 3) := by decide +kernel
theorem dX3_readAll_122 : decode cX3_readAll 122 = .ok (.istore_n 3, 1) := by decide +kernel
theorem dX3_readAll_123 : decode cX3_readAll 123 = .ok (.goto 27, 3) := by decide +kernel
theorem dX3_readAll_126 : decode cX3_readAll 126 = .ok (.aload_n 0, 1) := by decide +kernel
theorem dX3_readAll_127 : decode cX3_readAll 127 = .ok (.aload_n 1, 1) := by decide +kernel
theorem dX3_readAll_128 : decode cX3_readAll 128 = .ok (.invokestatic 44, 3) := by decide +kernel
theorem dX3_readAll_131 : decode cX3_readAll 131 = .ok (.istore_n 3, 1) := by decide +kernel
theorem dX3_readAll_132 : decode cX3_readAll 132 = .ok (.goto 18, 3) := by decide +kernel
theorem dX3_readAll_135 : decode cX3_readAll 135 = .ok (.aload_n 0, 1) := by decide +kernel
theorem dX3_readAll_136 : decode cX3_readAll 136 = .ok (.aload_n 1, 1) := by decide +kernel
theorem dX3_readAll_137 : decode cX3_readAll 137 = .ok (.invokestatic 47, 3) := by decide +kernel
theorem dX3_readAll_140 : decode cX3_readAll 140 = .ok (.istore_n 3, 1) := by decide +kernel
theorem dX3_readAll_141 : decode cX3_readAll 141 = .ok (.goto 9, 3) := by decide +kernel
theorem dX3_readAll_144 : decode cX3_readAll 144 = .ok (.aload_n 0, 1) := by decide +kernel
theorem dX3_readAll_145 : decode cX3_readAll 145 = .ok (.iconst 1, 1) := by decide +kernel
theorem dX3_readAll_146 : decode cX3_readAll 146 = .ok (.invokevirtual 50, 3) := by decide +kernel
theorem dX3_readAll_149 : decode cX3_readAll 149 = .ok (.istore_n 3, 1) := by decide +kernel
theorem dX3_readAll_150 : decode cX3_readAll 150 = .ok (.iload_n 3, 1) := by decide +kernel
theorem dX3_readAll_151 : decode cX3_readAll 151 = .ok (.ifCond .eq 12, 3) := by decide +kernel
theorem dX3_readAll_154 : decode cX3_readAll 154 = .ok (.aload_n 0, 1) := by decide +kernel
theorem dX3_readAll_155 : decode cX3_readAll 155 = .ok (.bipush 59, 2) := by decide +kernel
theorem dX3_readAll_157 : decode cX3_readAll 157 = .ok (.invokevirtual 54, 3) := by decide +kernel
theorem dX3_readAll_160 : decode cX3_readAll 160 = .ok (.ifCond .ne 5, 3) := by decide +kernel
theorem dX3_readAll_163 : decode cX3_readAll 163 = .ok (.iconst (-1), 1) := by decide +kernel
theorem dX3_readAll_164 : decode cX3_readAll 164 = .ok (.ireturn, 1) := by decide +kernel
theorem dX3_readAll_165 : decode cX3_readAll 165 = .ok (.iinc 2 1, 3) := by decide +kernel
theorem dX3_readAll_168 : decode cX3_readAll 168 = .ok (.goto (-162), 3) := by decide +kernel
theorem dX3_readAll_171 : decode cX3_readAll 171 = .ok (.iconst (-1), 1) := by decide +kernel
theorem dX3_readAll_172 : decode cX3_readAll 172 = .ok (.ireturn, 1) := by decide +kernel
theorem dX3_readHouse_0 : decode cX3_readHouse 0 = .ok (.aload_n 1, 1) := by decide +kernel
theorem dX3_readHouse_1 : decode cX3_readHouse 1 = .ok (.getfield 58, 3) := by decide +kernel
theorem dX3_readHouse_4 : decode cX3_readHouse 4 = .ok (.ifCond .ne 17, 3) := by decide +kernel
theorem dX3_readHouse_7 : decode cX3_readHouse 7 = .ok (.aload_n 1, 1) := by decide +kernel
theorem dX3_readHouse_8 : decode cX3_readHouse 8 = .ok (.getfield 62, 3) := by decide +kernel
theorem dX3_readHouse_11 : decode cX3_readHouse 11 = .ok (.ifCond .gt 10, 3) := by decide +kernel
theorem dX3_readHouse_14 : decode cX3_readHouse 14 = .ok (.aload_n 1, 1) := by decide +kernel
theorem dX3_readHouse_15 : decode cX3_readHouse 15 = .ok (.getfield 65, 3) := by decide +kernel
theorem dX3_readHouse_18 : decode cX3_readHouse 18 = .ok (.ifCond .le 9, 3) := by decide +kernel
theorem dX3_readHouse_21 : decode cX3_readHouse 21 = .ok (.aload_n 0, 1) := by decide +kernel
theorem dX3_readHouse_22 : decode cX3_readHouse 22 = .ok (.iconst 3, 1) := by decide +kernel
theorem dX3_readHouse_23 : decode cX3_readHouse 23 = .ok (.invokevirtual 50, 3) := by decide +kernel
theorem dX3_readHouse_26 : decode cX3_readHouse 26 = .ok (.ireturn, 1) := by decide +kernel
theorem dX3_readHouse_27 : decode cX3_readHouse 27 = .ok (.aload_n 0, 1) := by decide +kernel
theorem dX3_readHouse_28 : decode cX3_readHouse 28 = .ok (.invokevirtual 68, 3) := by decide +kernel
theorem dX3_readHouse_31 : decode cX3_readHouse 31 = .ok (.aload_n 0, 1) := by decide +kernel
theorem dX3_readHouse_32 : decode cX3_readHouse 32 = .ok (.iconst 2, 1) := by decide +kernel
theorem dX3_readHouse_33 : decode cX3_readHouse 33 = .ok (.bipush 9, 2) := by decide +kernel
theorem dX3_readHouse_35 : decode cX3_readHouse 35 = .ok (.invokevirtual 71, 3) := by decide +kernel
theorem dX3_readHouse_38 : decode cX3_readHouse 38 = .ok (.istore_n 2, 1) := by decide +kernel
theorem dX3_readHouse_39 : decode cX3_readHouse 39 = .ok (.iload_n 2, 1) := by decide +kernel
theorem dX3_readHouse_40 : decode cX3_readHouse 40 = .ok (.iconst (-1), 1) := by decide +kernel
theorem dX3_readHouse_41 : decode cX3_readHouse 41 = .ok (.if_icmp .ne 7, 3) := by decide +kernel
theorem dX3_readHouse_44 : decode cX3_readHouse 44 = .ok (.iconst (-1), 1) := by decide +kernel
theorem dX3_readHouse_45 : decode cX3_readHouse 45 = .ok (.goto 10, 3) := by decide +kernel
theorem dX3_readHouse_48 : decode cX3_readHouse 48 = .ok (.aload_n 0, 1) := by decide +kernel
theorem dX3_readHouse_49 : decode cX3_readHouse 49 = .ok (.iconst 2, 1) := by decide +kernel
theorem dX3_readHouse_50 : decode cX3_readHouse 50 = .ok (.bipush 9, 2) := by decide +kernel
theorem dX3_readHouse_52 : decode cX3_readHouse 52 = .ok (.invokevirtual 71, 3) := by decide +kernel
theorem dX3_readHouse_55 : decode cX3_readHouse 55 = .ok (.istore_n 3, 1) := by decide +kernel
theorem dX3_readHouse_56 : decode cX3_readHouse 56 = .ok (.iload_n 3, 1) := by decide +kernel
theorem dX3_readHouse_57 : decode cX3_readHouse 57 = .ok (.iconst (-1), 1) := by decide +kernel
theorem dX3_readHouse_58 : decode cX3_readHouse 58 = .ok (.if_icmp .ne 5, 3) := by decide +kernel
theorem dX3_readHouse_61 : decode cX3_readHouse 61 = .ok (.iconst 0, 1) := by decide +kernel
theorem dX3_readHouse_62 : decode cX3_readHouse 62 = .ok (.ireturn, 1) := by decide +kernel
theorem dX3_readHouse_63 : decode cX3_readHouse 63 = .ok (.aload_n 1, 1) := by decide +kernel
theorem dX3_readHouse_64 : decode cX3_readHouse 64 = .ok (.iload_n 2, 1) := by decide +kernel
theorem dX3_readHouse_65 : decode cX3_readHouse 65 = .ok (.putfield 75, 3) := by decide +kernel
theorem dX3_readHouse_68 : decode cX3_readHouse 68 = .ok (.aload_n 1, 1) := by decide +kernel
theorem dX3_readHouse_69 : decode cX3_readHouse 69 = .ok (.iload_n 3, 1) := by decide +kernel
theorem dX3_readHouse_70 : decode cX3_readHouse 70 = .ok (.putfield 78, 3) := by decide +kernel
theorem dX3_readHouse_73 : decode cX3_readHouse 73 = .ok (.aload_n 1, 1) := by decide +kernel
theorem dX3_readHouse_74 : decode cX3_readHouse 74 = .ok (.iconst 1, 1) := by decide +kernel
theorem dX3_readHouse_75 : decode cX3_readHouse 75 = .ok (.putfield 58, 3) := by decide +kernel
theorem dX3_readHouse_78 : decode cX3_readHouse 78 = .ok (.iconst 1, 1) := by decide +kernel
theorem dX3_readHouse_79 : decode cX3_readHouse 79 = .ok (.ireturn, 1) := by decide +kernel
theorem dX3_readBed_0 : decode cX3_readBed 0 = .ok (.aload_n 1, 1) := by decide +kernel
theorem dX3_readBed_1 : decode cX3_readBed 1 = .ok (.getfield 62, 3) := by decide +kernel
theorem dX3_readBed_4 : decode cX3_readBed 4 = .ok (.istore_n 2, 1) := by decide +kernel
theorem dX3_readBed_5 : decode cX3_readBed 5 = .ok (.iload_n 2, 1) := by decide +kernel
theorem dX3_readBed_6 : decode cX3_readBed 6 = .ok (.bipush 6, 2) := by decide +kernel
theorem dX3_readBed_8 : decode cX3_readBed 8 = .ok (.if_icmp .lt 9, 3) := by decide +kernel
theorem dX3_readBed_11 : decode cX3_readBed 11 = .ok (.aload_n 0, 1) := by decide +kernel
theorem dX3_readBed_12 : decode cX3_readBed 12 = .ok (.iconst 4, 1) := by decide +kernel
theorem dX3_readBed_13 : decode cX3_readBed 13 = .ok (.invokevirtual 50, 3) := by decide +kernel
theorem dX3_readBed_16 : decode cX3_readBed 16 = .ok (.ireturn, 1) := by decide +kernel
theorem dX3_readBed_17 : decode cX3_readBed 17 = .ok (.aload_n 0, 1) := by decide +kernel
theorem dX3_readBed_18 : decode cX3_readBed 18 = .ok (.invokevirtual 68, 3) := by decide +kernel
theorem dX3_readBed_21 : decode cX3_readBed 21 = .ok (.aload_n 0, 1) := by decide +kernel
theorem dX3_readBed_22 : decode cX3_readBed 22 = .ok (.aload_n 1, 1) := by decide +kernel
theorem dX3_readBed_23 : decode cX3_readBed 23 = .ok (.invokevirtual 81, 3) := by decide +kernel
theorem dX3_readBed_26 : decode cX3_readBed 26 = .ok (.lstore_n 3, 1) := by decide +kernel
theorem dX3_readBed_27 : decode cX3_readBed 27 = .ok (.lload_n 3, 1) := by decide +kernel
theorem dX3_readBed_28 : decode cX3_readBed 28 = .ok (.ldc2_w 85, 3) := by decide +kernel
theorem dX3_readBed_31 : decode cX3_readBed 31 = .ok (.lcmp, 1) := by decide +kernel
theorem dX3_readBed_32 : decode cX3_readBed 32 = .ok (.ifCond .ne 7, 3) := by decide +kernel
theorem dX3_readBed_35 : decode cX3_readBed 35 = .ok (.iconst (-1), 1) := by decide +kernel
theorem dX3_readBed_36 : decode cX3_readBed 36 = .ok (.goto 14, 3) := by decide +kernel
theorem dX3_readBed_39 : decode cX3_readBed 39 = .ok (.aload_n 0, 1) := by decide +kernel
theorem dX3_readBed_40 : decode cX3_readBed 40 = .ok (.iconst 0, 1) := by decide +kernel
theorem dX3_readBed_41 : decode cX3_readBed 41 = .ok (.aload_n 1, 1) := by decide +kernel
theorem dX3_readBed_42 : decode cX3_readBed 42 = .ok (.getfield 75, 3) := by decide +kernel
theorem dX3_readBed_45 : decode cX3_readBed 45 = .ok (.iconst 1, 1) := by decide +kernel
theorem dX3_readBed_46 : decode cX3_readBed 46 = .ok (.isub, 1) := by decide +kernel
theorem dX3_readBed_47 : decode cX3_readBed 47 = .ok (.invokevirtual 71, 3) := by decide +kernel
theorem dX3_readBed_50 : decode cX3_readBed 50 = .ok (.istore 5, 2) := by decide +kernel
theorem dX3_readBed_52 : decode cX3_readBed 52 = .ok (.iload 5, 2) := by decide +kernel
theorem dX3_readBed_54 : decode cX3_readBed 54 = .ok (.iconst (-1), 1) := by decide +kernel
theorem dX3_readBed_55 : decode cX3_readBed 55 = .ok (.if_icmp .ne 7, 3) := by decide +kernel
theorem dX3_readBed_58 : decode cX3_readBed 58 = .ok (.iconst (-1), 1) := by decide +kernel
theorem dX3_readBed_59 : decode cX3_readBed 59 = .ok (.goto 14, 3) := by decide +kernel
theorem dX3_readBed_62 : decode cX3_readBed 62 = .ok (.aload_n 0, 1) := by decide +kernel
theorem dX3_readBed_63 : decode cX3_readBed 63 = .ok (.iconst 0, 1) := by decide +kernel
theorem dX3_readBed_64 : decode cX3_readBed 64 = .ok (.aload_n 1, 1) := by decide +kernel
theorem dX3_readBed_65 : decode cX3_readBed 65 = .ok (.getfield 78, 3) := by decide +kernel
theorem dX3_readBed_68 : decode cX3_readBed 68 = .ok (.iconst 1, 1) := by decide +kernel
theorem dX3_readBed_69 : decode cX3_readBed 69 = .ok (.isub, 1) := by decide +kernel
theorem dX3_readBed_70 : decode cX3_readBed 70 = .ok (.invokevirtual 71, 3) := by decide +kernel
theorem dX3_readBed_73 : decode cX3_readBed 73 = .ok (.istore 6, 2) := by decide +kernel
theorem dX3_readBed_75 : decode cX3_readBed 75 = .ok (.iload 6, 2) := by decide +kernel
theorem dX3_readBed_77 : decode cX3_readBed 77 = .ok (.iconst (-1), 1) := by decide +kernel
theorem dX3_readBed_78 : decode cX3_readBed 78 = .ok (.if_icmp .ne 5, 3) := by decide +kernel
theorem dX3_readBed_81 : decode cX3_readBed 81 = .ok (.iconst 0, 1) := by decide +kernel
theorem dX3_readBed_82 : decode cX3_readBed 82 = .ok (.ireturn, 1) := by decide +kernel
theorem dX3_readBed_83 : decode cX3_readBed 83 = .ok (.aload_n 1, 1) := by decide +kernel
theorem dX3_readBed_84 : decode cX3_readBed 84 = .ok (.iload 5, 2) := by decide +kernel
theorem dX3_readBed_86 : decode cX3_readBed 86 = .ok (.iload 6, 2) := by decide +kernel
theorem dX3_readBed_88 : decode cX3_readBed 88 = .ok (.invokevirtual 87, 3) := by decide +kernel
theorem dX3_readBed_91 : decode cX3_readBed 91 = .ok (.ifCond .eq 9, 3) := by decide +kernel
theorem dX3_readBed_94 : decode cX3_readBed 94 = .ok (.aload_n 0, 1) := by decide +kernel
theorem dX3_readBed_95 : decode cX3_readBed 95 = .ok (.iconst 3, 1) := by decide +kernel
theorem dX3_readBed_96 : decode cX3_readBed 96 = .ok (.invokevirtual 91, 3) := by decide +kernel
theorem dX3_readBed_99 : decode cX3_readBed 99 = .ok (.ireturn, 1) := by decide +kernel
theorem dX3_readBed_100 : decode cX3_readBed 100 = .ok (.aload_n 1, 1) := by decide +kernel
theorem dX3_readBed_101 : decode cX3_readBed 101 = .ok (.getfield 94, 3) := by decide +kernel
theorem dX3_readBed_104 : decode cX3_readBed 104 = .ok (.iload_n 2, 1) := by decide +kernel
theorem dX3_readBed_105 : decode cX3_readBed 105 = .ok (.lload_n 3, 1) := by decide +kernel
theorem dX3_readBed_106 : decode cX3_readBed 106 = .ok (.lastore, 1) := by decide +kernel
theorem dX3_readBed_107 : decode cX3_readBed 107 = .ok (.aload_n 1, 1) := by decide +kernel
theorem dX3_readBed_108 : decode cX3_readBed 108 = .ok (.getfield 98, 3) := by decide +kernel
theorem dX3_readBed_111 : decode cX3_readBed 111 = .ok (.iload_n 2, 1) := by decide +kernel
theorem dX3_readBed_112 : decode cX3_readBed 112 = .ok (.aaload, 1) := by decide +kernel
theorem dX3_readBed_113 : decode cX3_readBed 113 = .ok (.iconst 0, 1) := by decide +kernel
theorem dX3_readBed_114 : decode cX3_readBed 114 = .ok (.iload 5, 2) := by decide +kernel
theorem dX3_readBed_116 : decode cX3_readBed 116 = .ok (.iastore, 1) := by decide +kernel
theorem dX3_readBed_117 : decode cX3_readBed 117 = .ok (.aload_n 1, 1) := by decide +kernel
theorem dX3_readBed_118 : decode cX3_readBed 118 = .ok (.getfield 98, 3) := by decide +kernel
theorem dX3_readBed_121 : decode cX3_readBed 121 = .ok (.iload_n 2, 1) := by decide +kernel
theorem dX3_readBed_122 : decode cX3_readBed 122 = .ok (.aaload, 1) := by decide +kernel
theorem dX3_readBed_123 : decode cX3_readBed 123 = .ok (.iconst 1, 1) := by decide +kernel
theorem dX3_readBed_124 : decode cX3_readBed 124 = .ok (.iload 6, 2) := by decide +kernel
theorem dX3_readBed_126 : decode cX3_readBed 126 = .ok (.iastore, 1) := by decide +kernel
theorem dX3_readBed_127 : decode cX3_readBed 127 = .ok (.aload_n 1, 1) := by decide +kernel
theorem dX3_readBed_128 : decode cX3_readBed 128 = .ok (.getfield 98, 3) := by decide +kernel
theorem dX3_readBed_131 : decode cX3_readBed 131 = .ok (.iload_n 2, 1) := by decide +kernel
theorem dX3_readBed_132 : decode cX3_readBed 132 = .ok (.aaload, 1) := by decide +kernel
theorem dX3_readBed_133 : decode cX3_readBed 133 = .ok (.iconst 2, 1) := by decide +kernel
theorem dX3_readBed_134 : decode cX3_readBed 134 = .ok (.iconst (-1), 1) := by decide +kernel
theorem dX3_readBed_135 : decode cX3_readBed 135 = .ok (.iastore, 1) := by decide +kernel
theorem dX3_readBed_136 : decode cX3_readBed 136 = .ok (.aload_n 1, 1) := by decide +kernel
theorem dX3_readBed_137 : decode cX3_readBed 137 = .ok (.iload_n 2, 1) := by decide +kernel
theorem dX3_readBed_138 : decode cX3_readBed 138 = .ok (.iconst 1, 1) := by decide +kernel
theorem dX3_readBed_139 : decode cX3_readBed 139 = .ok (.iadd, 1) := by decide +kernel
theorem dX3_readBed_140 : decode cX3_readBed 140 = .ok (.putfield 62, 3) := by decide +kernel
theorem dX3_readBed_143 : decode cX3_readBed 143 = .ok (.iconst 1, 1) := by decide +kernel
theorem dX3_readBed_144 : decode cX3_readBed 144 = .ok (.ireturn, 1) := by decide +kernel
theorem dX3_readOwl_0 : decode cX3_readOwl 0 = .ok (.aload_n 1, 1) := by decide +kernel
theorem dX3_readOwl_1 : decode cX3_readOwl 1 = .ok (.getfield 102, 3) := by decide +kernel
theorem dX3_readOwl_4 : decode cX3_readOwl 4 = .ok (.istore_n 2, 1) := by decide +kernel
theorem dX3_readOwl_5 : decode cX3_readOwl 5 = .ok (.iload_n 2, 1) := by decide +kernel
theorem dX3_readOwl_6 : decode cX3_readOwl 6 = .ok (.bipush 6, 2) := by decide +kernel
theorem dX3_readOwl_8 : decode cX3_readOwl 8 = .ok (.if_icmp .lt 9, 3) := by decide +kernel
theorem dX3_readOwl_11 : decode cX3_readOwl 11 = .ok (.aload_n 0, 1) := by decide +kernel
theorem dX3_readOwl_12 : decode cX3_readOwl 12 = .ok (.iconst 4, 1) := by decide +kernel
theorem dX3_readOwl_13 : decode cX3_readOwl 13 = .ok (.invokevirtual 50, 3) := by decide +kernel
theorem dX3_readOwl_16 : decode cX3_readOwl 16 = .ok (.ireturn, 1) := by decide +kernel
theorem dX3_readOwl_17 : decode cX3_readOwl 17 = .ok (.aload_n 0, 1) := by decide +kernel
theorem dX3_readOwl_18 : decode cX3_readOwl 18 = .ok (.invokevirtual 68, 3) := by decide +kernel
theorem dX3_readOwl_21 : decode cX3_readOwl 21 = .ok (.aload_n 0, 1) := by decide +kernel
theorem dX3_readOwl_22 : decode cX3_readOwl 22 = .ok (.aload_n 1, 1) := by decide +kernel
theorem dX3_readOwl_23 : decode cX3_readOwl 23 = .ok (.invokevirtual 81, 3) := by decide +kernel
theorem dX3_readOwl_26 : decode cX3_readOwl 26 = .ok (.lstore_n 3, 1) := by decide +kernel
theorem dX3_readOwl_27 : decode cX3_readOwl 27 = .ok (.lload_n 3, 1) := by decide +kernel
theorem dX3_readOwl_28 : decode cX3_readOwl 28 = .ok (.ldc2_w 85, 3) := by decide +kernel
theorem dX3_readOwl_31 : decode cX3_readOwl 31 = .ok (.lcmp, 1) := by decide +kernel
theorem dX3_readOwl_32 : decode cX3_readOwl 32 = .ok (.ifCond .ne 7, 3) := by decide +kernel
theorem dX3_readOwl_35 : decode cX3_readOwl 35 = .ok (.iconst (-1), 1) := by decide +kernel
theorem dX3_readOwl_36 : decode cX3_readOwl 36 = .ok (.goto 15, 3) := by decide +kernel
theorem dX3_readOwl_39 : decode cX3_readOwl 39 = .ok (.aload_n 0, 1) := by decide +kernel
theorem dX3_readOwl_40 : decode cX3_readOwl 40 = .ok (.aload_n 1, 1) := by decide +kernel
theorem dX3_readOwl_41 : decode cX3_readOwl 41 = .ok (.getfield 94, 3) := by decide +kernel
theorem dX3_readOwl_44 : decode cX3_readOwl 44 = .ok (.aload_n 1, 1) := by decide +kernel
theorem dX3_readOwl_45 : decode cX3_readOwl 45 = .ok (.getfield 62, 3) := by decide +kernel
theorem dX3_readOwl_48 : decode cX3_readOwl 48 = .ok (.invokevirtual 105, 3) := by decide +kernel
theorem dX3_readOwl_51 : decode cX3_readOwl 51 = .ok (.istore 5, 2) := by decide +kernel
theorem dX3_readOwl_53 : decode cX3_readOwl 53 = .ok (.iload 5, 2) := by decide +kernel
theorem dX3_readOwl_55 : decode cX3_readOwl 55 = .ok (.iconst (-1), 1) := by decide +kernel
theorem dX3_readOwl_56 : decode cX3_readOwl 56 = .ok (.if_icmp .ne 5, 3) := by decide +kernel
theorem dX3_readOwl_59 : decode cX3_readOwl 59 = .ok (.iconst 0, 1) := by decide +kernel
theorem dX3_readOwl_60 : decode cX3_readOwl 60 = .ok (.ireturn, 1) := by decide +kernel
theorem dX3_readOwl_61 : decode cX3_readOwl 61 = .ok (.aload_n 1, 1) := by decide +kernel
theorem dX3_readOwl_62 : decode cX3_readOwl 62 = .ok (.iload 5, 2) := by decide +kernel
theorem dX3_readOwl_64 : decode cX3_readOwl 64 = .ok (.invokevirtual 109, 3) := by decide +kernel
theorem dX3_readOwl_67 : decode cX3_readOwl 67 = .ok (.ifCond .eq 9, 3) := by decide +kernel
theorem dX3_readOwl_70 : decode cX3_readOwl 70 = .ok (.aload_n 0, 1) := by decide +kernel
theorem dX3_readOwl_71 : decode cX3_readOwl 71 = .ok (.iconst 3, 1) := by decide +kernel
theorem dX3_readOwl_72 : decode cX3_readOwl 72 = .ok (.invokevirtual 91, 3) := by decide +kernel
theorem dX3_readOwl_75 : decode cX3_readOwl 75 = .ok (.ireturn, 1) := by decide +kernel
theorem dX3_readOwl_76 : decode cX3_readOwl 76 = .ok (.aload_n 0, 1) := by decide +kernel
theorem dX3_readOwl_77 : decode cX3_readOwl 77 = .ok (.iconst 1, 1) := by decide +kernel
theorem dX3_readOwl_78 : decode cX3_readOwl 78 = .ok (.bipush 20, 2) := by decide +kernel
theorem dX3_readOwl_80 : decode cX3_readOwl 80 = .ok (.invokevirtual 71, 3) := by decide +kernel
theorem dX3_readOwl_83 : decode cX3_readOwl 83 = .ok (.istore 6, 2) := by decide +kernel
theorem dX3_readOwl_85 : decode cX3_readOwl 85 = .ok (.iload 6, 2) := by decide +kernel
theorem dX3_readOwl_87 : decode cX3_readOwl 87 = .ok (.iconst (-1), 1) := by decide +kernel
theorem dX3_readOwl_88 : decode cX3_readOwl 88 = .ok (.if_icmp .ne 5, 3) := by decide +kernel
theorem dX3_readOwl_91 : decode cX3_readOwl 91 = .ok (.iconst 0, 1) := by decide +kernel
theorem dX3_readOwl_92 : decode cX3_readOwl 92 = .ok (.ireturn, 1) := by decide +kernel
theorem dX3_readOwl_93 : decode cX3_readOwl 93 = .ok (.aload_n 1, 1) := by decide +kernel
theorem dX3_readOwl_94 : decode cX3_readOwl 94 = .ok (.getfield 112, 3) := by decide +kernel
theorem dX3_readOwl_97 : decode cX3_readOwl 97 = .ok (.iload_n 2, 1) := by decide +kernel
theorem dX3_readOwl_98 : decode cX3_readOwl 98 = .ok (.lload_n 3, 1) := by decide +kernel
theorem dX3_readOwl_99 : decode cX3_readOwl 99 = .ok (.lastore, 1) := by decide +kernel
theorem dX3_readOwl_100 : decode cX3_readOwl 100 = .ok (.aload_n 1, 1) := by decide +kernel
theorem dX3_readOwl_101 : decode cX3_readOwl 101 = .ok (.getfield 115, 3) := by decide +kernel
theorem dX3_readOwl_104 : decode cX3_readOwl 104 = .ok (.iload_n 2, 1) := by decide +kernel
theorem dX3_readOwl_105 : decode cX3_readOwl 105 = .ok (.aaload, 1) := by decide +kernel
theorem dX3_readOwl_106 : decode cX3_readOwl 106 = .ok (.iconst 0, 1) := by decide +kernel
theorem dX3_readOwl_107 : decode cX3_readOwl 107 = .ok (.iload 5, 2) := by decide +kernel
theorem dX3_readOwl_109 : decode cX3_readOwl 109 = .ok (.iastore, 1) := by decide +kernel
theorem dX3_readOwl_110 : decode cX3_readOwl 110 = .ok (.aload_n 1, 1) := by decide +kernel
theorem dX3_readOwl_111 : decode cX3_readOwl 111 = .ok (.getfield 115, 3) := by decide +kernel
theorem dX3_readOwl_114 : decode cX3_readOwl 114 = .ok (.iload_n 2, 1) := by decide +kernel
theorem dX3_readOwl_115 : decode cX3_readOwl 115 = .ok (.aaload, 1) := by decide +kernel
theorem dX3_readOwl_116 : decode cX3_readOwl 116 = .ok (.iconst 1, 1) := by decide +kernel
theorem dX3_readOwl_117 : decode cX3_readOwl 117 = .ok (.iload 6, 2) := by decide +kernel
theorem dX3_readOwl_119 : decode cX3_readOwl 119 = .ok (.iastore, 1) := by decide +kernel
theorem dX3_readOwl_120 : decode cX3_readOwl 120 = .ok (.aload_n 1, 1) := by decide +kernel
theorem dX3_readOwl_121 : decode cX3_readOwl 121 = .ok (.getfield 115, 3) := by decide +kernel
theorem dX3_readOwl_124 : decode cX3_readOwl 124 = .ok (.iload_n 2, 1) := by decide +kernel
theorem dX3_readOwl_125 : decode cX3_readOwl 125 = .ok (.aaload, 1) := by decide +kernel
theorem dX3_readOwl_126 : decode cX3_readOwl 126 = .ok (.iconst 2, 1) := by decide +kernel
theorem dX3_readOwl_127 : decode cX3_readOwl 127 = .ok (.iconst (-1), 1) := by decide +kernel
theorem dX3_readOwl_128 : decode cX3_readOwl 128 = .ok (.iastore, 1) := by decide +kernel
theorem dX3_readOwl_129 : decode cX3_readOwl 129 = .ok (.aload_n 1, 1) := by decide +kernel
theorem dX3_readOwl_130 : decode cX3_readOwl 130 = .ok (.getfield 115, 3) := by decide +kernel
theorem dX3_readOwl_133 : decode cX3_readOwl 133 = .ok (.iload_n 2, 1) := by decide +kernel
theorem dX3_readOwl_134 : decode cX3_readOwl 134 = .ok (.aaload, 1) := by decide +kernel
theorem dX3_readOwl_135 : decode cX3_readOwl 135 = .ok (.iconst 3, 1) := by decide +kernel
theorem dX3_readOwl_136 : decode cX3_readOwl 136 = .ok (.iconst 0, 1) := by decide +kernel
theorem dX3_readOwl_137 : decode cX3_readOwl 137 = .ok (.iastore, 1) := by decide +kernel
theorem dX3_readOwl_138 : decode cX3_readOwl 138 = .ok (.aload_n 1, 1) := by decide +kernel
theorem dX3_readOwl_139 : decode cX3_readOwl 139 = .ok (.iload_n 2, 1) := by decide +kernel
theorem dX3_readOwl_140 : decode cX3_readOwl 140 = .ok (.iconst 1, 1) := by decide +kernel
theorem dX3_readOwl_141 : decode cX3_readOwl 141 = .ok (.iadd, 1) := by decide +kernel
theorem dX3_readOwl_142 : decode cX3_readOwl 142 = .ok (.putfield 102, 3) := by decide +kernel
theorem dX3_readOwl_145 : decode cX3_readOwl 145 = .ok (.iconst 1, 1) := by decide +kernel
theorem dX3_readOwl_146 : decode cX3_readOwl 146 = .ok (.ireturn, 1) := by decide +kernel
theorem dX3_readBad_0 : decode cX3_readBad 0 = .ok (.aload_n 0, 1) := by decide +kernel
theorem dX3_readBad_1 : decode cX3_readBad 1 = .ok (.invokevirtual 68, 3) := by decide +kernel
theorem dX3_readBad_4 : decode cX3_readBad 4 = .ok (.aload_n 0, 1) := by decide +kernel
theorem dX3_readBad_5 : decode cX3_readBad 5 = .ok (.aload_n 1, 1) := by decide +kernel
theorem dX3_readBad_6 : decode cX3_readBad 6 = .ok (.getfield 112, 3) := by decide +kernel
theorem dX3_readBad_9 : decode cX3_readBad 9 = .ok (.aload_n 1, 1) := by decide +kernel
theorem dX3_readBad_10 : decode cX3_readBad 10 = .ok (.getfield 102, 3) := by decide +kernel
theorem dX3_readBad_13 : decode cX3_readBad 13 = .ok (.invokevirtual 105, 3) := by decide +kernel
theorem dX3_readBad_16 : decode cX3_readBad 16 = .ok (.istore_n 2, 1) := by decide +kernel
theorem dX3_readBad_17 : decode cX3_readBad 17 = .ok (.iload_n 2, 1) := by decide +kernel
theorem dX3_readBad_18 : decode cX3_readBad 18 = .ok (.iconst (-1), 1) := by decide +kernel
theorem dX3_readBad_19 : decode cX3_readBad 19 = .ok (.if_icmp .ne 5, 3) := by decide +kernel
theorem dX3_readBad_22 : decode cX3_readBad 22 = .ok (.iconst 0, 1) := by decide +kernel
theorem dX3_readBad_23 : decode cX3_readBad 23 = .ok (.ireturn, 1) := by decide +kernel
theorem dX3_readBad_24 : decode cX3_readBad 24 = .ok (.aload_n 1, 1) := by decide +kernel
theorem dX3_readBad_25 : decode cX3_readBad 25 = .ok (.getfield 115, 3) := by decide +kernel
theorem dX3_readBad_28 : decode cX3_readBad 28 = .ok (.iload_n 2, 1) := by decide +kernel
theorem dX3_readBad_29 : decode cX3_readBad 29 = .ok (.aaload, 1) := by decide +kernel
theorem dX3_readBad_30 : decode cX3_readBad 30 = .ok (.iconst 2, 1) := by decide +kernel
theorem dX3_readBad_31 : decode cX3_readBad 31 = .ok (.iaload, 1) := by decide +kernel
theorem dX3_readBad_32 : decode cX3_readBad 32 = .ok (.iconst (-1), 1) := by decide +kernel
theorem dX3_readBad_33 : decode cX3_readBad 33 = .ok (.if_icmp .eq 9, 3) := by decide +kernel
theorem dX3_readBad_36 : decode cX3_readBad 36 = .ok (.aload_n 0, 1) := by decide +kernel
theorem dX3_readBad_37 : decode cX3_readBad 37 = .ok (.iconst 3, 1) := by decide +kernel
theorem dX3_readBad_38 : decode cX3_readBad 38 = .ok (.invokevirtual 91, 3) := by decide +kernel
theorem dX3_readBad_41 : decode cX3_readBad 41 = .ok (.ireturn, 1) := by decide +kernel
theorem dX3_readBad_42 : decode cX3_readBad 42 = .ok (.aload_n 1, 1) := by decide +kernel
theorem dX3_readBad_43 : decode cX3_readBad 43 = .ok (.getfield 115, 3) := by decide +kernel
theorem dX3_readBad_46 : decode cX3_readBad 46 = .ok (.iload_n 2, 1) := by decide +kernel
theorem dX3_readBad_47 : decode cX3_readBad 47 = .ok (.aaload, 1) := by decide +kernel
theorem dX3_readBad_48 : decode cX3_readBad 48 = .ok (.iconst 2, 1) := by decide +kernel
theorem dX3_readBad_49 : decode cX3_readBad 49 = .ok (.aload_n 0, 1) := by decide +kernel
theorem dX3_readBad_50 : decode cX3_readBad 50 = .ok (.bipush 12, 2) := by decide +kernel
theorem dX3_readBad_52 : decode cX3_readBad 52 = .ok (.iconst 4, 1) := by decide +kernel
theorem dX3_readBad_53 : decode cX3_readBad 53 = .ok (.invokevirtual 118, 3) := by decide +kernel
theorem dX3_readBad_56 : decode cX3_readBad 56 = .ok (.iastore, 1) := by decide +kernel
theorem dX3_readBad_57 : decode cX3_readBad 57 = .ok (.aload_n 1, 1) := by decide +kernel
theorem dX3_readBad_58 : decode cX3_readBad 58 = .ok (.getfield 115, 3) := by decide +kernel
theorem dX3_readBad_61 : decode cX3_readBad 61 = .ok (.iload_n 2, 1) := by decide +kernel
theorem dX3_readBad_62 : decode cX3_readBad 62 = .ok (.aaload, 1) := by decide +kernel
theorem dX3_readBad_63 : decode cX3_readBad 63 = .ok (.iconst 2, 1) := by decide +kernel
theorem dX3_readBad_64 : decode cX3_readBad 64 = .ok (.iaload, 1) := by decide +kernel
theorem dX3_readBad_65 : decode cX3_readBad 65 = .ok (.iconst (-1), 1) := by decide +kernel
theorem dX3_readBad_66 : decode cX3_readBad 66 = .ok (.if_icmp .eq 7, 3) := by decide +kernel
theorem dX3_readBad_69 : decode cX3_readBad 69 = .ok (.iconst 1, 1) := by decide +kernel
theorem dX3_readBad_70 : decode cX3_readBad 70 = .ok (.goto 4, 3) := by decide +kernel
theorem dX3_readBad_73 : decode cX3_readBad 73 = .ok (.iconst 0, 1) := by decide +kernel
theorem dX3_readBad_74 : decode cX3_readBad 74 = .ok (.ireturn, 1) := by decide +kernel
theorem dX3_readDeaf_0 : decode cX3_readDeaf 0 = .ok (.aload_n 0, 1) := by decide +kernel
theorem dX3_readDeaf_1 : decode cX3_readDeaf 1 = .ok (.invokevirtual 68, 3) := by decide +kernel
theorem dX3_readDeaf_4 : decode cX3_readDeaf 4 = .ok (.aload_n 0, 1) := by decide +kernel
theorem dX3_readDeaf_5 : decode cX3_readDeaf 5 = .ok (.aload_n 1, 1) := by decide +kernel
theorem dX3_readDeaf_6 : decode cX3_readDeaf 6 = .ok (.getfield 112, 3) := by decide +kernel
theorem dX3_readDeaf_9 : decode cX3_readDeaf 9 = .ok (.aload_n 1, 1) := by decide +kernel
theorem dX3_readDeaf_10 : decode cX3_readDeaf 10 = .ok (.getfield 102, 3) := by decide +kernel
theorem dX3_readDeaf_13 : decode cX3_readDeaf 13 = .ok (.invokevirtual 105, 3) := by decide +kernel
theorem dX3_readDeaf_16 : decode cX3_readDeaf 16 = .ok (.istore_n 2, 1) := by decide +kernel
theorem dX3_readDeaf_17 : decode cX3_readDeaf 17 = .ok (.iload_n 2, 1) := by decide +kernel
theorem dX3_readDeaf_18 : decode cX3_readDeaf 18 = .ok (.iconst (-1), 1) := by decide +kernel
theorem dX3_readDeaf_19 : decode cX3_readDeaf 19 = .ok (.if_icmp .ne 7, 3) := by decide +kernel
theorem dX3_readDeaf_22 : decode cX3_readDeaf 22 = .ok (.iconst (-1), 1) := by decide +kernel
theorem dX3_readDeaf_23 : decode cX3_readDeaf 23 = .ok (.goto 10, 3) := by decide +kernel
theorem dX3_readDeaf_26 : decode cX3_readDeaf 26 = .ok (.aload_n 0, 1) := by decide +kernel
theorem dX3_readDeaf_27 : decode cX3_readDeaf 27 = .ok (.bipush 8, 2) := by decide +kernel
theorem dX3_readDeaf_29 : decode cX3_readDeaf 29 = .ok (.iconst 4, 1) := by decide +kernel
theorem dX3_readDeaf_30 : decode cX3_readDeaf 30 = .ok (.invokevirtual 118, 3) := by decide +kernel
theorem dX3_readDeaf_33 : decode cX3_readDeaf 33 = .ok (.istore_n 3, 1) := by decide +kernel
theorem dX3_readDeaf_34 : decode cX3_readDeaf 34 = .ok (.iload_n 3, 1) := by decide +kernel
theorem dX3_readDeaf_35 : decode cX3_readDeaf 35 = .ok (.iconst (-1), 1) := by decide +kernel
theorem dX3_readDeaf_36 : decode cX3_readDeaf 36 = .ok (.if_icmp .ne 5, 3) := by decide +kernel
theorem dX3_readDeaf_39 : decode cX3_readDeaf 39 = .ok (.iconst 0, 1) := by decide +kernel
theorem dX3_readDeaf_40 : decode cX3_readDeaf 40 = .ok (.ireturn, 1) := by decide +kernel
theorem dX3_readDeaf_41 : decode cX3_readDeaf 41 = .ok (.aload_n 1, 1) := by decide +kernel
theorem dX3_readDeaf_42 : decode cX3_readDeaf 42 = .ok (.getfield 115, 3) := by decide +kernel
theorem dX3_readDeaf_45 : decode cX3_readDeaf 45 = .ok (.iload_n 2, 1) := by decide +kernel
theorem dX3_readDeaf_46 : decode cX3_readDeaf 46 = .ok (.aaload, 1) := by decide +kernel
theorem dX3_readDeaf_47 : decode cX3_readDeaf 47 = .ok (.iconst 3, 1) := by decide +kernel
theorem dX3_readDeaf_48 : decode cX3_readDeaf 48 = .ok (.iaload, 1) := by decide +kernel
theorem dX3_readDeaf_49 : decode cX3_readDeaf 49 = .ok (.iload_n 3, 1) := by decide +kernel
theorem dX3_readDeaf_50 : decode cX3_readDeaf 50 = .ok (.ishr, 1) := by decide +kernel
theorem dX3_readDeaf_51 : decode cX3_readDeaf 51 = .ok (.iconst 1, 1) := by decide +kernel
theorem dX3_readDeaf_52 : decode cX3_readDeaf 52 = .ok (.iand, 1) := by decide +kernel
theorem dX3_readDeaf_53 : decode cX3_readDeaf 53 = .ok (.iconst 1, 1) := by decide +kernel
theorem dX3_readDeaf_54 : decode cX3_readDeaf 54 = .ok (.if_icmp .ne 9, 3) := by decide +kernel
theorem dX3_readDeaf_57 : decode cX3_readDeaf 57 = .ok (.aload_n 0, 1) := by decide +kernel
theorem dX3_readDeaf_58 : decode cX3_readDeaf 58 = .ok (.iconst 3, 1) := by decide +kernel
theorem dX3_readDeaf_59 : decode cX3_readDeaf 59 = .ok (.invokevirtual 91, 3) := by decide +kernel
theorem dX3_readDeaf_62 : decode cX3_readDeaf 62 = .ok (.ireturn, 1) := by decide +kernel
theorem dX3_readDeaf_63 : decode cX3_readDeaf 63 = .ok (.aload_n 1, 1) := by decide +kernel
theorem dX3_readDeaf_64 : decode cX3_readDeaf 64 = .ok (.getfield 115, 3) := by decide +kernel
theorem dX3_readDeaf_67 : decode cX3_readDeaf 67 = .ok (.iload_n 2, 1) := by decide +kernel
theorem dX3_readDeaf_68 : decode cX3_readDeaf 68 = .ok (.aaload, 1) := by decide +kernel
theorem dX3_readDeaf_69 : decode cX3_readDeaf 69 = .ok (.iconst 3, 1) := by decide +kernel
theorem dX3_readDeaf_70 : decode cX3_readDeaf 70 = .ok (.dup2, 1) := by decide +kernel
theorem dX3_readDeaf_71 : decode cX3_readDeaf 71 = .ok (.iaload, 1) := by decide +kernel
theorem dX3_readDeaf_72 : decode cX3_readDeaf 72 = .ok (.iconst 1, 1) := by decide +kernel
theorem dX3_readDeaf_73 : decode cX3_readDeaf 73 = .ok (.iload_n 3, 1) := by decide +kernel
theorem dX3_readDeaf_74 : decode cX3_readDeaf 74 = .ok (.ishl, 1) := by decide +kernel
theorem dX3_readDeaf_75 : decode cX3_readDeaf 75 = .ok (.ior, 1) := by decide +kernel
theorem dX3_readDeaf_76 : decode cX3_readDeaf 76 = .ok (.iastore, 1) := by decide +kernel
theorem dX3_readDeaf_77 : decode cX3_readDeaf 77 = .ok (.iconst 1, 1) := by decide +kernel
theorem dX3_readDeaf_78 : decode cX3_readDeaf 78 = .ok (.ireturn, 1) := by decide +kernel
theorem dX3_readSound_0 : decode cX3_readSound 0 = .ok (.aload_n 1, 1) := by decide +kernel
theorem dX3_readSound_1 : decode cX3_readSound 1 = .ok (.getfield 65, 3) := by decide +kernel
theorem dX3_readSound_4 : decode cX3_readSound 4 = .ok (.istore_n 2, 1) := by decide +kernel
theorem dX3_readSound_5 : decode cX3_readSound 5 = .ok (.iload_n 2, 1) := by decide +kernel
theorem dX3_readSound_6 : decode cX3_readSound 6 = .ok (.bipush 8, 2) := by decide +kernel
theorem dX3_readSound_8 : decode cX3_readSound 8 = .ok (.if_icmp .lt 9, 3) := by decide +kernel
theorem dX3_readSound_11 : decode cX3_readSound 11 = .ok (.aload_n 0, 1) := by decide +kernel
theorem dX3_readSound_12 : decode cX3_readSound 12 = .ok (.iconst 4, 1) := by decide +kernel
theorem dX3_readSound_13 : decode cX3_readSound 13 = .ok (.invokevirtual 50, 3) := by decide +kernel
theorem dX3_readSound_16 : decode cX3_readSound 16 = .ok (.ireturn, 1) := by decide +kernel
theorem dX3_readSound_17 : decode cX3_readSound 17 = .ok (.aload_n 0, 1) := by decide +kernel
theorem dX3_readSound_18 : decode cX3_readSound 18 = .ok (.invokevirtual 68, 3) := by decide +kernel
theorem dX3_readSound_21 : decode cX3_readSound 21 = .ok (.aload_n 0, 1) := by decide +kernel
theorem dX3_readSound_22 : decode cX3_readSound 22 = .ok (.aload_n 1, 1) := by decide +kernel
theorem dX3_readSound_23 : decode cX3_readSound 23 = .ok (.invokevirtual 81, 3) := by decide +kernel
theorem dX3_readSound_26 : decode cX3_readSound 26 = .ok (.lstore_n 3, 1) := by decide +kernel
theorem dX3_readSound_27 : decode cX3_readSound 27 = .ok (.lload_n 3, 1) := by decide +kernel
theorem dX3_readSound_28 : decode cX3_readSound 28 = .ok (.ldc2_w 85, 3) := by decide +kernel
theorem dX3_readSound_31 : decode cX3_readSound 31 = .ok (.lcmp, 1) := by decide +kernel
theorem dX3_readSound_32 : decode cX3_readSound 32 = .ok (.ifCond .ne 7, 3) := by decide +kernel
theorem dX3_readSound_35 : decode cX3_readSound 35 = .ok (.iconst (-1), 1) := by decide +kernel
theorem dX3_readSound_36 : decode cX3_readSound 36 = .ok (.goto 10, 3) := by decide +kernel
theorem dX3_readSound_39 : decode cX3_readSound 39 = .ok (.aload_n 0, 1) := by decide +kernel
theorem dX3_readSound_40 : decode cX3_readSound 40 = .ok (.bipush 8, 2) := by decide +kernel
theorem dX3_readSound_42 : decode cX3_readSound 42 = .ok (.iconst 4, 1) := by decide +kernel
theorem dX3_readSound_43 : decode cX3_readSound 43 = .ok (.invokevirtual 118, 3) := by decide +kernel
theorem dX3_readSound_46 : decode cX3_readSound 46 = .ok (.istore 5, 2) := by decide +kernel
theorem dX3_readSound_48 : decode cX3_readSound 48 = .ok (.iload 5, 2) := by decide +kernel
theorem dX3_readSound_50 : decode cX3_readSound 50 = .ok (.iconst (-1), 1) := by decide +kernel
theorem dX3_readSound_51 : decode cX3_readSound 51 = .ok (.if_icmp .ne 7, 3) := by decide +kernel
theorem dX3_readSound_54 : decode cX3_readSound 54 = .ok (.iconst (-1), 1) := by decide +kernel
theorem dX3_readSound_55 : decode cX3_readSound 55 = .ok (.goto 14, 3) := by decide +kernel
theorem dX3_readSound_58 : decode cX3_readSound 58 = .ok (.aload_n 0, 1) := by decide +kernel
theorem dX3_readSound_59 : decode cX3_readSound 59 = .ok (.iconst 0, 1) := by decide +kernel
theorem dX3_readSound_60 : decode cX3_readSound 60 = .ok (.aload_n 1, 1) := by decide +kernel
theorem dX3_readSound_61 : decode cX3_readSound 61 = .ok (.getfield 75, 3) := by decide +kernel
theorem dX3_readSound_64 : decode cX3_readSound 64 = .ok (.iconst 1, 1) := by decide +kernel
theorem dX3_readSound_65 : decode cX3_readSound 65 = .ok (.isub, 1) := by decide +kernel
theorem dX3_readSound_66 : decode cX3_readSound 66 = .ok (.invokevirtual 71, 3) := by decide +kernel
theorem dX3_readSound_69 : decode cX3_readSound 69 = .ok (.istore 6, 2) := by decide +kernel
theorem dX3_readSound_71 : decode cX3_readSound 71 = .ok (.iload 6, 2) := by decide +kernel
theorem dX3_readSound_73 : decode cX3_readSound 73 = .ok (.iconst (-1), 1) := by decide +kernel
theorem dX3_readSound_74 : decode cX3_readSound 74 = .ok (.if_icmp .ne 7, 3) := by decide +kernel
theorem dX3_readSound_77 : decode cX3_readSound 77 = .ok (.iconst (-1), 1) := by decide +kernel
theorem dX3_readSound_78 : decode cX3_readSound 78 = .ok (.goto 14, 3) := by decide +kernel
theorem dX3_readSound_81 : decode cX3_readSound 81 = .ok (.aload_n 0, 1) := by decide +kernel
theorem dX3_readSound_82 : decode cX3_readSound 82 = .ok (.iconst 0, 1) := by decide +kernel
theorem dX3_readSound_83 : decode cX3_readSound 83 = .ok (.aload_n 1, 1) := by decide +kernel
theorem dX3_readSound_84 : decode cX3_readSound 84 = .ok (.getfield 78, 3) := by decide +kernel
theorem dX3_readSound_87 : decode cX3_readSound 87 = .ok (.iconst 1, 1) := by decide +kernel
theorem dX3_readSound_88 : decode cX3_readSound 88 = .ok (.isub, 1) := by decide +kernel
theorem dX3_readSound_89 : decode cX3_readSound 89 = .ok (.invokevirtual 71, 3) := by decide +kernel
theorem dX3_readSound_92 : decode cX3_readSound 92 = .ok (.istore 7, 2) := by decide +kernel
theorem dX3_readSound_94 : decode cX3_readSound 94 = .ok (.iload 7, 2) := by decide +kernel
theorem dX3_readSound_96 : decode cX3_readSound 96 = .ok (.iconst (-1), 1) := by decide +kernel
theorem dX3_readSound_97 : decode cX3_readSound 97 = .ok (.if_icmp .ne 7, 3) := by decide +kernel
theorem dX3_readSound_100 : decode cX3_readSound 100 = .ok (.iconst (-1), 1) := by decide +kernel
theorem dX3_readSound_101 : decode cX3_readSound 101 = .ok (.goto 10, 3) := by decide +kernel
theorem dX3_readSound_104 : decode cX3_readSound 104 = .ok (.aload_n 0, 1) := by decide +kernel
theorem dX3_readSound_105 : decode cX3_readSound 105 = .ok (.iconst 1, 1) := by decide +kernel
theorem dX3_readSound_106 : decode cX3_readSound 106 = .ok (.bipush 30, 2) := by decide +kernel
theorem dX3_readSound_108 : decode cX3_readSound 108 = .ok (.invokevirtual 71, 3) := by decide +kernel
theorem dX3_readSound_111 : decode cX3_readSound 111 = .ok (.istore 8, 2) := by decide +kernel
theorem dX3_readSound_113 : decode cX3_readSound 113 = .ok (.iload 8, 2) := by decide +kernel
theorem dX3_readSound_115 : decode cX3_readSound 115 = .ok (.iconst (-1), 1) := by decide +kernel
theorem dX3_readSound_116 : decode cX3_readSound 116 = .ok (.if_icmp .ne 7, 3) := by decide +kernel
theorem dX3_readSound_119 : decode cX3_readSound 119 = .ok (.iconst (-1), 1) := by decide +kernel
theorem dX3_readSound_120 : decode cX3_readSound 120 = .ok (.goto 10, 3) := by decide +kernel
theorem dX3_readSound_123 : decode cX3_readSound 123 = .ok (.aload_n 0, 1) := by decide +kernel
theorem dX3_readSound_124 : decode cX3_readSound 124 = .ok (.iconst 0, 1) := by decide +kernel
theorem dX3_readSound_125 : decode cX3_readSound 125 = .ok (.bipush 23, 2) := by decide +kernel
theorem dX3_readSound_127 : decode cX3_readSound 127 = .ok (.invokevirtual 71, 3) := by decide +kernel
theorem dX3_readSound_130 : decode cX3_readSound 130 = .ok (.istore 9, 2) := by decide +kernel
theorem dX3_readSound_132 : decode cX3_readSound 132 = .ok (.iload 9, 2) := by decide +kernel
theorem dX3_readSound_134 : decode cX3_readSound 134 = .ok (.iconst (-1), 1) := by decide +kernel
theorem dX3_readSound_135 : decode cX3_readSound 135 = .ok (.if_icmp .ne 7, 3) := by decide +kernel
theorem dX3_readSound_138 : decode cX3_readSound 138 = .ok (.iconst (-1), 1) := by decide +kernel
theorem dX3_readSound_139 : decode cX3_readSound 139 = .ok (.goto 10, 3) := by decide +kernel
theorem dX3_readSound_142 : decode cX3_readSound 142 = .ok (.aload_n 0, 1) := by decide +kernel
theorem dX3_readSound_143 : decode cX3_readSound 143 = .ok (.iconst 0, 1) := by decide +kernel
theorem dX3_readSound_144 : decode cX3_readSound 144 = .ok (.bipush 23, 2) := by decide +kernel
theorem dX3_readSound_146 : decode cX3_readSound 146 = .ok (.invokevirtual 71, 3) := by decide +kernel
theorem dX3_readSound_149 : decode cX3_readSound 149 = .ok (.istore 10, 2) := by decide +kernel
theorem dX3_readSound_151 : decode cX3_readSound 151 = .ok (.iload 10, 2) := by decide +kernel
theorem dX3_readSound_153 : decode cX3_readSound 153 = .ok (.iconst (-1), 1) := by decide +kernel
theorem dX3_readSound_154 : decode cX3_readSound 154 = .ok (.if_icmp .ne 5, 3) := by decide +kernel
theorem dX3_readSound_157 : decode cX3_readSound 157 = .ok (.iconst 0, 1) := by decide +kernel
theorem dX3_readSound_158 : decode cX3_readSound 158 = .ok (.ireturn, 1) := by decide +kernel
theorem dX3_readSound_159 : decode cX3_readSound 159 = .ok (.aload_n 1, 1) := by decide +kernel
theorem dX3_readSound_160 : decode cX3_readSound 160 = .ok (.getfield 121, 3) := by decide +kernel
theorem dX3_readSound_163 : decode cX3_readSound 163 = .ok (.iload_n 2, 1) := by decide +kernel
theorem dX3_readSound_164 : decode cX3_readSound 164 = .ok (.lload_n 3, 1) := by decide +kernel
theorem dX3_readSound_165 : decode cX3_readSound 165 = .ok (.lastore, 1) := by decide +kernel
theorem dX3_readSound_166 : decode cX3_readSound 166 = .ok (.aload_n 1, 1) := by decide +kernel
theorem dX3_readSound_167 : decode cX3_readSound 167 = .ok (.getfield 124, 3) := by decide +kernel
theorem dX3_readSound_170 : decode cX3_readSound 170 = .ok (.iload_n 2, 1) := by decide +kernel
theorem dX3_readSound_171 : decode cX3_readSound 171 = .ok (.aaload, 1) := by decide +kernel
theorem dX3_readSound_172 : decode cX3_readSound 172 = .ok (.iconst 0, 1) := by decide +kernel
theorem dX3_readSound_173 : decode cX3_readSound 173 = .ok (.iload 5, 2) := by decide +kernel
theorem dX3_readSound_175 : decode cX3_readSound 175 = .ok (.iastore, 1) := by decide +kernel
theorem dX3_readSound_176 : decode cX3_readSound 176 = .ok (.aload_n 1, 1) := by decide +kernel
theorem dX3_readSound_177 : decode cX3_readSound 177 = .ok (.getfield 124, 3) := by decide +kernel
theorem dX3_readSound_180 : decode cX3_readSound 180 = .ok (.iload_n 2, 1) := by decide +kernel
theorem dX3_readSound_181 : decode cX3_readSound 181 = .ok (.aaload, 1) := by decide +kernel
theorem dX3_readSound_182 : decode cX3_readSound 182 = .ok (.iconst 1, 1) := by decide +kernel
theorem dX3_readSound_183 : decode cX3_readSound 183 = .ok (.iload 6, 2) := by decide +kernel
theorem dX3_readSound_185 : decode cX3_readSound 185 = .ok (.iastore, 1) := by decide +kernel
theorem dX3_readSound_186 : decode cX3_readSound 186 = .ok (.aload_n 1, 1) := by decide +kernel
theorem dX3_readSound_187 : decode cX3_readSound 187 = .ok (.getfield 124, 3) := by decide +kernel
theorem dX3_readSound_190 : decode cX3_readSound 190 = .ok (.iload_n 2, 1) := by decide +kernel
theorem dX3_readSound_191 : decode cX3_readSound 191 = .ok (.aaload, 1) := by decide +kernel
theorem dX3_readSound_192 : decode cX3_readSound 192 = .ok (.iconst 2, 1) := by decide +kernel
theorem dX3_readSound_193 : decode cX3_readSound 193 = .ok (.iload 7, 2) := by decide +kernel
theorem dX3_readSound_195 : decode cX3_readSound 195 = .ok (.iastore, 1) := by decide +kernel
theorem dX3_readSound_196 : decode cX3_readSound 196 = .ok (.aload_n 1, 1) := by decide +kernel
theorem dX3_readSound_197 : decode cX3_readSound 197 = .ok (.getfield 124, 3) := by decide +kernel
theorem dX3_readSound_200 : decode cX3_readSound 200 = .ok (.iload_n 2, 1) := by decide +kernel
theorem dX3_readSound_201 : decode cX3_readSound 201 = .ok (.aaload, 1) := by decide +kernel
theorem dX3_readSound_202 : decode cX3_readSound 202 = .ok (.iconst 3, 1) := by decide +kernel
theorem dX3_readSound_203 : decode cX3_readSound 203 = .ok (.iload 8, 2) := by decide +kernel
theorem dX3_readSound_205 : decode cX3_readSound 205 = .ok (.iastore, 1) := by decide +kernel
theorem dX3_readSound_206 : decode cX3_readSound 206 = .ok (.aload_n 1, 1) := by decide +kernel
theorem dX3_readSound_207 : decode cX3_readSound 207 = .ok (.getfield 124, 3) := by decide +kernel
theorem dX3_readSound_210 : decode cX3_readSound 210 = .ok (.iload_n 2, 1) := by decide +kernel
theorem dX3_readSound_211 : decode cX3_readSound 211 = .ok (.aaload, 1) := by decide +kernel
theorem dX3_readSound_212 : decode cX3_readSound 212 = .ok (.iconst 4, 1) := by decide +kernel
theorem dX3_readSound_213 : decode cX3_readSound 213 = .ok (.iload 9, 2) := by decide +kernel
theorem dX3_readSound_215 : decode cX3_readSound 215 = .ok (.iastore, 1) := by decide +kernel
theorem dX3_readSound_216 : decode cX3_readSound 216 = .ok (.aload_n 1, 1) := by decide +kernel
theorem dX3_readSound_217 : decode cX3_readSound 217 = .ok (.getfield 124, 3) := by decide +kernel
theorem dX3_readSound_220 : decode cX3_readSound 220 = .ok (.iload_n 2, 1) := by decide +kernel
theorem dX3_readSound_221 : decode cX3_readSound 221 = .ok (.aaload, 1) := by decide +kernel
theorem dX3_readSound_222 : decode cX3_readSound 222 = .ok (.iconst 5, 1) := by decide +kernel
theorem dX3_readSound_223 : decode cX3_readSound 223 = .ok (.iload 10, 2) := by decide +kernel
theorem dX3_readSound_225 : decode cX3_readSound 225 = .ok (.iastore, 1) := by decide +kernel
theorem dX3_readSound_226 : decode cX3_readSound 226 = .ok (.aload_n 1, 1) := by decide +kernel
theorem dX3_readSound_227 : decode cX3_readSound 227 = .ok (.iload_n 2, 1) := by decide +kernel
theorem dX3_readSound_228 : decode cX3_readSound 228 = .ok (.iconst 1, 1) := by decide +kernel
theorem dX3_readSound_229 : decode cX3_readSound 229 = .ok (.iadd, 1) := by decide +kernel
theorem dX3_readSound_230 : decode cX3_readSound 230 = .ok (.putfield 65, 3) := by decide +kernel
theorem dX3_readSound_233 : decode cX3_readSound 233 = .ok (.iconst 1, 1) := by decide +kernel
theorem dX3_readSound_234 : decode cX3_readSound 234 = .ok (.ireturn, 1) := by decide +kernel
theorem dX3_readWants_0 : decode cX3_readWants 0 = .ok (.aload_n 0, 1) := by decide +kernel
theorem dX3_readWants_1 : decode cX3_readWants 1 = .ok (.invokevirtual 68, 3) := by decide +kernel
theorem dX3_readWants_4 : decode cX3_readWants 4 = .ok (.aload_n 0, 1) := by decide +kernel
theorem dX3_readWants_5 : decode cX3_readWants 5 = .ok (.aload_n 1, 1) := by decide +kernel
theorem dX3_readWants_6 : decode cX3_readWants 6 = .ok (.getfield 94, 3) := by decide +kernel
theorem dX3_readWants_9 : decode cX3_readWants 9 = .ok (.aload_n 1, 1) := by decide +kernel
theorem dX3_readWants_10 : decode cX3_readWants 10 = .ok (.getfield 62, 3) := by decide +kernel
theorem dX3_readWants_13 : decode cX3_readWants 13 = .ok (.invokevirtual 105, 3) := by decide +kernel
theorem dX3_readWants_16 : decode cX3_readWants 16 = .ok (.istore_n 2, 1) := by decide +kernel
theorem dX3_readWants_17 : decode cX3_readWants 17 = .ok (.iload_n 2, 1) := by decide +kernel
theorem dX3_readWants_18 : decode cX3_readWants 18 = .ok (.iconst (-1), 1) := by decide +kernel
theorem dX3_readWants_19 : decode cX3_readWants 19 = .ok (.if_icmp .ne 5, 3) := by decide +kernel
theorem dX3_readWants_22 : decode cX3_readWants 22 = .ok (.iconst 0, 1) := by decide +kernel
theorem dX3_readWants_23 : decode cX3_readWants 23 = .ok (.ireturn, 1) := by decide +kernel
theorem dX3_readWants_24 : decode cX3_readWants 24 = .ok (.aload_n 1, 1) := by decide +kernel
theorem dX3_readWants_25 : decode cX3_readWants 25 = .ok (.getfield 98, 3) := by decide +kernel
theorem dX3_readWants_28 : decode cX3_readWants 28 = .ok (.iload_n 2, 1) := by decide +kernel
theorem dX3_readWants_29 : decode cX3_readWants 29 = .ok (.aaload, 1) := by decide +kernel
theorem dX3_readWants_30 : decode cX3_readWants 30 = .ok (.iconst 2, 1) := by decide +kernel
theorem dX3_readWants_31 : decode cX3_readWants 31 = .ok (.iaload, 1) := by decide +kernel
theorem dX3_readWants_32 : decode cX3_readWants 32 = .ok (.iconst (-1), 1) := by decide +kernel
theorem dX3_readWants_33 : decode cX3_readWants 33 = .ok (.if_icmp .eq 9, 3) := by decide +kernel
theorem dX3_readWants_36 : decode cX3_readWants 36 = .ok (.aload_n 0, 1) := by decide +kernel
theorem dX3_readWants_37 : decode cX3_readWants 37 = .ok (.iconst 3, 1) := by decide +kernel
theorem dX3_readWants_38 : decode cX3_readWants 38 = .ok (.invokevirtual 91, 3) := by decide +kernel
theorem dX3_readWants_41 : decode cX3_readWants 41 = .ok (.ireturn, 1) := by decide +kernel
theorem dX3_readWants_42 : decode cX3_readWants 42 = .ok (.aload_n 1, 1) := by decide +kernel
theorem dX3_readWants_43 : decode cX3_readWants 43 = .ok (.getfield 98, 3) := by decide +kernel
theorem dX3_readWants_46 : decode cX3_readWants 46 = .ok (.iload_n 2, 1) := by decide +kernel
theorem dX3_readWants_47 : decode cX3_readWants 47 = .ok (.aaload, 1) := by decide +kernel
theorem dX3_readWants_48 : decode cX3_readWants 48 = .ok (.iconst 2, 1) := by decide +kernel
theorem dX3_readWants_49 : decode cX3_readWants 49 = .ok (.aload_n 0, 1) := by decide +kernel
theorem dX3_readWants_50 : decode cX3_readWants 50 = .ok (.bipush 8, 2) := by decide +kernel
theorem dX3_readWants_52 : decode cX3_readWants 52 = .ok (.iconst 4, 1) := by decide +kernel
theorem dX3_readWants_53 : decode cX3_readWants 53 = .ok (.invokevirtual 118, 3) := by decide +kernel
theorem dX3_readWants_56 : decode cX3_readWants 56 = .ok (.iastore, 1) := by decide +kernel
theorem dX3_readWants_57 : decode cX3_readWants 57 = .ok (.aload_n 1, 1) := by decide +kernel
theorem dX3_readWants_58 : decode cX3_readWants 58 = .ok (.getfield 98, 3) := by decide +kernel
theorem dX3_readWants_61 : decode cX3_readWants 61 = .ok (.iload_n 2, 1) := by decide +kernel
theorem dX3_readWants_62 : decode cX3_readWants 62 = .ok (.aaload, 1) := by decide +kernel
theorem dX3_readWants_63 : decode cX3_readWants 63 = .ok (.iconst 2, 1) := by decide +kernel
theorem dX3_readWants_64 : decode cX3_readWants 64 = .ok (.iaload, 1) := by decide +kernel
theorem dX3_readWants_65 : decode cX3_readWants 65 = .ok (.iconst (-1), 1) := by decide +kernel
theorem dX3_readWants_66 : decode cX3_readWants 66 = .ok (.if_icmp .eq 7, 3) := by decide +kernel
theorem dX3_readWants_69 : decode cX3_readWants 69 = .ok (.iconst 1, 1) := by decide +kernel
theorem dX3_readWants_70 : decode cX3_readWants 70 = .ok (.goto 4, 3) := by decide +kernel
theorem dX3_readWants_73 : decode cX3_readWants 73 = .ok (.iconst 0, 1) := by decide +kernel
theorem dX3_readWants_74 : decode cX3_readWants 74 = .ok (.ireturn, 1) := by decide +kernel
theorem dX3_readShut_0 : decode cX3_readShut 0 = .ok (.aload_n 1, 1) := by decide +kernel
theorem dX3_readShut_1 : decode cX3_readShut 1 = .ok (.getfield 127, 3) := by decide +kernel
theorem dX3_readShut_4 : decode cX3_readShut 4 = .ok (.ifCond .eq 9, 3) := by decide +kernel
theorem dX3_readShut_7 : decode cX3_readShut 7 = .ok (.aload_n 0, 1) := by decide +kernel
theorem dX3_readShut_8 : decode cX3_readShut 8 = .ok (.iconst 3, 1) := by decide +kernel
theorem dX3_readShut_9 : decode cX3_readShut 9 = .ok (.invokevirtual 50, 3) := by decide +kernel
theorem dX3_readShut_12 : decode cX3_readShut 12 = .ok (.ireturn, 1) := by decide +kernel
theorem dX3_readShut_13 : decode cX3_readShut 13 = .ok (.aload_n 0, 1) := by decide +kernel
theorem dX3_readShut_14 : decode cX3_readShut 14 = .ok (.invokevirtual 68, 3) := by decide +kernel
theorem dX3_readShut_17 : decode cX3_readShut 17 = .ok (.aload_n 0, 1) := by decide +kernel
theorem dX3_readShut_18 : decode cX3_readShut 18 = .ok (.iconst 0, 1) := by decide +kernel
theorem dX3_readShut_19 : decode cX3_readShut 19 = .ok (.bipush 23, 2) := by decide +kernel
theorem dX3_readShut_21 : decode cX3_readShut 21 = .ok (.invokevirtual 71, 3) := by decide +kernel
theorem dX3_readShut_24 : decode cX3_readShut 24 = .ok (.istore_n 2, 1) := by decide +kernel
theorem dX3_readShut_25 : decode cX3_readShut 25 = .ok (.iload_n 2, 1) := by decide +kernel
theorem dX3_readShut_26 : decode cX3_readShut 26 = .ok (.iconst (-1), 1) := by decide +kernel
theorem dX3_readShut_27 : decode cX3_readShut 27 = .ok (.if_icmp .ne 7, 3) := by decide +kernel
theorem dX3_readShut_30 : decode cX3_readShut 30 = .ok (.iconst (-1), 1) := by decide +kernel
theorem dX3_readShut_31 : decode cX3_readShut 31 = .ok (.goto 10, 3) := by decide +kernel
theorem dX3_readShut_34 : decode cX3_readShut 34 = .ok (.aload_n 0, 1) := by decide +kernel
theorem dX3_readShut_35 : decode cX3_readShut 35 = .ok (.iconst 0, 1) := by decide +kernel
theorem dX3_readShut_36 : decode cX3_readShut 36 = .ok (.bipush 23, 2) := by decide +kernel
theorem dX3_readShut_38 : decode cX3_readShut 38 = .ok (.invokevirtual 71, 3) := by decide +kernel
theorem dX3_readShut_41 : decode cX3_readShut 41 = .ok (.istore_n 3, 1) := by decide +kernel
theorem dX3_readShut_42 : decode cX3_readShut 42 = .ok (.iload_n 3, 1) := by decide +kernel
theorem dX3_readShut_43 : decode cX3_readShut 43 = .ok (.iconst (-1), 1) := by decide +kernel
theorem dX3_readShut_44 : decode cX3_readShut 44 = .ok (.if_icmp .ne 5, 3) := by decide +kernel
theorem dX3_readShut_47 : decode cX3_readShut 47 = .ok (.iconst 0, 1) := by decide +kernel
theorem dX3_readShut_48 : decode cX3_readShut 48 = .ok (.ireturn, 1) := by decide +kernel
theorem dX3_readShut_49 : decode cX3_readShut 49 = .ok (.aload_n 1, 1) := by decide +kernel
theorem dX3_readShut_50 : decode cX3_readShut 50 = .ok (.iload_n 2, 1) := by decide +kernel
theorem dX3_readShut_51 : decode cX3_readShut 51 = .ok (.putfield 130, 3) := by decide +kernel
theorem dX3_readShut_54 : decode cX3_readShut 54 = .ok (.aload_n 1, 1) := by decide +kernel
theorem dX3_readShut_55 : decode cX3_readShut 55 = .ok (.iload_n 3, 1) := by decide +kernel
theorem dX3_readShut_56 : decode cX3_readShut 56 = .ok (.putfield 133, 3) := by decide +kernel
theorem dX3_readShut_59 : decode cX3_readShut 59 = .ok (.aload_n 1, 1) := by decide +kernel
theorem dX3_readShut_60 : decode cX3_readShut 60 = .ok (.iconst 1, 1) := by decide +kernel
theorem dX3_readShut_61 : decode cX3_readShut 61 = .ok (.putfield 127, 3) := by decide +kernel
theorem dX3_readShut_64 : decode cX3_readShut 64 = .ok (.iconst 1, 1) := by decide +kernel
theorem dX3_readShut_65 : decode cX3_readShut 65 = .ok (.ireturn, 1) := by decide +kernel
theorem dX4_init_0 : decode cX4_init 0 = .ok (.aload_n 0, 1) := by decide +kernel
theorem dX4_init_1 : decode cX4_init 1 = .ok (.invokespecial 1, 3) := by decide +kernel
theorem dX4_init_4 : decode cX4_init 4 = .ok (.aload_n 0, 1) := by decide +kernel
theorem dX4_init_5 : decode cX4_init 5 = .ok (.iconst 0, 1) := by decide +kernel
theorem dX4_init_6 : decode cX4_init 6 = .ok (.putfield 7, 3) := by decide +kernel
theorem dX4_init_9 : decode cX4_init 9 = .ok (.aload_n 0, 1) := by decide +kernel
theorem dX4_init_10 : decode cX4_init 10 = .ok (.new 13, 3) := by decide +kernel
theorem dX4_init_13 : decode cX4_init 13 = .ok (.dup, 1) := by decide +kernel
theorem dX4_init_14 : decode cX4_init 14 = .ok (.invokespecial 15, 3) := by decide +kernel
theorem dX4_init_17 : decode cX4_init 17 = .ok (.putfield 16, 3) := by decide +kernel
theorem dX4_init_20 : decode cX4_init 20 = .ok (.aload_n 0, 1) := by decide +kernel
theorem dX4_init_21 : decode cX4_init 21 = .ok (.new 20, 3) := by decide +kernel
theorem dX4_init_24 : decode cX4_init 24 = .ok (.dup, 1) := by decide +kernel
theorem dX4_init_25 : decode cX4_init 25 = .ok (.invokespecial 22, 3) := by decide +kernel
theorem dX4_init_28 : decode cX4_init 28 = .ok (.putfield 23, 3) := by decide +kernel
theorem dX4_init_31 : decode cX4_init 31 = .ok (.aload_n 0, 1) := by decide +kernel
theorem dX4_init_32 : decode cX4_init 32 = .ok (.new 27, 3) := by decide +kernel
theorem dX4_init_35 : decode cX4_init 35 = .ok (.dup, 1) := by decide +kernel
theorem dX4_init_36 : decode cX4_init 36 = .ok (.invokespecial 29, 3) := by decide +kernel
theorem dX4_init_39 : decode cX4_init 39 = .ok (.putfield 30, 3) := by decide +kernel
theorem dX4_init_42 : decode cX4_init 42 = .ok (.return_, 1) := by decide +kernel
theorem dX4_begin_0 : decode cX4_begin 0 = .ok (.aload_n 0, 1) := by decide +kernel
theorem dX4_begin_1 : decode cX4_begin 1 = .ok (.getfield 16, 3) := by decide +kernel
theorem dX4_begin_4 : decode cX4_begin 4 = .ok (.aload_n 1, 1) := by decide +kernel
theorem dX4_begin_5 : decode cX4_begin 5 = .ok (.invokevirtual 34, 3) := by decide +kernel
theorem dX4_begin_8 : decode cX4_begin 8 = .ok (.aload_n 0, 1) := by decide +kernel
theorem dX4_begin_9 : decode cX4_begin 9 = .ok (.getfield 23, 3) := by decide +kernel
theorem dX4_begin_12 : decode cX4_begin 12 = .ok (.aload_n 1, 1) := by decide +kernel
theorem dX4_begin_13 : decode cX4_begin 13 = .ok (.invokevirtual 38, 3) := by decide +kernel
theorem dX4_begin_16 : decode cX4_begin 16 = .ok (.aload_n 0, 1) := by decide +kernel
theorem dX4_begin_17 : decode cX4_begin 17 = .ok (.getfield 30, 3) := by decide +kernel
theorem dX4_begin_20 : decode cX4_begin 20 = .ok (.iconst 0, 1) := by decide +kernel
theorem dX4_begin_21 : decode cX4_begin 21 = .ok (.putfield 41, 3) := by decide +kernel
theorem dX4_begin_24 : decode cX4_begin 24 = .ok (.return_, 1) := by decide +kernel
theorem dX4_copyFrom_0 : decode cX4_copyFrom 0 = .ok (.aload_n 0, 1) := by decide +kernel
theorem dX4_copyFrom_1 : decode cX4_copyFrom 1 = .ok (.iconst 1, 1) := by decide +kernel
theorem dX4_copyFrom_2 : decode cX4_copyFrom 2 = .ok (.putfield 7, 3) := by decide +kernel
theorem dX4_copyFrom_5 : decode cX4_copyFrom 5 = .ok (.aload_n 0, 1) := by decide +kernel
theorem dX4_copyFrom_6 : decode cX4_copyFrom 6 = .ok (.getfield 16, 3) := by decide +kernel
theorem dX4_copyFrom_9 : decode cX4_copyFrom 9 = .ok (.aload_n 1, 1) := by decide +kernel
theorem dX4_copyFrom_10 : decode cX4_copyFrom 10 = .ok (.getfield 16, 3) := by decide +kernel
theorem dX4_copyFrom_13 : decode cX4_copyFrom 13 = .ok (.invokevirtual 34, 3) := by decide +kernel
theorem dX4_copyFrom_16 : decode cX4_copyFrom 16 = .ok (.aload_n 0, 1) := by decide +kernel
theorem dX4_copyFrom_17 : decode cX4_copyFrom 17 = .ok (.getfield 23, 3) := by decide +kernel
theorem dX4_copyFrom_20 : decode cX4_copyFrom 20 = .ok (.aload_n 1, 1) := by decide +kernel
theorem dX4_copyFrom_21 : decode cX4_copyFrom 21 = .ok (.getfield 23, 3) := by decide +kernel
theorem dX4_copyFrom_24 : decode cX4_copyFrom 24 = .ok (.invokevirtual 42, 3) := by decide +kernel
theorem dX4_copyFrom_27 : decode cX4_copyFrom 27 = .ok (.aload_n 0, 1) := by decide +kernel
theorem dX4_copyFrom_28 : decode cX4_copyFrom 28 = .ok (.getfield 30, 3) := by decide +kernel
theorem dX4_copyFrom_31 : decode cX4_copyFrom 31 = .ok (.aload_n 1, 1) := by decide +kernel
theorem dX4_copyFrom_32 : decode cX4_copyFrom 32 = .ok (.getfield 30, 3) := by decide +kernel
theorem dX4_copyFrom_35 : decode cX4_copyFrom 35 = .ok (.invokevirtual 45, 3) := by decide +kernel
theorem dX4_copyFrom_38 : decode cX4_copyFrom 38 = .ok (.return_, 1) := by decide +kernel
theorem dX5_init_0 : decode cX5_init 0 = .ok (.aload_n 0, 1) := by decide +kernel
theorem dX5_init_1 : decode cX5_init 1 = .ok (.invokespecial 5, 3) := by decide +kernel
theorem dX5_init_4 : decode cX5_init 4 = .ok (.aload_n 0, 1) := by decide +kernel
theorem dX5_init_5 : decode cX5_init 5 = .ok (.iconst 0, 1) := by decide +kernel
theorem dX5_init_6 : decode cX5_init 6 = .ok (.putfield 11, 3) := by decide +kernel
theorem dX5_init_9 : decode cX5_init 9 = .ok (.aload_n 0, 1) := by decide +kernel
theorem dX5_init_10 : decode cX5_init 10 = .ok (.iconst 0, 1) := by decide +kernel
theorem dX5_init_11 : decode cX5_init 11 = .ok (.putfield 15, 3) := by decide +kernel
theorem dX5_init_14 : decode cX5_init 14 = .ok (.aload_n 0, 1) := by decide +kernel
theorem dX5_init_15 : decode cX5_init 15 = .ok (.iconst 0, 1) := by decide +kernel
theorem dX5_init_16 : decode cX5_init 16 = .ok (.putfield 19, 3) := by decide +kernel
theorem dX5_init_19 : decode cX5_init 19 = .ok (.aload_n 0, 1) := by decide +kernel
theorem dX5_init_20 : decode cX5_init 20 = .ok (.bipush 40, 2) := by decide +kernel
theorem dX5_init_22 : decode cX5_init 22 = .ok (.newarray .int, 2) := by decide +kernel
theorem dX5_init_24 : decode cX5_init 24 = .ok (.putfield 22, 3) := by decide +kernel
theorem dX5_init_27 : decode cX5_init 27 = .ok (.aload_n 0, 1) := by decide +kernel
theorem dX5_init_28 : decode cX5_init 28 = .ok (.bipush 40, 2) := by decide +kernel
theorem dX5_init_30 : decode cX5_init 30 = .ok (.newarray .int, 2) := by decide +kernel
theorem dX5_init_32 : decode cX5_init 32 = .ok (.putfield 26, 3) := by decide +kernel
theorem dX5_init_35 : decode cX5_init 35 = .ok (.aload_n 0, 1) := by decide +kernel
theorem dX5_init_36 : decode cX5_init 36 = .ok (.bipush 40, 2) := by decide +kernel
theorem dX5_init_38 : decode cX5_init 38 = .ok (.newarray .int, 2) := by decide +kernel
theorem dX5_init_40 : decode cX5_init 40 = .ok (.putfield 29, 3) := by decide +kernel
theorem dX5_init_43 : decode cX5_init 43 = .ok (.aload_n 0, 1) := by decide +kernel
theorem dX5_init_44 : decode cX5_init 44 = .ok (.bipush 20, 2) := by decide +kernel
theorem dX5_init_46 : decode cX5_init 46 = .ok (.newarray .boolean, 2) := by decide +kernel
theorem dX5_init_48 : decode cX5_init 48 = .ok (.putfield 32, 3) := by decide +kernel
theorem dX5_init_51 : decode cX5_init 51 = .ok (.return_, 1) := by decide +kernel
theorem dX5_copyFrom_0 : decode cX5_copyFrom 0 = .ok (.aload_n 0, 1) := by decide +kernel
theorem dX5_copyFrom_1 : decode cX5_copyFrom 1 = .ok (.aload_n 1, 1) := by decide +kernel
theorem dX5_copyFrom_2 : decode cX5_copyFrom 2 = .ok (.getfield 11, 3) := by decide +kernel
theorem dX5_copyFrom_5 : decode cX5_copyFrom 5 = .ok (.putfield 11, 3) := by decide +kernel
theorem dX5_copyFrom_8 : decode cX5_copyFrom 8 = .ok (.aload_n 0, 1) := by decide +kernel
theorem dX5_copyFrom_9 : decode cX5_copyFrom 9 = .ok (.aload_n 1, 1) := by decide +kernel
theorem dX5_copyFrom_10 : decode cX5_copyFrom 10 = .ok (.getfield 19, 3) := by decide +kernel
theorem dX5_copyFrom_13 : decode cX5_copyFrom 13 = .ok (.putfield 19, 3) := by decide +kernel
theorem dX5_copyFrom_16 : decode cX5_copyFrom 16 = .ok (.aload_n 1, 1) := by decide +kernel
theorem dX5_copyFrom_17 : decode cX5_copyFrom 17 = .ok (.getfield 22, 3) := by decide +kernel
theorem dX5_copyFrom_20 : decode cX5_copyFrom 20 = .ok (.iconst 0, 1) := by decide +kernel
theorem dX5_copyFrom_21 : decode cX5_copyFrom 21 = .ok (.aload_n 0, 1) := by decide +kernel
theorem dX5_copyFrom_22 : decode cX5_copyFrom 22 = .ok (.getfield 22, 3) := by decide +kernel
theorem dX5_copyFrom_25 : decode cX5_copyFrom 25 = .ok (.iconst 0, 1) := by decide +kernel
theorem dX5_copyFrom_26 : decode cX5_copyFrom 26 = .ok (.bipush 40, 2) := by decide +kernel
theorem dX5_copyFrom_28 : decode cX5_copyFrom 28 = .ok (.invokestatic 36, 3) := by decide +kernel
theorem dX5_copyFrom_31 : decode cX5_copyFrom 31 = .ok (.aload_n 1, 1) := by decide +kernel
theorem dX5_copyFrom_32 : decode cX5_copyFrom 32 = .ok (.getfield 26, 3) := by decide +kernel
theorem dX5_copyFrom_35 : decode cX5_copyFrom 35 = .ok (.iconst 0, 1) := by decide +kernel
theorem dX5_copyFrom_36 : decode cX5_copyFrom 36 = .ok (.aload_n 0, 1) := by decide +kernel
theorem dX5_copyFrom_37 : decode cX5_copyFrom 37 = .ok (.getfield 26, 3) := by decide +kernel
theorem dX5_copyFrom_40 : decode cX5_copyFrom 40 = .ok (.iconst 0, 1) := by decide +kernel
theorem dX5_copyFrom_41 : decode cX5_copyFrom 41 = .ok (.bipush 40, 2) := by decide +kernel
theorem dX5_copyFrom_43 : decode cX5_copyFrom 43 = .ok (.invokestatic 36, 3) := by decide +kernel
theorem dX5_copyFrom_46 : decode cX5_copyFrom 46 = .ok (.aload_n 1, 1) := by decide +kernel
theorem dX5_copyFrom_47 : decode cX5_copyFrom 47 = .ok (.getfield 29, 3) := by decide +kernel
theorem dX5_copyFrom_50 : decode cX5_copyFrom 50 = .ok (.iconst 0, 1) := by decide +kernel
theorem dX5_copyFrom_51 : decode cX5_copyFrom 51 = .ok (.aload_n 0, 1) := by decide +kernel
theorem dX5_copyFrom_52 : decode cX5_copyFrom 52 = .ok (.getfield 29, 3) := by decide +kernel
theorem dX5_copyFrom_55 : decode cX5_copyFrom 55 = .ok (.iconst 0, 1) := by decide +kernel
theorem dX5_copyFrom_56 : decode cX5_copyFrom 56 = .ok (.bipush 40, 2) := by decide +kernel
theorem dX5_copyFrom_58 : decode cX5_copyFrom 58 = .ok (.invokestatic 36, 3) := by decide +kernel
theorem dX5_copyFrom_61 : decode cX5_copyFrom 61 = .ok (.return_, 1) := by decide +kernel
theorem dX5_readAll_0 : decode cX5_readAll 0 = .ok (.aload_n 0, 1) := by decide +kernel
theorem dX5_readAll_1 : decode cX5_readAll 1 = .ok (.iconst 0, 1) := by decide +kernel
theorem dX5_readAll_2 : decode cX5_readAll 2 = .ok (.putfield 15, 3) := by decide +kernel
theorem dX5_readAll_5 : decode cX5_readAll 5 = .ok (.aload_n 0, 1) := by decide +kernel
theorem dX5_readAll_6 : decode cX5_readAll 6 = .ok (.iconst 0, 1) := by decide +kernel
theorem dX5_readAll_7 : decode cX5_readAll 7 = .ok (.putfield 19, 3) := by decide +kernel
theorem dX5_readAll_10 : decode cX5_readAll 10 = .ok (.aload_n 0, 1) := by decide +kernel
theorem dX5_readAll_11 : decode cX5_readAll 11 = .ok (.aload_n 0, 1) := by decide +kernel
theorem dX5_readAll_12 : decode cX5_readAll 12 = .ok (.aload_n 1, 1) := by decide +kernel
theorem dX5_readAll_13 : decode cX5_readAll 13 = .ok (.aload_n 2, 1) := by decide +kernel
theorem dX5_readAll_14 : decode cX5_readAll 14 = .ok (.iconst 1, 1) := by decide +kernel
theorem dX5_readAll_15 : decode cX5_readAll 15 = .ok (.invokevirtual 42, 3) := by decide +kernel
theorem dX5_readAll_18 : decode cX5_readAll 18 = .ok (.ifCond .eq 22, 3) := by decide +kernel
theorem dX5_readAll_21 : decode cX5_readAll 21 = .ok (.aload_n 1, 1) := by decide +kernel
theorem dX5_readAll_22 : decode cX5_readAll 22 = .ok (.getfield 46, 3) := by decide +kernel
theorem dX5_readAll_25 : decode cX5_readAll 25 = .ok (.ifCond .eq 11, 3) := by decide +kernel
theorem dX5_readAll_28 : decode cX5_readAll 28 = .ok (.aload_n 1, 1) := by decide +kernel
theorem dX5_readAll_29 : decode cX5_readAll 29 = .ok (.iconst 1, 1) := by decide +kernel
theorem dX5_readAll_30 : decode cX5_readAll 30 = .ok (.invokevirtual 51, 3) := by decide +kernel
theorem dX5_readAll_33 : decode cX5_readAll 33 = .ok (.ifCond .eq 7, 3) := by decide +kernel
theorem dX5_readAll_36 : decode cX5_readAll 36 = .ok (.iconst 1, 1) := by decide +kernel
theorem dX5_readAll_37 : decode cX5_readAll 37 = .ok (.goto 4, 3) := by decide +kernel
theorem dX5_readAll_40 : decode cX5_readAll 40 = .ok (.iconst 0, 1) := by decide +kernel
theorem dX5_readAll_41 : decode cX5_readAll 41 = .ok (.putfield 11, 3) := by decide +kernel
theorem dX5_readAll_44 : decode cX5_readAll 44 = .ok (.aload_n 0, 1) := by decide +kernel
theorem dX5_readAll_45 : decode cX5_readAll 45 = .ok (.getfield 11, 3) := by decide +kernel
theorem dX5_readAll_48 : decode cX5_readAll 48 = .ok (.ireturn, 1) := by decide +kernel
theorem dX5_readCond_0 : decode cX5_readCond 0 = .ok (.aload_n 0, 1) := by decide +kernel
theorem dX5_readCond_1 : decode cX5_readCond 1 = .ok (.aload_n 1, 1) := by decide +kernel
theorem dX5_readCond_2 : decode cX5_readCond 2 = .ok (.aload_n 2, 1) := by decide +kernel
theorem dX5_readCond_3 : decode cX5_readCond 3 = .ok (.iload_n 3, 1) := by decide +kernel
theorem dX5_readCond_4 : decode cX5_readCond 4 = .ok (.invokevirtual 55, 3) := by decide +kernel
theorem dX5_readCond_7 : decode cX5_readCond 7 = .ok (.ifCond .ne 5, 3) := by decide +kernel
theorem dX5_readCond_10 : decode cX5_readCond 10 = .ok (.iconst 0, 1) := by decide +kernel
theorem dX5_readCond_11 : decode cX5_readCond 11 = .ok (.ireturn, 1) := by decide +kernel
theorem dX5_readCond_12 : decode cX5_readCond 12 = .ok (.iconst 0, 1) := by decide +kernel
theorem dX5_readCond_13 : decode cX5_readCond 13 = .ok (.istore 4, 2) := by decide +kernel
theorem dX5_readCond_15 : decode cX5_readCond 15 = .ok (.iload 4, 2) := by decide +kernel
theorem dX5_readCond_17 : decode cX5_readCond 17 = .ok (.bipush 20, 2) := by decide +kernel
theorem dX5_readCond_19 : decode cX5_readCond 19 = .ok (.if_icmp .ge 42, 3) := by decide +kernel
theorem dX5_readCond_22 : decode cX5_readCond 22 = .ok (.aload_n 1, 1) := by decide +kernel
theorem dX5_readCond_23 : decode cX5_readCond 23 = .ok (.getfield 58, 3) := by decide +kernel
theorem dX5_readCond_26 : decode cX5_readCond 26 = .ok (.bipush 21, 2) := by decide +kernel
theorem dX5_readCond_28 : decode cX5_readCond 28 = .ok (.if_icmp .ne 33, 3) := by decide +kernel
theorem dX5_readCond_31 : decode cX5_readCond 31 = .ok (.aload_n 1, 1) := by decide +kernel
theorem dX5_readCond_32 : decode cX5_readCond 32 = .ok (.invokevirtual 61, 3) := by decide +kernel
theorem dX5_readCond_35 : decode cX5_readCond 35 = .ok (.aload_n 0, 1) := by decide +kernel
theorem dX5_readCond_36 : decode cX5_readCond 36 = .ok (.aload_n 1, 1) := by decide +kernel
theorem dX5_readCond_37 : decode cX5_readCond 37 = .ok (.aload_n 2, 1) := by decide +kernel
theorem dX5_readCond_38 : decode cX5_readCond 38 = .ok (.iload_n 3, 1) := by decide +kernel
theorem dX5_readCond_39 : decode cX5_readCond 39 = .ok (.invokevirtual 55, 3) := by decide +kernel
theorem dX5_readCond_42 : decode cX5_readCond 42 = .ok (.ifCond .ne 5, 3) := by decide +kernel
theorem dX5_readCond_45 : decode cX5_readCond 45 = .ok (.iconst 0, 1) := by decide +kernel
theorem dX5_readCond_46 : decode cX5_readCond 46 = .ok (.ireturn, 1) := by decide +kernel
theorem dX5_readCond_47 : decode cX5_readCond 47 = .ok (.aload_n 0, 1) := by decide +kernel
theorem dX5_readCond_48 : decode cX5_readCond 48 = .ok (.bipush 21, 2) := by decide +kernel
theorem dX5_readCond_50 : decode cX5_readCond 50 = .ok (.iconst 0, 1) := by decide +kernel
theorem dX5_readCond_51 : decode cX5_readCond 51 = .ok (.iconst 0, 1) := by decide +kernel
theorem dX5_readCond_52 : decode cX5_readCond 52 = .ok (.invokevirtual 64, 3) := by decide +kernel
theorem dX5_readCond_55 : decode cX5_readCond 55 = .ok (.iinc 4 1, 3) := by decide +kernel
theorem dX5_readCond_58 : decode cX5_readCond 58 = .ok (.goto (-43), 3) := by decide +kernel
theorem dX5_readCond_61 : decode cX5_readCond 61 = .ok (.iconst 1, 1) := by decide +kernel
theorem dX5_readCond_62 : decode cX5_readCond 62 = .ok (.ireturn, 1) := by decide +kernel
theorem dX5_readAlls_0 : decode cX5_readAlls 0 = .ok (.aload_n 0, 1) := by decide +kernel
theorem dX5_readAlls_1 : decode cX5_readAlls 1 = .ok (.aload_n 1, 1) := by decide +kernel
theorem dX5_readAlls_2 : decode cX5_readAlls 2 = .ok (.aload_n 2, 1) := by decide +kernel
theorem dX5_readAlls_3 : decode cX5_readAlls 3 = .ok (.iload_n 3, 1) := by decide +kernel
theorem dX5_readAlls_4 : decode cX5_readAlls 4 = .ok (.invokevirtual 68, 3) := by decide +kernel
theorem dX5_readAlls_7 : decode cX5_readAlls 7 = .ok (.ifCond .ne 5, 3) := by decide +kernel
theorem dX5_readAlls_10 : decode cX5_readAlls 10 = .ok (.iconst 0, 1) := by decide +kernel
theorem dX5_readAlls_11 : decode cX5_readAlls 11 = .ok (.ireturn, 1) := by decide +kernel
theorem dX5_readAlls_12 : decode cX5_readAlls 12 = .ok (.iconst 0, 1) := by decide +kernel
theorem dX5_readAlls_13 : decode cX5_readAlls 13 = .ok (.istore 4, 2) := by decide +kernel
theorem dX5_readAlls_15 : decode cX5_readAlls 15 = .ok (.iload 4, 2) := by decide +kernel
theorem dX5_readAlls_17 : decode cX5_readAlls 17 = .ok (.bipush 20, 2) := by decide +kernel
theorem dX5_readAlls_19 : decode cX5_readAlls 19 = .ok (.if_icmp .ge 42, 3) := by decide +kernel
theorem dX5_readAlls_22 : decode cX5_readAlls 22 = .ok (.aload_n 1, 1) := by decide +kernel
theorem dX5_readAlls_23 : decode cX5_readAlls 23 = .ok (.getfield 58, 3) := by decide +kernel
theorem dX5_readAlls_26 : decode cX5_readAlls 26 = .ok (.bipush 22, 2) := by decide +kernel
theorem dX5_readAlls_28 : decode cX5_readAlls 28 = .ok (.if_icmp .ne 33, 3) := by decide +kernel
theorem dX5_readAlls_31 : decode cX5_readAlls 31 = .ok (.aload_n 1, 1) := by decide +kernel
theorem dX5_readAlls_32 : decode cX5_readAlls 32 = .ok (.invokevirtual 61, 3) := by decide +kernel
theorem dX5_readAlls_35 : decode cX5_readAlls 35 = .ok (.aload_n 0, 1) := by decide +kernel
theorem dX5_readAlls_36 : decode cX5_readAlls 36 = .ok (.aload_n 1, 1) := by decide +kernel
theorem dX5_readAlls_37 : decode cX5_readAlls 37 = .ok (.aload_n 2, 1) := by decide +kernel
theorem dX5_readAlls_38 : decode cX5_readAlls 38 = .ok (.iload_n 3, 1) := by decide +kernel
theorem dX5_readAlls_39 : decode cX5_readAlls 39 = .ok (.invokevirtual 68, 3) := by decide +kernel
theorem dX5_readAlls_42 : decode cX5_readAlls 42 = .ok (.ifCond .ne 5, 3) := by decide +kernel
theorem dX5_readAlls_45 : decode cX5_readAlls 45 = .ok (.iconst 0, 1) := by decide +kernel
theorem dX5_readAlls_46 : decode cX5_readAlls 46 = .ok (.ireturn, 1) := by decide +kernel
theorem dX5_readAlls_47 : decode cX5_readAlls 47 = .ok (.aload_n 0, 1) := by decide +kernel
theorem dX5_readAlls_48 : decode cX5_readAlls 48 = .ok (.bipush 22, 2) := by decide +kernel
theorem dX5_readAlls_50 : decode cX5_readAlls 50 = .ok (.iconst 0, 1) := by decide +kernel
theorem dX5_readAlls_51 : decode cX5_readAlls 51 = .ok (.iconst 0, 1) := by decide +kernel
theorem dX5_readAlls_52 : decode cX5_readAlls 52 = .ok (.invokevirtual 64, 3) := by decide +kernel
theorem dX5_readAlls_55 : decode cX5_readAlls 55 = .ok (.iinc 4 1, 3) := by decide +kernel
theorem dX5_readAlls_58 : decode cX5_readAlls 58 = .ok (.goto (-43), 3) := by decide +kernel
theorem dX5_readAlls_61 : decode cX5_readAlls 61 = .ok (.iconst 1, 1) := by decide +kernel
theorem dX5_readAlls_62 : decode cX5_readAlls 62 = .ok (.ireturn, 1) := by decide +kernel
theorem dX5_readOne_0 : decode cX5_readOne 0 = .ok (.aload_n 1, 1) := by decide +kernel
theorem dX5_readOne_1 : decode cX5_readOne 1 = .ok (.bipush 40, 2) := by decide +kernel
theorem dX5_readOne_3 : decode cX5_readOne 3 = .ok (.invokevirtual 71, 3) := by decide +kernel
theorem dX5_readOne_6 : decode cX5_readOne 6 = .ok (.istore 4, 2) := by decide +kernel
theorem dX5_readOne_8 : decode cX5_readOne 8 = .ok (.aload_n 1, 1) := by decide +kernel
theorem dX5_readOne_9 : decode cX5_readOne 9 = .ok (.getfield 58, 3) := by decide +kernel
theorem dX5_readOne_12 : decode cX5_readOne 12 = .ok (.istore 5, 2) := by decide +kernel
theorem dX5_readOne_14 : decode cX5_readOne 14 = .ok (.iload 4, 2) := by decide +kernel
theorem dX5_readOne_16 : decode cX5_readOne 16 = .ok (.ifCond .ne 23, 3) := by decide +kernel
theorem dX5_readOne_19 : decode cX5_readOne 19 = .ok (.iload 5, 2) := by decide +kernel
theorem dX5_readOne_21 : decode cX5_readOne 21 = .ok (.bipush 23, 2) := by decide +kernel
theorem dX5_readOne_23 : decode cX5_readOne 23 = .ok (.if_icmp .lt 10, 3) := by decide +kernel
theorem dX5_readOne_26 : decode cX5_readOne 26 = .ok (.iload 5, 2) := by decide +kernel
theorem dX5_readOne_28 : decode cX5_readOne 28 = .ok (.bipush 31, 2) := by decide +kernel
theorem dX5_readOne_30 : decode cX5_readOne 30 = .ok (.if_icmp .le 9, 3) := by decide +kernel
theorem dX5_readOne_33 : decode cX5_readOne 33 = .ok (.aload_n 1, 1) := by decide +kernel
theorem dX5_readOne_34 : decode cX5_readOne 34 = .ok (.iconst 1, 1) := by decide +kernel
theorem dX5_readOne_35 : decode cX5_readOne 35 = .ok (.invokevirtual 51, 3) := by decide +kernel
theorem dX5_readOne_38 : decode cX5_readOne 38 = .ok (.ireturn, 1) := by decide +kernel
theorem dX5_readOne_39 : decode cX5_readOne 39 = .ok (.aload_n 0, 1) := by decide +kernel
theorem dX5_readOne_40 : decode cX5_readOne 40 = .ok (.getfield 15, 3) := by decide +kernel
theorem dX5_readOne_43 : decode cX5_readOne 43 = .ok (.bipush 20, 2) := by decide +kernel
theorem dX5_readOne_45 : decode cX5_readOne 45 = .ok (.if_icmp .ge 9, 3) := by decide +kernel
theorem dX5_readOne_48 : decode cX5_readOne 48 = .ok (.iload_n 3, 1) := by decide +kernel
theorem dX5_readOne_49 : decode cX5_readOne 49 = .ok (.bipush 8, 2) := by decide +kernel
theorem dX5_readOne_51 : decode cX5_readOne 51 = .ok (.if_icmp .le 9, 3) := by decide +kernel
theorem dX5_readOne_54 : decode cX5_readOne 54 = .ok (.aload_n 1, 1) := by decide +kernel
theorem dX5_readOne_55 : decode cX5_readOne 55 = .ok (.iconst 4, 1) := by decide +kernel
theorem dX5_readOne_56 : decode cX5_readOne 56 = .ok (.invokevirtual 51, 3) := by decide +kernel
theorem dX5_readOne_59 : decode cX5_readOne 59 = .ok (.ireturn, 1) := by decide +kernel
theorem dX5_readOne_60 : decode cX5_readOne 60 = .ok (.aload_n 0, 1) := by decide +kernel
theorem dX5_readOne_61 : decode cX5_readOne 61 = .ok (.dup, 1) := by decide +kernel
theorem dX5_readOne_62 : decode cX5_readOne 62 = .ok (.getfield 15, 3) := by decide +kernel
theorem dX5_readOne_65 : decode cX5_readOne 65 = .ok (.iconst 1, 1) := by decide +kernel
theorem dX5_readOne_66 : decode cX5_readOne 66 = .ok (.iadd, 1) := by decide +kernel
theorem dX5_readOne_67 : decode cX5_readOne 67 = .ok (.putfield 15, 3) := by decide +kernel
theorem dX5_readOne_70 : decode cX5_readOne 70 = .ok (.aload_n 1, 1) := by decide +kernel
theorem dX5_readOne_71 : decode cX5_readOne 71 = .ok (.invokevirtual 61, 3) := by decide +kernel
theorem dX5_readOne_74 : decode cX5_readOne 74 = .ok (.iload 4, 2) := by decide +kernel
theorem dX5_readOne_76 : decode cX5_readOne 76 = .ok (.ifCond .eq 30, 3) := by decide +kernel
theorem dX5_readOne_79 : decode cX5_readOne 79 = .ok (.aload_n 0, 1) := by decide +kernel
theorem dX5_readOne_80 : decode cX5_readOne 80 = .ok (.aload_n 1, 1) := by decide +kernel
theorem dX5_readOne_81 : decode cX5_readOne 81 = .ok (.aload_n 2, 1) := by decide +kernel
theorem dX5_readOne_82 : decode cX5_readOne 82 = .ok (.iload_n 3, 1) := by decide +kernel
theorem dX5_readOne_83 : decode cX5_readOne 83 = .ok (.iconst 1, 1) := by decide +kernel
theorem dX5_readOne_84 : decode cX5_readOne 84 = .ok (.iadd, 1) := by decide +kernel
theorem dX5_readOne_85 : decode cX5_readOne 85 = .ok (.invokevirtual 42, 3) := by decide +kernel
theorem dX5_readOne_88 : decode cX5_readOne 88 = .ok (.ifCond .eq 16, 3) := by decide +kernel
theorem dX5_readOne_91 : decode cX5_readOne 91 = .ok (.aload_n 1, 1) := by decide +kernel
theorem dX5_readOne_92 : decode cX5_readOne 92 = .ok (.bipush 41, 2) := by decide +kernel
theorem dX5_readOne_94 : decode cX5_readOne 94 = .ok (.invokevirtual 75, 3) := by decide +kernel
theorem dX5_readOne_97 : decode cX5_readOne 97 = .ok (.ifCond .eq 7, 3) := by decide +kernel
theorem dX5_readOne_100 : decode cX5_readOne 100 = .ok (.iconst 1, 1) := by decide +kernel
theorem dX5_readOne_101 : decode cX5_readOne 101 = .ok (.goto 4, 3) := by decide +kernel
theorem dX5_readOne_104 : decode cX5_readOne 104 = .ok (.iconst 0, 1) := by decide +kernel
theorem dX5_readOne_105 : decode cX5_readOne 105 = .ok (.ireturn, 1) := by decide +kernel
theorem dX5_readOne_106 : decode cX5_readOne 106 = .ok (.iload 5, 2) := by decide +kernel
theorem dX5_readOne_108 : decode cX5_readOne 108 = .ok (.bipush 23, 2) := by decide +kernel
theorem dX5_readOne_110 : decode cX5_readOne 110 = .ok (.if_icmp .ne 27, 3) := by decide +kernel
theorem dX5_readOne_113 : decode cX5_readOne 113 = .ok (.aload_n 0, 1) := by decide +kernel
theorem dX5_readOne_114 : decode cX5_readOne 114 = .ok (.aload_n 1, 1) := by decide +kernel
theorem dX5_readOne_115 : decode cX5_readOne 115 = .ok (.aload_n 2, 1) := by decide +kernel
theorem dX5_readOne_116 : decode cX5_readOne 116 = .ok (.iload_n 3, 1) := by decide +kernel
theorem dX5_readOne_117 : decode cX5_readOne 117 = .ok (.iconst 1, 1) := by decide +kernel
theorem dX5_readOne_118 : decode cX5_readOne 118 = .ok (.iadd, 1) := by decide +kernel
theorem dX5_readOne_119 : decode cX5_readOne 119 = .ok (.invokevirtual 68, 3) := by decide +kernel
theorem dX5_readOne_122 : decode cX5_readOne 122 = .ok (.ifCond .ne 5, 3) := by decide +kernel
theorem dX5_readOne_125 : decode cX5_readOne 125 = .ok (.iconst 0, 1) := by decide +kernel
theorem dX5_readOne_126 : decode cX5_readOne 126 = .ok (.ireturn, 1) := by decide +kernel
theorem dX5_readOne_127 : decode cX5_readOne 127 = .ok (.aload_n 0, 1) := by decide +kernel
theorem dX5_readOne_128 : decode cX5_readOne 128 = .ok (.bipush 23, 2) := by decide +kernel
theorem dX5_readOne_130 : decode cX5_readOne 130 = .ok (.iconst 0, 1) := by decide +kernel
theorem dX5_readOne_131 : decode cX5_readOne 131 = .ok (.iconst 0, 1) := by decide +kernel
theorem dX5_readOne_132 : decode cX5_readOne 132 = .ok (.invokevirtual 64, 3) := by decide +kernel
theorem dX5_readOne_135 : decode cX5_readOne 135 = .ok (.iconst 1, 1) := by decide +kernel
theorem dX5_readOne_136 : decode cX5_readOne 136 = .ok (.ireturn, 1) := by decide +kernel
theorem dX5_readOne_137 : decode cX5_readOne 137 = .ok (.aload_n 0, 1) := by decide +kernel
theorem dX5_readOne_138 : decode cX5_readOne 138 = .ok (.aload_n 1, 1) := by decide +kernel
theorem dX5_readOne_139 : decode cX5_readOne 139 = .ok (.aload_n 2, 1) := by decide +kernel
theorem dX5_readOne_140 : decode cX5_readOne 140 = .ok (.iload 5, 2) := by decide +kernel
theorem dX5_readOne_142 : decode cX5_readOne 142 = .ok (.invokevirtual 78, 3) := by decide +kernel
theorem dX5_readOne_145 : decode cX5_readOne 145 = .ok (.ireturn, 1) := by decide +kernel
theorem dX5_readPlain_0 : decode cX5_readPlain 0 = .ok (.iconst 0, 1) := by decide +kernel
theorem dX5_readPlain_1 : decode cX5_readPlain 1 = .ok (.istore 4, 2) := by decide +kernel
theorem dX5_readPlain_3 : decode cX5_readPlain 3 = .ok (.iconst 0, 1) := by decide +kernel
theorem dX5_readPlain_4 : decode cX5_readPlain 4 = .ok (.istore 5, 2) := by decide +kernel
theorem dX5_readPlain_6 : decode cX5_readPlain 6 = .ok (.iload_n 3, 1) := by decide +kernel
theorem dX5_readPlain_7 : decode cX5_readPlain 7 = .ok (.tableswitch 77 24 28 #[33, 33, 36, 48, 65], 33) := by decide +kernel
theorem dX5_readPlain_40 : decode cX5_readPlain 40 = .ok (.goto 97, 3) := by decide +kernel
theorem dX5_readPlain_43 : decode cX5_readPlain 43 = .ok (.aload_n 1, 1) := by decide +kernel
theorem dX5_readPlain_44 : decode cX5_readPlain 44 = .ok (.bipush 12, 2) := by decide +kernel
theorem dX5_readPlain_46 : decode cX5_readPlain 46 = .ok (.iconst 4, 1) := by decide +kernel
theorem dX5_readPlain_47 : decode cX5_readPlain 47 = .ok (.invokevirtual 81, 3) := by decide +kernel
theorem dX5_readPlain_50 : decode cX5_readPlain 50 = .ok (.istore 5, 2) := by decide +kernel
theorem dX5_readPlain_52 : decode cX5_readPlain 52 = .ok (.goto 85, 3) := by decide +kernel
theorem dX5_readPlain_55 : decode cX5_readPlain 55 = .ok (.aload_n 1, 1) := by decide +kernel
theorem dX5_readPlain_56 : decode cX5_readPlain 56 = .ok (.aload_n 2, 1) := by decide +kernel
theorem dX5_readPlain_57 : decode cX5_readPlain 57 = .ok (.getfield 85, 3) := by decide +kernel
theorem dX5_readPlain_60 : decode cX5_readPlain 60 = .ok (.aload_n 2, 1) := by decide +kernel
theorem dX5_readPlain_61 : decode cX5_readPlain 61 = .ok (.getfield 91, 3) := by decide +kernel
theorem dX5_readPlain_64 : decode cX5_readPlain 64 = .ok (.invokevirtual 94, 3) := by decide +kernel
theorem dX5_readPlain_67 : decode cX5_readPlain 67 = .ok (.istore 5, 2) := by decide +kernel
theorem dX5_readPlain_69 : decode cX5_readPlain 69 = .ok (.goto 68, 3) := by decide +kernel
theorem dX5_readPlain_72 : decode cX5_readPlain 72 = .ok (.aload_n 1, 1) := by decide +kernel
theorem dX5_readPlain_73 : decode cX5_readPlain 73 = .ok (.bipush 8, 2) := by decide +kernel
theorem dX5_readPlain_75 : decode cX5_readPlain 75 = .ok (.iconst 4, 1) := by decide +kernel
theorem dX5_readPlain_76 : decode cX5_readPlain 76 = .ok (.invokevirtual 81, 3) := by decide +kernel
theorem dX5_readPlain_79 : decode cX5_readPlain 79 = .ok (.istore 5, 2) := by decide +kernel
theorem dX5_readPlain_81 : decode cX5_readPlain 81 = .ok (.goto 56, 3) := by decide +kernel
theorem dX5_readPlain_84 : decode cX5_readPlain 84 = .ok (.aload_n 1, 1) := by decide +kernel
theorem dX5_readPlain_85 : decode cX5_readPlain 85 = .ok (.bipush 60, 2) := by decide +kernel
theorem dX5_readPlain_87 : decode cX5_readPlain 87 = .ok (.invokevirtual 71, 3) := by decide +kernel
theorem dX5_readPlain_90 : decode cX5_readPlain 90 = .ok (.ifCond .ne 27, 3) := by decide +kernel
theorem dX5_readPlain_93 : decode cX5_readPlain 93 = .ok (.aload_n 1, 1) := by decide +kernel
theorem dX5_readPlain_94 : decode cX5_readPlain 94 = .ok (.bipush 61, 2) := by decide +kernel
theorem dX5_readPlain_96 : decode cX5_readPlain 96 = .ok (.invokevirtual 71, 3) := by decide +kernel
theorem dX5_readPlain_99 : decode cX5_readPlain 99 = .ok (.ifCond .ne 18, 3) := by decide +kernel
theorem dX5_readPlain_102 : decode cX5_readPlain 102 = .ok (.aload_n 1, 1) := by decide +kernel
theorem dX5_readPlain_103 : decode cX5_readPlain 103 = .ok (.bipush 62, 2) := by decide +kernel
theorem dX5_readPlain_105 : decode cX5_readPlain 105 = .ok (.invokevirtual 71, 3) := by decide +kernel
theorem dX5_readPlain_108 : decode cX5_readPlain 108 = .ok (.ifCond .ne 9, 3) := by decide +kernel
theorem dX5_readPlain_111 : decode cX5_readPlain 111 = .ok (.aload_n 1, 1) := by decide +kernel
theorem dX5_readPlain_112 : decode cX5_readPlain 112 = .ok (.iconst 1, 1) := by decide +kernel
theorem dX5_readPlain_113 : decode cX5_readPlain 113 = .ok (.invokevirtual 51, 3) := by decide +kernel
theorem dX5_readPlain_116 : decode cX5_readPlain 116 = .ok (.ireturn, 1) := by decide +kernel
theorem dX5_readPlain_117 : decode cX5_readPlain 117 = .ok (.aload_n 1, 1) := by decide +kernel
theorem dX5_readPlain_118 : decode cX5_readPlain 118 = .ok (.getfield 98, 3) := by decide +kernel
theorem dX5_readPlain_121 : decode cX5_readPlain 121 = .ok (.istore 4, 2) := by decide +kernel
theorem dX5_readPlain_123 : decode cX5_readPlain 123 = .ok (.aload_n 1, 1) := by decide +kernel
theorem dX5_readPlain_124 : decode cX5_readPlain 124 = .ok (.invokevirtual 61, 3) := by decide +kernel
theorem dX5_readPlain_127 : decode cX5_readPlain 127 = .ok (.aload_n 1, 1) := by decide +kernel
theorem dX5_readPlain_128 : decode cX5_readPlain 128 = .ok (.iconst 0, 1) := by decide +kernel
theorem dX5_readPlain_129 : decode cX5_readPlain 129 = .ok (.sipush 999, 3) := by decide +kernel
theorem dX5_readPlain_132 : decode cX5_readPlain 132 = .ok (.invokevirtual 101, 3) := by decide +kernel
theorem dX5_readPlain_135 : decode cX5_readPlain 135 = .ok (.istore 5, 2) := by decide +kernel
theorem dX5_readPlain_137 : decode cX5_readPlain 137 = .ok (.aload_n 0, 1) := by decide +kernel
theorem dX5_readPlain_138 : decode cX5_readPlain 138 = .ok (.iload_n 3, 1) := by decide +kernel
theorem dX5_readPlain_139 : decode cX5_readPlain 139 = .ok (.iload 4, 2) := by decide +kernel
theorem dX5_readPlain_141 : decode cX5_readPlain 141 = .ok (.iload 5, 2) := by decide +kernel
theorem dX5_readPlain_143 : decode cX5_readPlain 143 = .ok (.invokevirtual 64, 3) := by decide +kernel
theorem dX5_readPlain_146 : decode cX5_readPlain 146 = .ok (.iload 5, 2) := by decide +kernel
theorem dX5_readPlain_148 : decode cX5_readPlain 148 = .ok (.iconst (-1), 1) := by decide +kernel
theorem dX5_readPlain_149 : decode cX5_readPlain 149 = .ok (.if_icmp .eq 7, 3) := by decide +kernel
theorem dX5_readPlain_152 : decode cX5_readPlain 152 = .ok (.iconst 1, 1) := by decide +kernel
theorem dX5_readPlain_153 : decode cX5_readPlain 153 = .ok (.goto 4, 3) := by decide +kernel
theorem dX5_readPlain_156 : decode cX5_readPlain 156 = .ok (.iconst 0, 1) := by decide +kernel
theorem dX5_readPlain_157 : decode cX5_readPlain 157 = .ok (.ireturn, 1) := by decide +kernel
theorem dX5_addStep_0 : decode cX5_addStep 0 = .ok (.aload_n 0, 1) := by decide +kernel
theorem dX5_addStep_1 : decode cX5_addStep 1 = .ok (.getfield 19, 3) := by decide +kernel
theorem dX5_addStep_4 : decode cX5_addStep 4 = .ok (.bipush 40, 2) := by decide +kernel
theorem dX5_addStep_6 : decode cX5_addStep 6 = .ok (.if_icmp .ge 43, 3) := by decide +kernel
theorem dX5_addStep_9 : decode cX5_addStep 9 = .ok (.aload_n 0, 1) := by decide +kernel
theorem dX5_addStep_10 : decode cX5_addStep 10 = .ok (.getfield 22, 3) := by decide +kernel
theorem dX5_addStep_13 : decode cX5_addStep 13 = .ok (.aload_n 0, 1) := by decide +kernel
theorem dX5_addStep_14 : decode cX5_addStep 14 = .ok (.getfield 19, 3) := by decide +kernel
theorem dX5_addStep_17 : decode cX5_addStep 17 = .ok (.iload_n 1, 1) := by decide +kernel
theorem dX5_addStep_18 : decode cX5_addStep 18 = .ok (.iastore, 1) := by decide +kernel
theorem dX5_addStep_19 : decode cX5_addStep 19 = .ok (.aload_n 0, 1) := by decide +kernel
theorem dX5_addStep_20 : decode cX5_addStep 20 = .ok (.getfield 26, 3) := by decide +kernel
theorem dX5_addStep_23 : decode cX5_addStep 23 = .ok (.aload_n 0, 1) := by decide +kernel
theorem dX5_addStep_24 : decode cX5_addStep 24 = .ok (.getfield 19, 3) := by decide +kernel
theorem dX5_addStep_27 : decode cX5_addStep 27 = .ok (.iload_n 2, 1) := by decide +kernel
theorem dX5_addStep_28 : decode cX5_addStep 28 = .ok (.iastore, 1) := by decide +kernel
theorem dX5_addStep_29 : decode cX5_addStep 29 = .ok (.aload_n 0, 1) := by decide +kernel
theorem dX5_addStep_30 : decode cX5_addStep 30 = .ok (.getfield 29, 3) := by decide +kernel
theorem dX5_addStep_33 : decode cX5_addStep 33 = .ok (.aload_n 0, 1) := by decide +kernel
theorem dX5_addStep_34 : decode cX5_addStep 34 = .ok (.getfield 19, 3) := by decide +kernel
theorem dX5_addStep_37 : decode cX5_addStep 37 = .ok (.iload_n 3, 1) := by decide +kernel
theorem dX5_addStep_38 : decode cX5_addStep 38 = .ok (.iastore, 1) := by decide +kernel
theorem dX5_addStep_39 : decode cX5_addStep 39 = .ok (.aload_n 0, 1) := by decide +kernel
theorem dX5_addStep_40 : decode cX5_addStep 40 = .ok (.dup, 1) := by decide +kernel
theorem dX5_addStep_41 : decode cX5_addStep 41 = .ok (.getfield 19, 3) := by decide +kernel
theorem dX5_addStep_44 : decode cX5_addStep 44 = .ok (.iconst 1, 1) := by decide +kernel
theorem dX5_addStep_45 : decode cX5_addStep 45 = .ok (.iadd, 1) := by decide +kernel
theorem dX5_addStep_46 : decode cX5_addStep 46 = .ok (.putfield 19, 3) := by decide +kernel
theorem dX5_addStep_49 : decode cX5_addStep 49 = .ok (.return_, 1) := by decide +kernel
theorem dX5_holds_0 : decode cX5_holds 0 = .ok (.aload_n 2, 1) := by decide +kernel
theorem dX5_holds_1 : decode cX5_holds 1 = .ok (.aload_n 1, 1) := by decide +kernel
theorem dX5_holds_2 : decode cX5_holds 2 = .ok (.iload_n 3, 1) := by decide +kernel
theorem dX5_holds_3 : decode cX5_holds 3 = .ok (.invokevirtual 104, 3) := by decide +kernel
theorem dX5_holds_6 : decode cX5_holds 6 = .ok (.istore 4, 2) := by decide +kernel
theorem dX5_holds_8 : decode cX5_holds 8 = .ok (.iload 4, 2) := by decide +kernel
theorem dX5_holds_10 : decode cX5_holds 10 = .ok (.iconst (-1), 1) := by decide +kernel
theorem dX5_holds_11 : decode cX5_holds 11 = .ok (.if_icmp .ne 7, 3) := by decide +kernel
theorem dX5_holds_14 : decode cX5_holds 14 = .ok (.iconst (-1), 1) := by decide +kernel
theorem dX5_holds_15 : decode cX5_holds 15 = .ok (.goto 12, 3) := by decide +kernel
theorem dX5_holds_18 : decode cX5_holds 18 = .ok (.aload_n 2, 1) := by decide +kernel
theorem dX5_holds_19 : decode cX5_holds 19 = .ok (.aload_n 1, 1) := by decide +kernel
theorem dX5_holds_20 : decode cX5_holds 20 = .ok (.iload 4, 2) := by decide +kernel
theorem dX5_holds_22 : decode cX5_holds 22 = .ok (.iload_n 3, 1) := by decide +kernel
theorem dX5_holds_23 : decode cX5_holds 23 = .ok (.iconst 0, 1) := by decide +kernel
theorem dX5_holds_24 : decode cX5_holds 24 = .ok (.invokevirtual 110, 3) := by decide +kernel
theorem dX5_holds_27 : decode cX5_holds 27 = .ok (.istore 5, 2) := by decide +kernel
theorem dX5_holds_29 : decode cX5_holds 29 = .ok (.iconst 0, 1) := by decide +kernel
theorem dX5_holds_30 : decode cX5_holds 30 = .ok (.istore 6, 2) := by decide +kernel
theorem dX5_holds_32 : decode cX5_holds 32 = .ok (.iconst 0, 1) := by decide +kernel
theorem dX5_holds_33 : decode cX5_holds 33 = .ok (.istore 7, 2) := by decide +kernel
theorem dX5_holds_35 : decode cX5_holds 35 = .ok (.iload 7, 2) := by decide +kernel
theorem dX5_holds_37 : decode cX5_holds 37 = .ok (.aload_n 0, 1) := by decide +kernel
theorem dX5_holds_38 : decode cX5_holds 38 = .ok (.getfield 19, 3) := by decide +kernel
theorem dX5_holds_41 : decode cX5_holds 41 = .ok (.if_icmp .ge 216, 3) := by decide +kernel
theorem dX5_holds_44 : decode cX5_holds 44 = .ok (.aload_n 0, 1) := by decide +kernel
theorem dX5_holds_45 : decode cX5_holds 45 = .ok (.getfield 22, 3) := by decide +kernel
theorem dX5_holds_48 : decode cX5_holds 48 = .ok (.iload 7, 2) := by decide +kernel
theorem dX5_holds_50 : decode cX5_holds 50 = .ok (.iaload, 1) := by decide +kernel
theorem dX5_holds_51 : decode cX5_holds 51 = .ok (.istore 8, 2) := by decide +kernel
theorem dX5_holds_53 : decode cX5_holds 53 = .ok (.iload 8, 2) := by decide +kernel
theorem dX5_holds_55 : decode cX5_holds 55 = .ok (.bipush 23, 2) := by decide +kernel
theorem dX5_holds_57 : decode cX5_holds 57 = .ok (.if_icmp .ne 38, 3) := by decide +kernel
theorem dX5_holds_60 : decode cX5_holds 60 = .ok (.iload 6, 2) := by decide +kernel
theorem dX5_holds_62 : decode cX5_holds 62 = .ok (.iconst 1, 1) := by decide +kernel
theorem dX5_holds_63 : decode cX5_holds 63 = .ok (.if_icmp .lt 32, 3) := by decide +kernel
theorem dX5_holds_66 : decode cX5_holds 66 = .ok (.aload_n 0, 1) := by decide +kernel
theorem dX5_holds_67 : decode cX5_holds 67 = .ok (.getfield 32, 3) := by decide +kernel
theorem dX5_holds_70 : decode cX5_holds 70 = .ok (.iload 6, 2) := by decide +kernel
theorem dX5_holds_72 : decode cX5_holds 72 = .ok (.iconst 1, 1) := by decide +kernel
theorem dX5_holds_73 : decode cX5_holds 73 = .ok (.isub, 1) := by decide +kernel
theorem dX5_holds_74 : decode cX5_holds 74 = .ok (.aload_n 0, 1) := by decide +kernel
theorem dX5_holds_75 : decode cX5_holds 75 = .ok (.getfield 32, 3) := by decide +kernel
theorem dX5_holds_78 : decode cX5_holds 78 = .ok (.iload 6, 2) := by decide +kernel
theorem dX5_holds_80 : decode cX5_holds 80 = .ok (.iconst 1, 1) := by decide +kernel
theorem dX5_holds_81 : decode cX5_holds 81 = .ok (.isub, 1) := by decide +kernel
theorem dX5_holds_82 : decode cX5_holds 82 = .ok (.baload, 1) := by decide +kernel
theorem dX5_holds_83 : decode cX5_holds 83 = .ok (.ifCond .ne 7, 3) := by decide +kernel
theorem dX5_holds_86 : decode cX5_holds 86 = .ok (.iconst 1, 1) := by decide +kernel
theorem dX5_holds_87 : decode cX5_holds 87 = .ok (.goto 4, 3) := by decide +kernel
theorem dX5_holds_90 : decode cX5_holds 90 = .ok (.iconst 0, 1) := by decide +kernel
theorem dX5_holds_91 : decode cX5_holds 91 = .ok (.bastore, 1) := by decide +kernel
theorem dX5_holds_92 : decode cX5_holds 92 = .ok (.goto 159, 3) := by decide +kernel
theorem dX5_holds_95 : decode cX5_holds 95 = .ok (.iload 8, 2) := by decide +kernel
theorem dX5_holds_97 : decode cX5_holds 97 = .ok (.bipush 22, 2) := by decide +kernel
theorem dX5_holds_99 : decode cX5_holds 99 = .ok (.if_icmp .ne 51, 3) := by decide +kernel
theorem dX5_holds_102 : decode cX5_holds 102 = .ok (.iload 6, 2) := by decide +kernel
theorem dX5_holds_104 : decode cX5_holds 104 = .ok (.iconst 2, 1) := by decide +kernel
theorem dX5_holds_105 : decode cX5_holds 105 = .ok (.if_icmp .lt 45, 3) := by decide +kernel
theorem dX5_holds_108 : decode cX5_holds 108 = .ok (.iinc 6 (-1), 3) := by decide +kernel
theorem dX5_holds_111 : decode cX5_holds 111 = .ok (.aload_n 0, 1) := by decide +kernel
theorem dX5_holds_112 : decode cX5_holds 112 = .ok (.getfield 32, 3) := by decide +kernel
theorem dX5_holds_115 : decode cX5_holds 115 = .ok (.iload 6, 2) := by decide +kernel
theorem dX5_holds_117 : decode cX5_holds 117 = .ok (.iconst 1, 1) := by decide +kernel
theorem dX5_holds_118 : decode cX5_holds 118 = .ok (.isub, 1) := by decide +kernel
theorem dX5_holds_119 : decode cX5_holds 119 = .ok (.aload_n 0, 1) := by decide +kernel
theorem dX5_holds_120 : decode cX5_holds 120 = .ok (.getfield 32, 3) := by decide +kernel
theorem dX5_holds_123 : decode cX5_holds 123 = .ok (.iload 6, 2) := by decide +kernel
theorem dX5_holds_125 : decode cX5_holds 125 = .ok (.iconst 1, 1) := by decide +kernel
theorem dX5_holds_126 : decode cX5_holds 126 = .ok (.isub, 1) := by decide +kernel
theorem dX5_holds_127 : decode cX5_holds 127 = .ok (.baload, 1) := by decide +kernel
theorem dX5_holds_128 : decode cX5_holds 128 = .ok (.ifCond .eq 17, 3) := by decide +kernel
theorem dX5_holds_131 : decode cX5_holds 131 = .ok (.aload_n 0, 1) := by decide +kernel
theorem dX5_holds_132 : decode cX5_holds 132 = .ok (.getfield 32, 3) := by decide +kernel
theorem dX5_holds_135 : decode cX5_holds 135 = .ok (.iload 6, 2) := by decide +kernel
theorem dX5_holds_137 : decode cX5_holds 137 = .ok (.baload, 1) := by decide +kernel
theorem dX5_holds_138 : decode cX5_holds 138 = .ok (.ifCond .eq 7, 3) := by decide +kernel
theorem dX5_holds_141 : decode cX5_holds 141 = .ok (.iconst 1, 1) := by decide +kernel
theorem dX5_holds_142 : decode cX5_holds 142 = .ok (.goto 4, 3) := by decide +kernel
theorem dX5_holds_145 : decode cX5_holds 145 = .ok (.iconst 0, 1) := by decide +kernel
theorem dX5_holds_146 : decode cX5_holds 146 = .ok (.bastore, 1) := by decide +kernel
theorem dX5_holds_147 : decode cX5_holds 147 = .ok (.goto 104, 3) := by decide +kernel
theorem dX5_holds_150 : decode cX5_holds 150 = .ok (.iload 8, 2) := by decide +kernel
theorem dX5_holds_152 : decode cX5_holds 152 = .ok (.bipush 21, 2) := by decide +kernel
theorem dX5_holds_154 : decode cX5_holds 154 = .ok (.if_icmp .ne 51, 3) := by decide +kernel
theorem dX5_holds_157 : decode cX5_holds 157 = .ok (.iload 6, 2) := by decide +kernel
theorem dX5_holds_159 : decode cX5_holds 159 = .ok (.iconst 2, 1) := by decide +kernel
theorem dX5_holds_160 : decode cX5_holds 160 = .ok (.if_icmp .lt 45, 3) := by decide +kernel
theorem dX5_holds_163 : decode cX5_holds 163 = .ok (.iinc 6 (-1), 3) := by decide +kernel
theorem dX5_holds_166 : decode cX5_holds 166 = .ok (.aload_n 0, 1) := by decide +kernel
theorem dX5_holds_167 : decode cX5_holds 167 = .ok (.getfield 32, 3) := by decide +kernel
theorem dX5_holds_170 : decode cX5_holds 170 = .ok (.iload 6, 2) := by decide +kernel
theorem dX5_holds_172 : decode cX5_holds 172 = .ok (.iconst 1, 1) := by decide +kernel
theorem dX5_holds_173 : decode cX5_holds 173 = .ok (.isub, 1) := by decide +kernel
theorem dX5_holds_174 : decode cX5_holds 174 = .ok (.aload_n 0, 1) := by decide +kernel
theorem dX5_holds_175 : decode cX5_holds 175 = .ok (.getfield 32, 3) := by decide +kernel
theorem dX5_holds_178 : decode cX5_holds 178 = .ok (.iload 6, 2) := by decide +kernel
theorem dX5_holds_180 : decode cX5_holds 180 = .ok (.iconst 1, 1) := by decide +kernel
theorem dX5_holds_181 : decode cX5_holds 181 = .ok (.isub, 1) := by decide +kernel
theorem dX5_holds_182 : decode cX5_holds 182 = .ok (.baload, 1) := by decide +kernel
theorem dX5_holds_183 : decode cX5_holds 183 = .ok (.ifCond .ne 13, 3) := by decide +kernel
theorem dX5_holds_186 : decode cX5_holds 186 = .ok (.aload_n 0, 1) := by decide +kernel
theorem dX5_holds_187 : decode cX5_holds 187 = .ok (.getfield 32, 3) := by decide +kernel
theorem dX5_holds_190 : decode cX5_holds 190 = .ok (.iload 6, 2) := by decide +kernel
theorem dX5_holds_192 : decode cX5_holds 192 = .ok (.baload, 1) := by decide +kernel
theorem dX5_holds_193 : decode cX5_holds 193 = .ok (.ifCond .eq 7, 3) := by decide +kernel
theorem dX5_holds_196 : decode cX5_holds 196 = .ok (.iconst 1, 1) := by decide +kernel
theorem dX5_holds_197 : decode cX5_holds 197 = .ok (.goto 4, 3) := by decide +kernel
theorem dX5_holds_200 : decode cX5_holds 200 = .ok (.iconst 0, 1) := by decide +kernel
theorem dX5_holds_201 : decode cX5_holds 201 = .ok (.bastore, 1) := by decide +kernel
theorem dX5_holds_202 : decode cX5_holds 202 = .ok (.goto 49, 3) := by decide +kernel
theorem dX5_holds_205 : decode cX5_holds 205 = .ok (.iload 6, 2) := by decide +kernel
theorem dX5_holds_207 : decode cX5_holds 207 = .ok (.bipush 20, 2) := by decide +kernel
theorem dX5_holds_209 : decode cX5_holds 209 = .ok (.if_icmp .ge 42, 3) := by decide +kernel
theorem dX5_holds_212 : decode cX5_holds 212 = .ok (.aload_n 0, 1) := by decide +kernel
theorem dX5_holds_213 : decode cX5_holds 213 = .ok (.getfield 32, 3) := by decide +kernel
theorem dX5_holds_216 : decode cX5_holds 216 = .ok (.iload 6, 2) := by decide +kernel
theorem dX5_holds_218 : decode cX5_holds 218 = .ok (.iload 8, 2) := by decide +kernel
theorem dX5_holds_220 : decode cX5_holds 220 = .ok (.bipush 29, 2) := by decide +kernel
theorem dX5_holds_222 : decode cX5_holds 222 = .ok (.if_icmp .lt 14, 3) := by decide +kernel
theorem dX5_holds_225 : decode cX5_holds 225 = .ok (.aload_n 0, 1) := by decide +kernel
theorem dX5_holds_226 : decode cX5_holds 226 = .ok (.aload_n 2, 1) := by decide +kernel
theorem dX5_holds_227 : decode cX5_holds 227 = .ok (.iload_n 3, 1) := by decide +kernel
theorem dX5_holds_228 : decode cX5_holds 228 = .ok (.iload 7, 2) := by decide +kernel
theorem dX5_holds_230 : decode cX5_holds 230 = .ok (.invokevirtual 114, 3) := by decide +kernel
theorem dX5_holds_233 : decode cX5_holds 233 = .ok (.goto 14, 3) := by decide +kernel
theorem dX5_holds_236 : decode cX5_holds 236 = .ok (.aload_n 0, 1) := by decide +kernel
theorem dX5_holds_237 : decode cX5_holds 237 = .ok (.aload_n 1, 1) := by decide +kernel
theorem dX5_holds_238 : decode cX5_holds 238 = .ok (.aload_n 2, 1) := by decide +kernel
theorem dX5_holds_239 : decode cX5_holds 239 = .ok (.iload_n 3, 1) := by decide +kernel
theorem dX5_holds_240 : decode cX5_holds 240 = .ok (.iload 5, 2) := by decide +kernel
theorem dX5_holds_242 : decode cX5_holds 242 = .ok (.iload 7, 2) := by decide +kernel
theorem dX5_holds_244 : decode cX5_holds 244 = .ok (.invokevirtual 118, 3) := by decide +kernel
theorem dX5_holds_247 : decode cX5_holds 247 = .ok (.bastore, 1) := by decide +kernel
theorem dX5_holds_248 : decode cX5_holds 248 = .ok (.iinc 6 1, 3) := by decide +kernel
theorem dX5_holds_251 : decode cX5_holds 251 = .ok (.iinc 7 1, 3) := by decide +kernel
theorem dX5_holds_254 : decode cX5_holds 254 = .ok (.goto (-219), 3) := by decide +kernel
theorem dX5_holds_257 : decode cX5_holds 257 = .ok (.iload 6, 2) := by decide +kernel
theorem dX5_holds_259 : decode cX5_holds 259 = .ok (.iconst 1, 1) := by decide +kernel
theorem dX5_holds_260 : decode cX5_holds 260 = .ok (.if_icmp .ne 16, 3) := by decide +kernel
theorem dX5_holds_263 : decode cX5_holds 263 = .ok (.aload_n 0, 1) := by decide +kernel
theorem dX5_holds_264 : decode cX5_holds 264 = .ok (.getfield 32, 3) := by decide +kernel
theorem dX5_holds_267 : decode cX5_holds 267 = .ok (.iconst 0, 1) := by decide +kernel
theorem dX5_holds_268 : decode cX5_holds 268 = .ok (.baload, 1) := by decide +kernel
theorem dX5_holds_269 : decode cX5_holds 269 = .ok (.ifCond .eq 7, 3) := by decide +kernel
theorem dX5_holds_272 : decode cX5_holds 272 = .ok (.iconst 1, 1) := by decide +kernel
theorem dX5_holds_273 : decode cX5_holds 273 = .ok (.goto 4, 3) := by decide +kernel
theorem dX5_holds_276 : decode cX5_holds 276 = .ok (.iconst 0, 1) := by decide +kernel
theorem dX5_holds_277 : decode cX5_holds 277 = .ok (.ireturn, 1) := by decide +kernel
theorem dX5_isSo_0 : decode cX5_isSo 0 = .ok (.aload_n 0, 1) := by decide +kernel
theorem dX5_isSo_1 : decode cX5_isSo 1 = .ok (.getfield 29, 3) := by decide +kernel
theorem dX5_isSo_4 : decode cX5_isSo 4 = .ok (.iload 5, 2) := by decide +kernel
theorem dX5_isSo_6 : decode cX5_isSo 6 = .ok (.iaload, 1) := by decide +kernel
theorem dX5_isSo_7 : decode cX5_isSo 7 = .ok (.istore 6, 2) := by decide +kernel
theorem dX5_isSo_9 : decode cX5_isSo 9 = .ok (.aload_n 0, 1) := by decide +kernel
theorem dX5_isSo_10 : decode cX5_isSo 10 = .ok (.getfield 22, 3) := by decide +kernel
theorem dX5_isSo_13 : decode cX5_isSo 13 = .ok (.iload 5, 2) := by decide +kernel
theorem dX5_isSo_15 : decode cX5_isSo 15 = .ok (.iaload, 1) := by decide +kernel
theorem dX5_isSo_16 : decode cX5_isSo 16 = .ok (.tableswitch 96 24 27 #[32, 48, 60, 79], 32) := by decide +kernel
theorem dX5_isSo_48 : decode cX5_isSo 48 = .ok (.aload_n 2, 1) := by decide +kernel
theorem dX5_isSo_49 : decode cX5_isSo 49 = .ok (.aload_n 1, 1) := by decide +kernel
theorem dX5_isSo_50 : decode cX5_isSo 50 = .ok (.iload_n 3, 1) := by decide +kernel
theorem dX5_isSo_51 : decode cX5_isSo 51 = .ok (.invokevirtual 104, 3) := by decide +kernel
theorem dX5_isSo_54 : decode cX5_isSo 54 = .ok (.iconst (-1), 1) := by decide +kernel
theorem dX5_isSo_55 : decode cX5_isSo 55 = .ok (.if_icmp .ne 7, 3) := by decide +kernel
theorem dX5_isSo_58 : decode cX5_isSo 58 = .ok (.iconst 1, 1) := by decide +kernel
theorem dX5_isSo_59 : decode cX5_isSo 59 = .ok (.goto 4, 3) := by decide +kernel
theorem dX5_isSo_62 : decode cX5_isSo 62 = .ok (.iconst 0, 1) := by decide +kernel
theorem dX5_isSo_63 : decode cX5_isSo 63 = .ok (.ireturn, 1) := by decide +kernel
theorem dX5_isSo_64 : decode cX5_isSo 64 = .ok (.iload 4, 2) := by decide +kernel
theorem dX5_isSo_66 : decode cX5_isSo 66 = .ok (.iconst (-1), 1) := by decide +kernel
theorem dX5_isSo_67 : decode cX5_isSo 67 = .ok (.if_icmp .eq 7, 3) := by decide +kernel
theorem dX5_isSo_70 : decode cX5_isSo 70 = .ok (.iconst 1, 1) := by decide +kernel
theorem dX5_isSo_71 : decode cX5_isSo 71 = .ok (.goto 4, 3) := by decide +kernel
theorem dX5_isSo_74 : decode cX5_isSo 74 = .ok (.iconst 0, 1) := by decide +kernel
theorem dX5_isSo_75 : decode cX5_isSo 75 = .ok (.ireturn, 1) := by decide +kernel
theorem dX5_isSo_76 : decode cX5_isSo 76 = .ok (.aload_n 2, 1) := by decide +kernel
theorem dX5_isSo_77 : decode cX5_isSo 77 = .ok (.aload_n 1, 1) := by decide +kernel
theorem dX5_isSo_78 : decode cX5_isSo 78 = .ok (.iload_n 3, 1) := by decide +kernel
theorem dX5_isSo_79 : decode cX5_isSo 79 = .ok (.iload 4, 2) := by decide +kernel
theorem dX5_isSo_81 : decode cX5_isSo 81 = .ok (.invokevirtual 122, 3) := by decide +kernel
theorem dX5_isSo_84 : decode cX5_isSo 84 = .ok (.iload 6, 2) := by decide +kernel
theorem dX5_isSo_86 : decode cX5_isSo 86 = .ok (.if_icmp .ne 7, 3) := by decide +kernel
theorem dX5_isSo_89 : decode cX5_isSo 89 = .ok (.iconst 1, 1) := by decide +kernel
theorem dX5_isSo_90 : decode cX5_isSo 90 = .ok (.goto 4, 3) := by decide +kernel
theorem dX5_isSo_93 : decode cX5_isSo 93 = .ok (.iconst 0, 1) := by decide +kernel
theorem dX5_isSo_94 : decode cX5_isSo 94 = .ok (.ireturn, 1) := by decide +kernel
theorem dX5_isSo_95 : decode cX5_isSo 95 = .ok (.aload_n 2, 1) := by decide +kernel
theorem dX5_isSo_96 : decode cX5_isSo 96 = .ok (.aload_n 1, 1) := by decide +kernel
theorem dX5_isSo_97 : decode cX5_isSo 97 = .ok (.iload_n 3, 1) := by decide +kernel
theorem dX5_isSo_98 : decode cX5_isSo 98 = .ok (.invokevirtual 104, 3) := by decide +kernel
theorem dX5_isSo_101 : decode cX5_isSo 101 = .ok (.iload 6, 2) := by decide +kernel
theorem dX5_isSo_103 : decode cX5_isSo 103 = .ok (.if_icmp .ne 7, 3) := by decide +kernel
theorem dX5_isSo_106 : decode cX5_isSo 106 = .ok (.iconst 1, 1) := by decide +kernel
theorem dX5_isSo_107 : decode cX5_isSo 107 = .ok (.goto 4, 3) := by decide +kernel
theorem dX5_isSo_110 : decode cX5_isSo 110 = .ok (.iconst 0, 1) := by decide +kernel
theorem dX5_isSo_111 : decode cX5_isSo 111 = .ok (.ireturn, 1) := by decide +kernel
theorem dX5_isSo_112 : decode cX5_isSo 112 = .ok (.iload 4, 2) := by decide +kernel
theorem dX5_isSo_114 : decode cX5_isSo 114 = .ok (.iconst (-1), 1) := by decide +kernel
theorem dX5_isSo_115 : decode cX5_isSo 115 = .ok (.if_icmp .eq 21, 3) := by decide +kernel
theorem dX5_isSo_118 : decode cX5_isSo 118 = .ok (.aload_n 2, 1) := by decide +kernel
theorem dX5_isSo_119 : decode cX5_isSo 119 = .ok (.aload_n 1, 1) := by decide +kernel
theorem dX5_isSo_120 : decode cX5_isSo 120 = .ok (.iload 4, 2) := by decide +kernel
theorem dX5_isSo_122 : decode cX5_isSo 122 = .ok (.invokevirtual 126, 3) := by decide +kernel
theorem dX5_isSo_125 : decode cX5_isSo 125 = .ok (.iconst 0, 1) := by decide +kernel
theorem dX5_isSo_126 : decode cX5_isSo 126 = .ok (.iaload, 1) := by decide +kernel
theorem dX5_isSo_127 : decode cX5_isSo 127 = .ok (.iload 6, 2) := by decide +kernel
theorem dX5_isSo_129 : decode cX5_isSo 129 = .ok (.if_icmp .ne 7, 3) := by decide +kernel
theorem dX5_isSo_132 : decode cX5_isSo 132 = .ok (.iconst 1, 1) := by decide +kernel
theorem dX5_isSo_133 : decode cX5_isSo 133 = .ok (.goto 4, 3) := by decide +kernel
theorem dX5_isSo_136 : decode cX5_isSo 136 = .ok (.iconst 0, 1) := by decide +kernel
theorem dX5_isSo_137 : decode cX5_isSo 137 = .ok (.ireturn, 1) := by decide +kernel
theorem dX5_compares_0 : decode cX5_compares 0 = .ok (.iload_n 2, 1) := by decide +kernel
theorem dX5_compares_1 : decode cX5_compares 1 = .ok (.istore 4, 2) := by decide +kernel
theorem dX5_compares_3 : decode cX5_compares 3 = .ok (.aload_n 0, 1) := by decide +kernel
theorem dX5_compares_4 : decode cX5_compares 4 = .ok (.getfield 22, 3) := by decide +kernel
theorem dX5_compares_7 : decode cX5_compares 7 = .ok (.iload_n 3, 1) := by decide +kernel
theorem dX5_compares_8 : decode cX5_compares 8 = .ok (.iaload, 1) := by decide +kernel
theorem dX5_compares_9 : decode cX5_compares 9 = .ok (.bipush 29, 2) := by decide +kernel
theorem dX5_compares_11 : decode cX5_compares 11 = .ok (.if_icmp .ne 14, 3) := by decide +kernel
theorem dX5_compares_14 : decode cX5_compares 14 = .ok (.aload_n 1, 1) := by decide +kernel
theorem dX5_compares_15 : decode cX5_compares 15 = .ok (.getfield 130, 3) := by decide +kernel
theorem dX5_compares_18 : decode cX5_compares 18 = .ok (.iload_n 2, 1) := by decide +kernel
theorem dX5_compares_19 : decode cX5_compares 19 = .ok (.iaload, 1) := by decide +kernel
theorem dX5_compares_20 : decode cX5_compares 20 = .ok (.istore 4, 2) := by decide +kernel
theorem dX5_compares_22 : decode cX5_compares 22 = .ok (.goto 22, 3) := by decide +kernel
theorem dX5_compares_25 : decode cX5_compares 25 = .ok (.aload_n 0, 1) := by decide +kernel
theorem dX5_compares_26 : decode cX5_compares 26 = .ok (.getfield 22, 3) := by decide +kernel
theorem dX5_compares_29 : decode cX5_compares 29 = .ok (.iload_n 3, 1) := by decide +kernel
theorem dX5_compares_30 : decode cX5_compares 30 = .ok (.iaload, 1) := by decide +kernel
theorem dX5_compares_31 : decode cX5_compares 31 = .ok (.bipush 30, 2) := by decide +kernel
theorem dX5_compares_33 : decode cX5_compares 33 = .ok (.if_icmp .ne 11, 3) := by decide +kernel
theorem dX5_compares_36 : decode cX5_compares 36 = .ok (.aload_n 1, 1) := by decide +kernel
theorem dX5_compares_37 : decode cX5_compares 37 = .ok (.getfield 133, 3) := by decide +kernel
theorem dX5_compares_40 : decode cX5_compares 40 = .ok (.iload_n 2, 1) := by decide +kernel
theorem dX5_compares_41 : decode cX5_compares 41 = .ok (.iaload, 1) := by decide +kernel
theorem dX5_compares_42 : decode cX5_compares 42 = .ok (.istore 4, 2) := by decide +kernel
theorem dX5_compares_44 : decode cX5_compares 44 = .ok (.aload_n 0, 1) := by decide +kernel
theorem dX5_compares_45 : decode cX5_compares 45 = .ok (.getfield 29, 3) := by decide +kernel
theorem dX5_compares_48 : decode cX5_compares 48 = .ok (.iload_n 3, 1) := by decide +kernel
theorem dX5_compares_49 : decode cX5_compares 49 = .ok (.iaload, 1) := by decide +kernel
theorem dX5_compares_50 : decode cX5_compares 50 = .ok (.istore 5, 2) := by decide +kernel
theorem dX5_compares_52 : decode cX5_compares 52 = .ok (.aload_n 0, 1) := by decide +kernel
theorem dX5_compares_53 : decode cX5_compares 53 = .ok (.getfield 26, 3) := by decide +kernel
theorem dX5_compares_56 : decode cX5_compares 56 = .ok (.iload_n 3, 1) := by decide +kernel
theorem dX5_compares_57 : decode cX5_compares 57 = .ok (.iaload, 1) := by decide +kernel
theorem dX5_compares_58 : decode cX5_compares 58 = .ok (.bipush 60, 2) := by decide +kernel
theorem dX5_compares_60 : decode cX5_compares 60 = .ok (.if_icmp .ne 16, 3) := by decide +kernel
theorem dX5_compares_63 : decode cX5_compares 63 = .ok (.iload 4, 2) := by decide +kernel
theorem dX5_compares_65 : decode cX5_compares 65 = .ok (.iload 5, 2) := by decide +kernel
theorem dX5_compares_67 : decode cX5_compares 67 = .ok (.if_icmp .ge 7, 3) := by decide +kernel
theorem dX5_compares_70 : decode cX5_compares 70 = .ok (.iconst 1, 1) := by decide +kernel
theorem dX5_compares_71 : decode cX5_compares 71 = .ok (.goto 4, 3) := by decide +kernel
theorem dX5_compares_74 : decode cX5_compares 74 = .ok (.iconst 0, 1) := by decide +kernel
theorem dX5_compares_75 : decode cX5_compares 75 = .ok (.ireturn, 1) := by decide +kernel
theorem dX5_compares_76 : decode cX5_compares 76 = .ok (.aload_n 0, 1) := by decide +kernel
theorem dX5_compares_77 : decode cX5_compares 77 = .ok (.getfield 26, 3) := by decide +kernel
theorem dX5_compares_80 : decode cX5_compares 80 = .ok (.iload_n 3, 1) := by decide +kernel
theorem dX5_compares_81 : decode cX5_compares 81 = .ok (.iaload, 1) := by decide +kernel
theorem dX5_compares_82 : decode cX5_compares 82 = .ok (.bipush 61, 2) := by decide +kernel
theorem dX5_compares_84 : decode cX5_compares 84 = .ok (.if_icmp .ne 18, 3) := by decide +kernel
theorem dX5_compares_87 : decode cX5_compares 87 = .ok (.iload 4, 2) := by decide +kernel
theorem dX5_compares_89 : decode cX5_compares 89 = .ok (.iload 5, 2) := by decide +kernel
theorem dX5_compares_91 : decode cX5_compares 91 = .ok (.if_icmp .ne 7, 3) := by decide +kernel
theorem dX5_compares_94 : decode cX5_compares 94 = .ok (.iconst 1, 1) := by decide +kernel
theorem dX5_compares_95 : decode cX5_compares 95 = .ok (.goto 19, 3) := by decide +kernel
theorem dX5_compares_98 : decode cX5_compares 98 = .ok (.iconst 0, 1) := by decide +kernel
theorem dX5_compares_99 : decode cX5_compares 99 = .ok (.goto 15, 3) := by decide +kernel
theorem dX5_compares_102 : decode cX5_compares 102 = .ok (.iload 4, 2) := by decide +kernel
theorem dX5_compares_104 : decode cX5_compares 104 = .ok (.iload 5, 2) := by decide +kernel
theorem dX5_compares_106 : decode cX5_compares 106 = .ok (.if_icmp .le 7, 3) := by decide +kernel
theorem dX5_compares_109 : decode cX5_compares 109 = .ok (.iconst 1, 1) := by decide +kernel
theorem dX5_compares_110 : decode cX5_compares 110 = .ok (.goto 4, 3) := by decide +kernel
theorem dX5_compares_113 : decode cX5_compares 113 = .ok (.iconst 0, 1) := by decide +kernel
theorem dX5_compares_114 : decode cX5_compares 114 = .ok (.ireturn, 1) := by decide +kernel
theorem dX6_init_0 : decode cX6_init 0 = .ok (.aload_n 0, 1) := by decide +kernel
theorem dX6_init_1 : decode cX6_init 1 = .ok (.invokespecial 3, 3) := by decide +kernel
theorem dX6_init_4 : decode cX6_init 4 = .ok (.aload_n 0, 1) := by decide +kernel
theorem dX6_init_5 : decode cX6_init 5 = .ok (.bipush 81, 2) := by decide +kernel
theorem dX6_init_7 : decode cX6_init 7 = .ok (.newarray .int, 2) := by decide +kernel
theorem dX6_init_9 : decode cX6_init 9 = .ok (.putfield 11, 3) := by decide +kernel
theorem dX6_init_12 : decode cX6_init 12 = .ok (.aload_n 0, 1) := by decide +kernel
theorem dX6_init_13 : decode cX6_init 13 = .ok (.bipush 81, 2) := by decide +kernel
theorem dX6_init_15 : decode cX6_init 15 = .ok (.newarray .int, 2) := by decide +kernel
theorem dX6_init_17 : decode cX6_init 17 = .ok (.putfield 15, 3) := by decide +kernel
theorem dX6_init_20 : decode cX6_init 20 = .ok (.aload_n 0, 1) := by decide +kernel
theorem dX6_init_21 : decode cX6_init 21 = .ok (.iconst 4, 1) := by decide +kernel
theorem dX6_init_22 : decode cX6_init 22 = .ok (.newarray .int, 2) := by decide +kernel
theorem dX6_init_24 : decode cX6_init 24 = .ok (.putfield 18, 3) := by decide +kernel
theorem dX6_init_27 : decode cX6_init 27 = .ok (.aload_n 0, 1) := by decide +kernel
theorem dX6_init_28 : decode cX6_init 28 = .ok (.bipush 6, 2) := by decide +kernel
theorem dX6_init_30 : decode cX6_init 30 = .ok (.newarray .int, 2) := by decide +kernel
theorem dX6_init_32 : decode cX6_init 32 = .ok (.putfield 21, 3) := by decide +kernel
theorem dX6_init_35 : decode cX6_init 35 = .ok (.aload_n 0, 1) := by decide +kernel
theorem dX6_init_36 : decode cX6_init 36 = .ok (.iconst 0, 1) := by decide +kernel
theorem dX6_init_37 : decode cX6_init 37 = .ok (.putfield 24, 3) := by decide +kernel
theorem dX6_init_40 : decode cX6_init 40 = .ok (.aload_n 0, 1) := by decide +kernel
theorem dX6_init_41 : decode cX6_init 41 = .ok (.iconst (-1), 1) := by decide +kernel
theorem dX6_init_42 : decode cX6_init 42 = .ok (.putfield 28, 3) := by decide +kernel
theorem dX6_init_45 : decode cX6_init 45 = .ok (.return_, 1) := by decide +kernel
theorem dX6_find_0 : decode cX6_find 0 = .ok (.aload_n 1, 1) := by decide +kernel
theorem dX6_find_1 : decode cX6_find 1 = .ok (.aload_n 2, 1) := by decide +kernel
theorem dX6_find_2 : decode cX6_find 2 = .ok (.invokestatic 31, 3) := by decide +kernel
theorem dX6_find_5 : decode cX6_find 5 = .ok (.ifCond .ne 5, 3) := by decide +kernel
theorem dX6_find_8 : decode cX6_find 8 = .ok (.iconst (-1), 1) := by decide +kernel
theorem dX6_find_9 : decode cX6_find 9 = .ok (.ireturn, 1) := by decide +kernel
theorem dX6_find_10 : decode cX6_find 10 = .ok (.aload_n 0, 1) := by decide +kernel
theorem dX6_find_11 : decode cX6_find 11 = .ok (.getfield 18, 3) := by decide +kernel
theorem dX6_find_14 : decode cX6_find 14 = .ok (.iconst 0, 1) := by decide +kernel
theorem dX6_find_15 : decode cX6_find 15 = .ok (.iconst 1, 1) := by decide +kernel
theorem dX6_find_16 : decode cX6_find 16 = .ok (.iastore, 1) := by decide +kernel
theorem dX6_find_17 : decode cX6_find 17 = .ok (.aload_n 0, 1) := by decide +kernel
theorem dX6_find_18 : decode cX6_find 18 = .ok (.getfield 18, 3) := by decide +kernel
theorem dX6_find_21 : decode cX6_find 21 = .ok (.iconst 3, 1) := by decide +kernel
theorem dX6_find_22 : decode cX6_find 22 = .ok (.aload_n 1, 1) := by decide +kernel
theorem dX6_find_23 : decode cX6_find 23 = .ok (.iconst 0, 1) := by decide +kernel
theorem dX6_find_24 : decode cX6_find 24 = .ok (.invokevirtual 35, 3) := by decide +kernel
theorem dX6_find_27 : decode cX6_find 27 = .ok (.iastore, 1) := by decide +kernel
theorem dX6_find_28 : decode cX6_find 28 = .ok (.iconst 0, 1) := by decide +kernel
theorem dX6_find_29 : decode cX6_find 29 = .ok (.istore 4, 2) := by decide +kernel
theorem dX6_find_31 : decode cX6_find 31 = .ok (.iconst 0, 1) := by decide +kernel
theorem dX6_find_32 : decode cX6_find 32 = .ok (.istore 5, 2) := by decide +kernel
theorem dX6_find_34 : decode cX6_find 34 = .ok (.iload 5, 2) := by decide +kernel
theorem dX6_find_36 : decode cX6_find 36 = .ok (.aload_n 2, 1) := by decide +kernel
theorem dX6_find_37 : decode cX6_find 37 = .ok (.getfield 41, 3) := by decide +kernel
theorem dX6_find_40 : decode cX6_find 40 = .ok (.if_icmp .ge 78, 3) := by decide +kernel
theorem dX6_find_43 : decode cX6_find 43 = .ok (.iconst 0, 1) := by decide +kernel
theorem dX6_find_44 : decode cX6_find 44 = .ok (.istore 6, 2) := by decide +kernel
theorem dX6_find_46 : decode cX6_find 46 = .ok (.iload 6, 2) := by decide +kernel
theorem dX6_find_48 : decode cX6_find 48 = .ok (.aload_n 2, 1) := by decide +kernel
theorem dX6_find_49 : decode cX6_find 49 = .ok (.getfield 46, 3) := by decide +kernel
theorem dX6_find_52 : decode cX6_find 52 = .ok (.if_icmp .ge 60, 3) := by decide +kernel
theorem dX6_find_55 : decode cX6_find 55 = .ok (.aload_n 0, 1) := by decide +kernel
theorem dX6_find_56 : decode cX6_find 56 = .ok (.getfield 18, 3) := by decide +kernel
theorem dX6_find_59 : decode cX6_find 59 = .ok (.iconst 1, 1) := by decide +kernel
theorem dX6_find_60 : decode cX6_find 60 = .ok (.iload 6, 2) := by decide +kernel
theorem dX6_find_62 : decode cX6_find 62 = .ok (.iastore, 1) := by decide +kernel
theorem dX6_find_63 : decode cX6_find 63 = .ok (.aload_n 0, 1) := by decide +kernel
theorem dX6_find_64 : decode cX6_find 64 = .ok (.getfield 18, 3) := by decide +kernel
theorem dX6_find_67 : decode cX6_find 67 = .ok (.iconst 2, 1) := by decide +kernel
theorem dX6_find_68 : decode cX6_find 68 = .ok (.iload 5, 2) := by decide +kernel
theorem dX6_find_70 : decode cX6_find 70 = .ok (.iastore, 1) := by decide +kernel
theorem dX6_find_71 : decode cX6_find 71 = .ok (.iload 4, 2) := by decide +kernel
theorem dX6_find_73 : decode cX6_find 73 = .ok (.bipush 81, 2) := by decide +kernel
theorem dX6_find_75 : decode cX6_find 75 = .ok (.if_icmp .ge 31, 3) := by decide +kernel
theorem dX6_find_78 : decode cX6_find 78 = .ok (.aload_n 0, 1) := by decide +kernel
theorem dX6_find_79 : decode cX6_find 79 = .ok (.aload_n 1, 1) := by decide +kernel
theorem dX6_find_80 : decode cX6_find 80 = .ok (.aload_n 2, 1) := by decide +kernel
theorem dX6_find_81 : decode cX6_find 81 = .ok (.aload_n 3, 1) := by decide +kernel
theorem dX6_find_82 : decode cX6_find 82 = .ok (.invokevirtual 49, 3) := by decide +kernel
theorem dX6_find_85 : decode cX6_find 85 = .ok (.ifCond .eq 21, 3) := by decide +kernel
theorem dX6_find_88 : decode cX6_find 88 = .ok (.aload_n 0, 1) := by decide +kernel
theorem dX6_find_89 : decode cX6_find 89 = .ok (.getfield 15, 3) := by decide +kernel
theorem dX6_find_92 : decode cX6_find 92 = .ok (.iload 4, 2) := by decide +kernel
theorem dX6_find_94 : decode cX6_find 94 = .ok (.bipush 9, 2) := by decide +kernel
theorem dX6_find_96 : decode cX6_find 96 = .ok (.iload 5, 2) := by decide +kernel
theorem dX6_find_98 : decode cX6_find 98 = .ok (.imul, 1) := by decide +kernel
theorem dX6_find_99 : decode cX6_find 99 = .ok (.iload 6, 2) := by decide +kernel
theorem dX6_find_101 : decode cX6_find 101 = .ok (.iadd, 1) := by decide +kernel
theorem dX6_find_102 : decode cX6_find 102 = .ok (.iastore, 1) := by decide +kernel
theorem dX6_find_103 : decode cX6_find 103 = .ok (.iinc 4 1, 3) := by decide +kernel
theorem dX6_find_106 : decode cX6_find 106 = .ok (.iinc 6 1, 3) := by decide +kernel
theorem dX6_find_109 : decode cX6_find 109 = .ok (.goto (-63), 3) := by decide +kernel
theorem dX6_find_112 : decode cX6_find 112 = .ok (.iinc 5 1, 3) := by decide +kernel
theorem dX6_find_115 : decode cX6_find 115 = .ok (.goto (-81), 3) := by decide +kernel
theorem dX6_find_118 : decode cX6_find 118 = .ok (.iload 4, 2) := by decide +kernel
theorem dX6_find_120 : decode cX6_find 120 = .ok (.ifCond .le 34, 3) := by decide +kernel
theorem dX6_find_123 : decode cX6_find 123 = .ok (.aload_n 0, 1) := by decide +kernel
theorem dX6_find_124 : decode cX6_find 124 = .ok (.getfield 15, 3) := by decide +kernel
theorem dX6_find_127 : decode cX6_find 127 = .ok (.iconst 0, 1) := by decide +kernel
theorem dX6_find_128 : decode cX6_find 128 = .ok (.aload_n 0, 1) := by decide +kernel
theorem dX6_find_129 : decode cX6_find 129 = .ok (.getfield 11, 3) := by decide +kernel
theorem dX6_find_132 : decode cX6_find 132 = .ok (.iconst 0, 1) := by decide +kernel
theorem dX6_find_133 : decode cX6_find 133 = .ok (.iload 4, 2) := by decide +kernel
theorem dX6_find_135 : decode cX6_find 135 = .ok (.invokestatic 53, 3) := by decide +kernel
theorem dX6_find_138 : decode cX6_find 138 = .ok (.aload_n 0, 1) := by decide +kernel
theorem dX6_find_139 : decode cX6_find 139 = .ok (.iload 4, 2) := by decide +kernel
theorem dX6_find_141 : decode cX6_find 141 = .ok (.putfield 24, 3) := by decide +kernel
theorem dX6_find_144 : decode cX6_find 144 = .ok (.aload_n 0, 1) := by decide +kernel
theorem dX6_find_145 : decode cX6_find 145 = .ok (.aload_n 0, 1) := by decide +kernel
theorem dX6_find_146 : decode cX6_find 146 = .ok (.aload_n 2, 1) := by decide +kernel
theorem dX6_find_147 : decode cX6_find 147 = .ok (.aload_n 3, 1) := by decide +kernel
theorem dX6_find_148 : decode cX6_find 148 = .ok (.invokevirtual 59, 3) := by decide +kernel
theorem dX6_find_151 : decode cX6_find 151 = .ok (.putfield 28, 3) := by decide +kernel
theorem dX6_find_154 : decode cX6_find 154 = .ok (.iload 4, 2) := by decide +kernel
theorem dX6_find_156 : decode cX6_find 156 = .ok (.ireturn, 1) := by decide +kernel
theorem dX6_isAsTold_0 : decode cX6_isAsTold 0 = .ok (.aload_n 0, 1) := by decide +kernel
theorem dX6_isAsTold_1 : decode cX6_isAsTold 1 = .ok (.getfield 63, 3) := by decide +kernel
theorem dX6_isAsTold_4 : decode cX6_isAsTold 4 = .ok (.istore_n 2, 1) := by decide +kernel
theorem dX6_isAsTold_5 : decode cX6_isAsTold 5 = .ok (.iload_n 2, 1) := by decide +kernel
theorem dX6_isAsTold_6 : decode cX6_isAsTold 6 = .ok (.iconst 3, 1) := by decide +kernel
theorem dX6_isAsTold_7 : decode cX6_isAsTold 7 = .ok (.if_icmp .lt 34, 3) := by decide +kernel
theorem dX6_isAsTold_10 : decode cX6_isAsTold 10 = .ok (.iload_n 2, 1) := by decide +kernel
theorem dX6_isAsTold_11 : decode cX6_isAsTold 11 = .ok (.bipush 13, 2) := by decide +kernel
theorem dX6_isAsTold_13 : decode cX6_isAsTold 13 = .ok (.if_icmp .gt 28, 3) := by decide +kernel
theorem dX6_isAsTold_16 : decode cX6_isAsTold 16 = .ok (.iload_n 2, 1) := by decide +kernel
theorem dX6_isAsTold_17 : decode cX6_isAsTold 17 = .ok (.iconst 2, 1) := by decide +kernel
theorem dX6_isAsTold_18 : decode cX6_isAsTold 18 = .ok (.irem, 1) := by decide +kernel
theorem dX6_isAsTold_19 : decode cX6_isAsTold 19 = .ok (.ifCond .eq 22, 3) := by decide +kernel
theorem dX6_isAsTold_22 : decode cX6_isAsTold 22 = .ok (.aload_n 0, 1) := by decide +kernel
theorem dX6_isAsTold_23 : decode cX6_isAsTold 23 = .ok (.iconst 0, 1) := by decide +kernel
theorem dX6_isAsTold_24 : decode cX6_isAsTold 24 = .ok (.invokevirtual 35, 3) := by decide +kernel
theorem dX6_isAsTold_27 : decode cX6_isAsTold 27 = .ok (.iconst 1, 1) := by decide +kernel
theorem dX6_isAsTold_28 : decode cX6_isAsTold 28 = .ok (.if_icmp .lt 13, 3) := by decide +kernel
theorem dX6_isAsTold_31 : decode cX6_isAsTold 31 = .ok (.aload_n 0, 1) := by decide +kernel
theorem dX6_isAsTold_32 : decode cX6_isAsTold 32 = .ok (.iconst 0, 1) := by decide +kernel
theorem dX6_isAsTold_33 : decode cX6_isAsTold 33 = .ok (.invokevirtual 35, 3) := by decide +kernel
theorem dX6_isAsTold_36 : decode cX6_isAsTold 36 = .ok (.bipush 30, 2) := by decide +kernel
theorem dX6_isAsTold_38 : decode cX6_isAsTold 38 = .ok (.if_icmp .le 5, 3) := by decide +kernel
theorem dX6_isAsTold_41 : decode cX6_isAsTold 41 = .ok (.iconst 0, 1) := by decide +kernel
theorem dX6_isAsTold_42 : decode cX6_isAsTold 42 = .ok (.ireturn, 1) := by decide +kernel
theorem dX6_isAsTold_43 : decode cX6_isAsTold 43 = .ok (.iconst 1, 1) := by decide +kernel
theorem dX6_isAsTold_44 : decode cX6_isAsTold 44 = .ok (.istore_n 3, 1) := by decide +kernel
theorem dX6_isAsTold_45 : decode cX6_isAsTold 45 = .ok (.iload_n 3, 1) := by decide +kernel
theorem dX6_isAsTold_46 : decode cX6_isAsTold 46 = .ok (.iload_n 2, 1) := by decide +kernel
theorem dX6_isAsTold_47 : decode cX6_isAsTold 47 = .ok (.if_icmp .ge 46, 3) := by decide +kernel
theorem dX6_isAsTold_50 : decode cX6_isAsTold 50 = .ok (.aload_n 0, 1) := by decide +kernel
theorem dX6_isAsTold_51 : decode cX6_isAsTold 51 = .ok (.iload_n 3, 1) := by decide +kernel
theorem dX6_isAsTold_52 : decode cX6_isAsTold 52 = .ok (.iconst 1, 1) := by decide +kernel
theorem dX6_isAsTold_53 : decode cX6_isAsTold 53 = .ok (.iadd, 1) := by decide +kernel
theorem dX6_isAsTold_54 : decode cX6_isAsTold 54 = .ok (.invokevirtual 35, 3) := by decide +kernel
theorem dX6_isAsTold_57 : decode cX6_isAsTold 57 = .ok (.istore 4, 2) := by decide +kernel
theorem dX6_isAsTold_59 : decode cX6_isAsTold 59 = .ok (.aload_n 1, 1) := by decide +kernel
theorem dX6_isAsTold_60 : decode cX6_isAsTold 60 = .ok (.aload_n 0, 1) := by decide +kernel
theorem dX6_isAsTold_61 : decode cX6_isAsTold 61 = .ok (.iload_n 3, 1) := by decide +kernel
theorem dX6_isAsTold_62 : decode cX6_isAsTold 62 = .ok (.invokevirtual 35, 3) := by decide +kernel
theorem dX6_isAsTold_65 : decode cX6_isAsTold 65 = .ok (.invokevirtual 66, 3) := by decide +kernel
theorem dX6_isAsTold_68 : decode cX6_isAsTold 68 = .ok (.ifCond .eq 17, 3) := by decide +kernel
theorem dX6_isAsTold_71 : decode cX6_isAsTold 71 = .ok (.iload 4, 2) := by decide +kernel
theorem dX6_isAsTold_73 : decode cX6_isAsTold 73 = .ok (.iconst 4, 1) := by decide +kernel
theorem dX6_isAsTold_74 : decode cX6_isAsTold 74 = .ok (.if_icmp .le 13, 3) := by decide +kernel
theorem dX6_isAsTold_77 : decode cX6_isAsTold 77 = .ok (.iload 4, 2) := by decide +kernel
theorem dX6_isAsTold_79 : decode cX6_isAsTold 79 = .ok (.sipush 255, 3) := by decide +kernel
theorem dX6_isAsTold_82 : decode cX6_isAsTold 82 = .ok (.if_icmp .eq 5, 3) := by decide +kernel
theorem dX6_isAsTold_85 : decode cX6_isAsTold 85 = .ok (.iconst 0, 1) := by decide +kernel
theorem dX6_isAsTold_86 : decode cX6_isAsTold 86 = .ok (.ireturn, 1) := by decide +kernel
theorem dX6_isAsTold_87 : decode cX6_isAsTold 87 = .ok (.iinc 3 2, 3) := by decide +kernel
theorem dX6_isAsTold_90 : decode cX6_isAsTold 90 = .ok (.goto (-45), 3) := by decide +kernel
theorem dX6_isAsTold_93 : decode cX6_isAsTold 93 = .ok (.iconst 1, 1) := by decide +kernel
theorem dX6_isAsTold_94 : decode cX6_isAsTold 94 = .ok (.ireturn, 1) := by decide +kernel
theorem dX6_fits_0 : decode cX6_fits 0 = .ok (.iconst 1, 1) := by decide +kernel
theorem dX6_fits_1 : decode cX6_fits 1 = .ok (.istore 4, 2) := by decide +kernel
theorem dX6_fits_3 : decode cX6_fits 3 = .ok (.iload 4, 2) := by decide +kernel
theorem dX6_fits_5 : decode cX6_fits 5 = .ok (.aload_n 1, 1) := by decide +kernel
theorem dX6_fits_6 : decode cX6_fits 6 = .ok (.getfield 63, 3) := by decide +kernel
theorem dX6_fits_9 : decode cX6_fits 9 = .ok (.if_icmp .ge 78, 3) := by decide +kernel
theorem dX6_fits_12 : decode cX6_fits 12 = .ok (.aload_n 1, 1) := by decide +kernel
theorem dX6_fits_13 : decode cX6_fits 13 = .ok (.iload 4, 2) := by decide +kernel
theorem dX6_fits_15 : decode cX6_fits 15 = .ok (.invokevirtual 35, 3) := by decide +kernel
theorem dX6_fits_18 : decode cX6_fits 18 = .ok (.istore 5, 2) := by decide +kernel
theorem dX6_fits_20 : decode cX6_fits 20 = .ok (.aload_n 1, 1) := by decide +kernel
theorem dX6_fits_21 : decode cX6_fits 21 = .ok (.iload 4, 2) := by decide +kernel
theorem dX6_fits_23 : decode cX6_fits 23 = .ok (.iconst 1, 1) := by decide +kernel
theorem dX6_fits_24 : decode cX6_fits 24 = .ok (.iadd, 1) := by decide +kernel
theorem dX6_fits_25 : decode cX6_fits 25 = .ok (.invokevirtual 35, 3) := by decide +kernel
theorem dX6_fits_28 : decode cX6_fits 28 = .ok (.sipush 255, 3) := by decide +kernel
theorem dX6_fits_31 : decode cX6_fits 31 = .ok (.if_icmp .ne 7, 3) := by decide +kernel
theorem dX6_fits_34 : decode cX6_fits 34 = .ok (.iconst (-1), 1) := by decide +kernel
theorem dX6_fits_35 : decode cX6_fits 35 = .ok (.goto 11, 3) := by decide +kernel
theorem dX6_fits_38 : decode cX6_fits 38 = .ok (.aload_n 1, 1) := by decide +kernel
theorem dX6_fits_39 : decode cX6_fits 39 = .ok (.iload 4, 2) := by decide +kernel
theorem dX6_fits_41 : decode cX6_fits 41 = .ok (.iconst 1, 1) := by decide +kernel
theorem dX6_fits_42 : decode cX6_fits 42 = .ok (.iadd, 1) := by decide +kernel
theorem dX6_fits_43 : decode cX6_fits 43 = .ok (.invokevirtual 35, 3) := by decide +kernel
theorem dX6_fits_46 : decode cX6_fits 46 = .ok (.istore 6, 2) := by decide +kernel
theorem dX6_fits_48 : decode cX6_fits 48 = .ok (.aload_n 2, 1) := by decide +kernel
theorem dX6_fits_49 : decode cX6_fits 49 = .ok (.iload 5, 2) := by decide +kernel
theorem dX6_fits_51 : decode cX6_fits 51 = .ok (.invokevirtual 66, 3) := by decide +kernel
theorem dX6_fits_54 : decode cX6_fits 54 = .ok (.ifCond .eq 25, 3) := by decide +kernel
theorem dX6_fits_57 : decode cX6_fits 57 = .ok (.aload_n 2, 1) := by decide +kernel
theorem dX6_fits_58 : decode cX6_fits 58 = .ok (.iload 5, 2) := by decide +kernel
theorem dX6_fits_60 : decode cX6_fits 60 = .ok (.aload_n 3, 1) := by decide +kernel
theorem dX6_fits_61 : decode cX6_fits 61 = .ok (.getfield 70, 3) := by decide +kernel
theorem dX6_fits_64 : decode cX6_fits 64 = .ok (.iload 5, 2) := by decide +kernel
theorem dX6_fits_66 : decode cX6_fits 66 = .ok (.iaload, 1) := by decide +kernel
theorem dX6_fits_67 : decode cX6_fits 67 = .ok (.aload_n 0, 1) := by decide +kernel
theorem dX6_fits_68 : decode cX6_fits 68 = .ok (.getfield 18, 3) := by decide +kernel
theorem dX6_fits_71 : decode cX6_fits 71 = .ok (.invokevirtual 75, 3) := by decide +kernel
theorem dX6_fits_74 : decode cX6_fits 74 = .ok (.iload 6, 2) := by decide +kernel
theorem dX6_fits_76 : decode cX6_fits 76 = .ok (.if_icmp .eq 5, 3) := by decide +kernel
theorem dX6_fits_79 : decode cX6_fits 79 = .ok (.iconst 0, 1) := by decide +kernel
theorem dX6_fits_80 : decode cX6_fits 80 = .ok (.ireturn, 1) := by decide +kernel
theorem dX6_fits_81 : decode cX6_fits 81 = .ok (.iinc 4 2, 3) := by decide +kernel
theorem dX6_fits_84 : decode cX6_fits 84 = .ok (.goto (-81), 3) := by decide +kernel
theorem dX6_fits_87 : decode cX6_fits 87 = .ok (.iconst 1, 1) := by decide +kernel
theorem dX6_fits_88 : decode cX6_fits 88 = .ok (.ireturn, 1) := by decide +kernel
theorem dX6_findNext_0 : decode cX6_findNext 0 = .ok (.iconst (-1), 1) := by decide +kernel
theorem dX6_findNext_1 : decode cX6_findNext 1 = .ok (.istore_n 3, 1) := by decide +kernel
theorem dX6_findNext_2 : decode cX6_findNext 2 = .ok (.bipush 82, 2) := by decide +kernel
theorem dX6_findNext_4 : decode cX6_findNext 4 = .ok (.istore 4, 2) := by decide +kernel
theorem dX6_findNext_6 : decode cX6_findNext 6 = .ok (.iconst 0, 1) := by decide +kernel
theorem dX6_findNext_7 : decode cX6_findNext 7 = .ok (.istore 5, 2) := by decide +kernel
theorem dX6_findNext_9 : decode cX6_findNext 9 = .ok (.iload 5, 2) := by decide +kernel
theorem dX6_findNext_11 : decode cX6_findNext 11 = .ok (.aload_n 1, 1) := by decide +kernel
theorem dX6_findNext_12 : decode cX6_findNext 12 = .ok (.getfield 79, 3) := by decide +kernel
theorem dX6_findNext_15 : decode cX6_findNext 15 = .ok (.if_icmp .ge 33, 3) := by decide +kernel
theorem dX6_findNext_18 : decode cX6_findNext 18 = .ok (.aload_n 0, 1) := by decide +kernel
theorem dX6_findNext_19 : decode cX6_findNext 19 = .ok (.aload_n 1, 1) := by decide +kernel
theorem dX6_findNext_20 : decode cX6_findNext 20 = .ok (.aload_n 2, 1) := by decide +kernel
theorem dX6_findNext_21 : decode cX6_findNext 21 = .ok (.iload 5, 2) := by decide +kernel
theorem dX6_findNext_23 : decode cX6_findNext 23 = .ok (.invokevirtual 82, 3) := by decide +kernel
theorem dX6_findNext_26 : decode cX6_findNext 26 = .ok (.istore 6, 2) := by decide +kernel
theorem dX6_findNext_28 : decode cX6_findNext 28 = .ok (.iload 6, 2) := by decide +kernel
theorem dX6_findNext_30 : decode cX6_findNext 30 = .ok (.iload 4, 2) := by decide +kernel
theorem dX6_findNext_32 : decode cX6_findNext 32 = .ok (.if_icmp .ge 10, 3) := by decide +kernel
theorem dX6_findNext_35 : decode cX6_findNext 35 = .ok (.iload 6, 2) := by decide +kernel
theorem dX6_findNext_37 : decode cX6_findNext 37 = .ok (.istore 4, 2) := by decide +kernel
theorem dX6_findNext_39 : decode cX6_findNext 39 = .ok (.iload 5, 2) := by decide +kernel
theorem dX6_findNext_41 : decode cX6_findNext 41 = .ok (.istore_n 3, 1) := by decide +kernel
theorem dX6_findNext_42 : decode cX6_findNext 42 = .ok (.iinc 5 1, 3) := by decide +kernel
theorem dX6_findNext_45 : decode cX6_findNext 45 = .ok (.goto (-36), 3) := by decide +kernel
theorem dX6_findNext_48 : decode cX6_findNext 48 = .ok (.iload_n 3, 1) := by decide +kernel
theorem dX6_findNext_49 : decode cX6_findNext 49 = .ok (.ireturn, 1) := by decide +kernel
theorem dX6_mostLeft_0 : decode cX6_mostLeft 0 = .ok (.iconst 0, 1) := by decide +kernel
theorem dX6_mostLeft_1 : decode cX6_mostLeft 1 = .ok (.istore 4, 2) := by decide +kernel
theorem dX6_mostLeft_3 : decode cX6_mostLeft 3 = .ok (.iload 4, 2) := by decide +kernel
theorem dX6_mostLeft_5 : decode cX6_mostLeft 5 = .ok (.aload_n 0, 1) := by decide +kernel
theorem dX6_mostLeft_6 : decode cX6_mostLeft 6 = .ok (.getfield 21, 3) := by decide +kernel
theorem dX6_mostLeft_9 : decode cX6_mostLeft 9 = .ok (.arraylength, 1) := by decide +kernel
theorem dX6_mostLeft_10 : decode cX6_mostLeft 10 = .ok (.if_icmp .ge 17, 3) := by decide +kernel
theorem dX6_mostLeft_13 : decode cX6_mostLeft 13 = .ok (.aload_n 0, 1) := by decide +kernel
theorem dX6_mostLeft_14 : decode cX6_mostLeft 14 = .ok (.getfield 21, 3) := by decide +kernel
theorem dX6_mostLeft_17 : decode cX6_mostLeft 17 = .ok (.iload 4, 2) := by decide +kernel
theorem dX6_mostLeft_19 : decode cX6_mostLeft 19 = .ok (.iconst 0, 1) := by decide +kernel
theorem dX6_mostLeft_20 : decode cX6_mostLeft 20 = .ok (.iastore, 1) := by decide +kernel
theorem dX6_mostLeft_21 : decode cX6_mostLeft 21 = .ok (.iinc 4 1, 3) := by decide +kernel
theorem dX6_mostLeft_24 : decode cX6_mostLeft 24 = .ok (.goto (-21), 3) := by decide +kernel
theorem dX6_mostLeft_27 : decode cX6_mostLeft 27 = .ok (.iconst 0, 1) := by decide +kernel
theorem dX6_mostLeft_28 : decode cX6_mostLeft 28 = .ok (.istore 4, 2) := by decide +kernel
theorem dX6_mostLeft_30 : decode cX6_mostLeft 30 = .ok (.iconst 0, 1) := by decide +kernel
theorem dX6_mostLeft_31 : decode cX6_mostLeft 31 = .ok (.istore 5, 2) := by decide +kernel
theorem dX6_mostLeft_33 : decode cX6_mostLeft 33 = .ok (.iload 5, 2) := by decide +kernel
theorem dX6_mostLeft_35 : decode cX6_mostLeft 35 = .ok (.aload_n 0, 1) := by decide +kernel
theorem dX6_mostLeft_36 : decode cX6_mostLeft 36 = .ok (.getfield 24, 3) := by decide +kernel
theorem dX6_mostLeft_39 : decode cX6_mostLeft 39 = .ok (.if_icmp .ge 85, 3) := by decide +kernel
theorem dX6_mostLeft_42 : decode cX6_mostLeft 42 = .ok (.aload_n 0, 1) := by decide +kernel
theorem dX6_mostLeft_43 : decode cX6_mostLeft 43 = .ok (.getfield 18, 3) := by decide +kernel
theorem dX6_mostLeft_46 : decode cX6_mostLeft 46 = .ok (.iconst 1, 1) := by decide +kernel
theorem dX6_mostLeft_47 : decode cX6_mostLeft 47 = .ok (.aload_n 0, 1) := by decide +kernel
theorem dX6_mostLeft_48 : decode cX6_mostLeft 48 = .ok (.getfield 11, 3) := by decide +kernel
theorem dX6_mostLeft_51 : decode cX6_mostLeft 51 = .ok (.iload 5, 2) := by decide +kernel
theorem dX6_mostLeft_53 : decode cX6_mostLeft 53 = .ok (.iaload, 1) := by decide +kernel
theorem dX6_mostLeft_54 : decode cX6_mostLeft 54 = .ok (.bipush 9, 2) := by decide +kernel
theorem dX6_mostLeft_56 : decode cX6_mostLeft 56 = .ok (.irem, 1) := by decide +kernel
theorem dX6_mostLeft_57 : decode cX6_mostLeft 57 = .ok (.iastore, 1) := by decide +kernel
theorem dX6_mostLeft_58 : decode cX6_mostLeft 58 = .ok (.aload_n 0, 1) := by decide +kernel
theorem dX6_mostLeft_59 : decode cX6_mostLeft 59 = .ok (.getfield 18, 3) := by decide +kernel
theorem dX6_mostLeft_62 : decode cX6_mostLeft 62 = .ok (.iconst 2, 1) := by decide +kernel
theorem dX6_mostLeft_63 : decode cX6_mostLeft 63 = .ok (.aload_n 0, 1) := by decide +kernel
theorem dX6_mostLeft_64 : decode cX6_mostLeft 64 = .ok (.getfield 11, 3) := by decide +kernel
theorem dX6_mostLeft_67 : decode cX6_mostLeft 67 = .ok (.iload 5, 2) := by decide +kernel
theorem dX6_mostLeft_69 : decode cX6_mostLeft 69 = .ok (.iaload, 1) := by decide +kernel
theorem dX6_mostLeft_70 : decode cX6_mostLeft 70 = .ok (.bipush 9, 2) := by decide +kernel
theorem dX6_mostLeft_72 : decode cX6_mostLeft 72 = .ok (.idiv, 1) := by decide +kernel
theorem dX6_mostLeft_73 : decode cX6_mostLeft 73 = .ok (.iastore, 1) := by decide +kernel
theorem dX6_mostLeft_74 : decode cX6_mostLeft 74 = .ok (.aload_n 1, 1) := by decide +kernel
theorem dX6_mostLeft_75 : decode cX6_mostLeft 75 = .ok (.iload_n 3, 1) := by decide +kernel
theorem dX6_mostLeft_76 : decode cX6_mostLeft 76 = .ok (.aload_n 2, 1) := by decide +kernel
theorem dX6_mostLeft_77 : decode cX6_mostLeft 77 = .ok (.getfield 70, 3) := by decide +kernel
theorem dX6_mostLeft_80 : decode cX6_mostLeft 80 = .ok (.iload_n 3, 1) := by decide +kernel
theorem dX6_mostLeft_81 : decode cX6_mostLeft 81 = .ok (.iaload, 1) := by decide +kernel
theorem dX6_mostLeft_82 : decode cX6_mostLeft 82 = .ok (.aload_n 0, 1) := by decide +kernel
theorem dX6_mostLeft_83 : decode cX6_mostLeft 83 = .ok (.getfield 18, 3) := by decide +kernel
theorem dX6_mostLeft_86 : decode cX6_mostLeft 86 = .ok (.invokevirtual 75, 3) := by decide +kernel
theorem dX6_mostLeft_89 : decode cX6_mostLeft 89 = .ok (.iconst 1, 1) := by decide +kernel
theorem dX6_mostLeft_90 : decode cX6_mostLeft 90 = .ok (.iadd, 1) := by decide +kernel
theorem dX6_mostLeft_91 : decode cX6_mostLeft 91 = .ok (.istore 6, 2) := by decide +kernel
theorem dX6_mostLeft_93 : decode cX6_mostLeft 93 = .ok (.aload_n 0, 1) := by decide +kernel
theorem dX6_mostLeft_94 : decode cX6_mostLeft 94 = .ok (.getfield 21, 3) := by decide +kernel
theorem dX6_mostLeft_97 : decode cX6_mostLeft 97 = .ok (.iload 6, 2) := by decide +kernel
theorem dX6_mostLeft_99 : decode cX6_mostLeft 99 = .ok (.dup2, 1) := by decide +kernel
theorem dX6_mostLeft_100 : decode cX6_mostLeft 100 = .ok (.iaload, 1) := by decide +kernel
theorem dX6_mostLeft_101 : decode cX6_mostLeft 101 = .ok (.iconst 1, 1) := by decide +kernel
theorem dX6_mostLeft_102 : decode cX6_mostLeft 102 = .ok (.iadd, 1) := by decide +kernel
theorem dX6_mostLeft_103 : decode cX6_mostLeft 103 = .ok (.iastore, 1) := by decide +kernel
theorem dX6_mostLeft_104 : decode cX6_mostLeft 104 = .ok (.iload 4, 2) := by decide +kernel
theorem dX6_mostLeft_106 : decode cX6_mostLeft 106 = .ok (.aload_n 0, 1) := by decide +kernel
theorem dX6_mostLeft_107 : decode cX6_mostLeft 107 = .ok (.getfield 21, 3) := by decide +kernel
theorem dX6_mostLeft_110 : decode cX6_mostLeft 110 = .ok (.iload 6, 2) := by decide +kernel
theorem dX6_mostLeft_112 : decode cX6_mostLeft 112 = .ok (.iaload, 1) := by decide +kernel
theorem dX6_mostLeft_113 : decode cX6_mostLeft 113 = .ok (.invokestatic 86, 3) := by decide +kernel
theorem dX6_mostLeft_116 : decode cX6_mostLeft 116 = .ok (.istore 4, 2) := by decide +kernel
theorem dX6_mostLeft_118 : decode cX6_mostLeft 118 = .ok (.iinc 5 1, 3) := by decide +kernel
theorem dX6_mostLeft_121 : decode cX6_mostLeft 121 = .ok (.goto (-88), 3) := by decide +kernel
theorem dX6_mostLeft_124 : decode cX6_mostLeft 124 = .ok (.iload 4, 2) := by decide +kernel
theorem dX6_mostLeft_126 : decode cX6_mostLeft 126 = .ok (.ireturn, 1) := by decide +kernel
theorem dX7_init_0 : decode cX7_init 0 = .ok (.aload_n 0, 1) := by decide +kernel
theorem dX7_init_1 : decode cX7_init 1 = .ok (.invokespecial 3, 3) := by decide +kernel
theorem dX7_init_4 : decode cX7_init 4 = .ok (.aload_n 0, 1) := by decide +kernel
theorem dX7_init_5 : decode cX7_init 5 = .ok (.iconst 0, 1) := by decide +kernel
theorem dX7_init_6 : decode cX7_init 6 = .ok (.putfield 9, 3) := by decide +kernel
theorem dX7_init_9 : decode cX7_init 9 = .ok (.aload_n 0, 1) := by decide +kernel
theorem dX7_init_10 : decode cX7_init 10 = .ok (.iconst 0, 1) := by decide +kernel
theorem dX7_init_11 : decode cX7_init 11 = .ok (.putfield 15, 3) := by decide +kernel
theorem dX7_init_14 : decode cX7_init 14 = .ok (.aload_n 0, 1) := by decide +kernel
theorem dX7_init_15 : decode cX7_init 15 = .ok (.iconst 0, 1) := by decide +kernel
theorem dX7_init_16 : decode cX7_init 16 = .ok (.putfield 18, 3) := by decide +kernel
theorem dX7_init_19 : decode cX7_init 19 = .ok (.aload_n 0, 1) := by decide +kernel
theorem dX7_init_20 : decode cX7_init 20 = .ok (.iconst 4, 1) := by decide +kernel
theorem dX7_init_21 : decode cX7_init 21 = .ok (.newarray .int, 2) := by decide +kernel
theorem dX7_init_23 : decode cX7_init 23 = .ok (.putfield 21, 3) := by decide +kernel
theorem dX7_init_26 : decode cX7_init 26 = .ok (.aload_n 0, 1) := by decide +kernel
theorem dX7_init_27 : decode cX7_init 27 = .ok (.bipush 6, 2) := by decide +kernel
theorem dX7_init_29 : decode cX7_init 29 = .ok (.newarray .int, 2) := by decide +kernel
theorem dX7_init_31 : decode cX7_init 31 = .ok (.putfield 25, 3) := by decide +kernel
theorem dX7_init_34 : decode cX7_init 34 = .ok (.aload_n 0, 1) := by decide +kernel
theorem dX7_init_35 : decode cX7_init 35 = .ok (.bipush 6, 2) := by decide +kernel
theorem dX7_init_37 : decode cX7_init 37 = .ok (.newarray .int, 2) := by decide +kernel
theorem dX7_init_39 : decode cX7_init 39 = .ok (.putfield 28, 3) := by decide +kernel
theorem dX7_init_42 : decode cX7_init 42 = .ok (.aload_n 0, 1) := by decide +kernel
theorem dX7_init_43 : decode cX7_init 43 = .ok (.bipush 6, 2) := by decide +kernel
theorem dX7_init_45 : decode cX7_init 45 = .ok (.newarray .int, 2) := by decide +kernel
theorem dX7_init_47 : decode cX7_init 47 = .ok (.putfield 31, 3) := by decide +kernel
theorem dX7_init_50 : decode cX7_init 50 = .ok (.return_, 1) := by decide +kernel
theorem dX7_begin_0 : decode cX7_begin 0 = .ok (.aload_n 0, 1) := by decide +kernel
theorem dX7_begin_1 : decode cX7_begin 1 = .ok (.iconst 0, 1) := by decide +kernel
theorem dX7_begin_2 : decode cX7_begin 2 = .ok (.putfield 9, 3) := by decide +kernel
theorem dX7_begin_5 : decode cX7_begin 5 = .ok (.aload_n 0, 1) := by decide +kernel
theorem dX7_begin_6 : decode cX7_begin 6 = .ok (.iconst 0, 1) := by decide +kernel
theorem dX7_begin_7 : decode cX7_begin 7 = .ok (.putfield 15, 3) := by decide +kernel
theorem dX7_begin_10 : decode cX7_begin 10 = .ok (.aload_n 0, 1) := by decide +kernel
theorem dX7_begin_11 : decode cX7_begin 11 = .ok (.iconst 0, 1) := by decide +kernel
theorem dX7_begin_12 : decode cX7_begin 12 = .ok (.putfield 18, 3) := by decide +kernel
theorem dX7_begin_15 : decode cX7_begin 15 = .ok (.aload_n 0, 1) := by decide +kernel
theorem dX7_begin_16 : decode cX7_begin 16 = .ok (.getfield 21, 3) := by decide +kernel
theorem dX7_begin_19 : decode cX7_begin 19 = .ok (.iconst 3, 1) := by decide +kernel
theorem dX7_begin_20 : decode cX7_begin 20 = .ok (.iconst 0, 1) := by decide +kernel
theorem dX7_begin_21 : decode cX7_begin 21 = .ok (.iastore, 1) := by decide +kernel
theorem dX7_begin_22 : decode cX7_begin 22 = .ok (.iconst 0, 1) := by decide +kernel
theorem dX7_begin_23 : decode cX7_begin 23 = .ok (.istore_n 2, 1) := by decide +kernel
theorem dX7_begin_24 : decode cX7_begin 24 = .ok (.iload_n 2, 1) := by decide +kernel
theorem dX7_begin_25 : decode cX7_begin 25 = .ok (.aload_n 1, 1) := by decide +kernel
theorem dX7_begin_26 : decode cX7_begin 26 = .ok (.getfield 34, 3) := by decide +kernel
theorem dX7_begin_29 : decode cX7_begin 29 = .ok (.if_icmp .ge 23, 3) := by decide +kernel
theorem dX7_begin_32 : decode cX7_begin 32 = .ok (.aload_n 0, 1) := by decide +kernel
theorem dX7_begin_33 : decode cX7_begin 33 = .ok (.getfield 25, 3) := by decide +kernel
theorem dX7_begin_36 : decode cX7_begin 36 = .ok (.iload_n 2, 1) := by decide +kernel
theorem dX7_begin_37 : decode cX7_begin 37 = .ok (.aload_n 1, 1) := by decide +kernel
theorem dX7_begin_38 : decode cX7_begin 38 = .ok (.getfield 39, 3) := by decide +kernel
theorem dX7_begin_41 : decode cX7_begin 41 = .ok (.iload_n 2, 1) := by decide +kernel
theorem dX7_begin_42 : decode cX7_begin 42 = .ok (.aaload, 1) := by decide +kernel
theorem dX7_begin_43 : decode cX7_begin 43 = .ok (.iconst 0, 1) := by decide +kernel
theorem dX7_begin_44 : decode cX7_begin 44 = .ok (.iaload, 1) := by decide +kernel
theorem dX7_begin_45 : decode cX7_begin 45 = .ok (.iastore, 1) := by decide +kernel
theorem dX7_begin_46 : decode cX7_begin 46 = .ok (.iinc 2 1, 3) := by decide +kernel
theorem dX7_begin_49 : decode cX7_begin 49 = .ok (.goto (-25), 3) := by decide +kernel
theorem dX7_begin_52 : decode cX7_begin 52 = .ok (.iconst 0, 1) := by decide +kernel
theorem dX7_begin_53 : decode cX7_begin 53 = .ok (.istore_n 2, 1) := by decide +kernel
theorem dX7_begin_54 : decode cX7_begin 54 = .ok (.iload_n 2, 1) := by decide +kernel
theorem dX7_begin_55 : decode cX7_begin 55 = .ok (.bipush 6, 2) := by decide +kernel
theorem dX7_begin_57 : decode cX7_begin 57 = .ok (.if_icmp .ge 23, 3) := by decide +kernel
theorem dX7_begin_60 : decode cX7_begin 60 = .ok (.aload_n 0, 1) := by decide +kernel
theorem dX7_begin_61 : decode cX7_begin 61 = .ok (.getfield 28, 3) := by decide +kernel
theorem dX7_begin_64 : decode cX7_begin 64 = .ok (.iload_n 2, 1) := by decide +kernel
theorem dX7_begin_65 : decode cX7_begin 65 = .ok (.iconst 0, 1) := by decide +kernel
theorem dX7_begin_66 : decode cX7_begin 66 = .ok (.iastore, 1) := by decide +kernel
theorem dX7_begin_67 : decode cX7_begin 67 = .ok (.aload_n 0, 1) := by decide +kernel
theorem dX7_begin_68 : decode cX7_begin 68 = .ok (.getfield 31, 3) := by decide +kernel
theorem dX7_begin_71 : decode cX7_begin 71 = .ok (.iload_n 2, 1) := by decide +kernel
theorem dX7_begin_72 : decode cX7_begin 72 = .ok (.iconst 0, 1) := by decide +kernel
theorem dX7_begin_73 : decode cX7_begin 73 = .ok (.iastore, 1) := by decide +kernel
theorem dX7_begin_74 : decode cX7_begin 74 = .ok (.iinc 2 1, 3) := by decide +kernel
theorem dX7_begin_77 : decode cX7_begin 77 = .ok (.goto (-23), 3) := by decide +kernel
theorem dX7_begin_80 : decode cX7_begin 80 = .ok (.return_, 1) := by decide +kernel
theorem dX7_copyFrom_0 : decode cX7_copyFrom 0 = .ok (.aload_n 0, 1) := by decide +kernel
theorem dX7_copyFrom_1 : decode cX7_copyFrom 1 = .ok (.aload_n 1, 1) := by decide +kernel
theorem dX7_copyFrom_2 : decode cX7_copyFrom 2 = .ok (.getfield 9, 3) := by decide +kernel
theorem dX7_copyFrom_5 : decode cX7_copyFrom 5 = .ok (.putfield 9, 3) := by decide +kernel
theorem dX7_copyFrom_8 : decode cX7_copyFrom 8 = .ok (.aload_n 0, 1) := by decide +kernel
theorem dX7_copyFrom_9 : decode cX7_copyFrom 9 = .ok (.aload_n 1, 1) := by decide +kernel
theorem dX7_copyFrom_10 : decode cX7_copyFrom 10 = .ok (.getfield 15, 3) := by decide +kernel
theorem dX7_copyFrom_13 : decode cX7_copyFrom 13 = .ok (.putfield 15, 3) := by decide +kernel
theorem dX7_copyFrom_16 : decode cX7_copyFrom 16 = .ok (.aload_n 0, 1) := by decide +kernel
theorem dX7_copyFrom_17 : decode cX7_copyFrom 17 = .ok (.aload_n 1, 1) := by decide +kernel
theorem dX7_copyFrom_18 : decode cX7_copyFrom 18 = .ok (.getfield 18, 3) := by decide +kernel
theorem dX7_copyFrom_21 : decode cX7_copyFrom 21 = .ok (.putfield 18, 3) := by decide +kernel
theorem dX7_copyFrom_24 : decode cX7_copyFrom 24 = .ok (.aload_n 1, 1) := by decide +kernel
theorem dX7_copyFrom_25 : decode cX7_copyFrom 25 = .ok (.getfield 21, 3) := by decide +kernel
theorem dX7_copyFrom_28 : decode cX7_copyFrom 28 = .ok (.iconst 0, 1) := by decide +kernel
theorem dX7_copyFrom_29 : decode cX7_copyFrom 29 = .ok (.aload_n 0, 1) := by decide +kernel
theorem dX7_copyFrom_30 : decode cX7_copyFrom 30 = .ok (.getfield 21, 3) := by decide +kernel
theorem dX7_copyFrom_33 : decode cX7_copyFrom 33 = .ok (.iconst 0, 1) := by decide +kernel
theorem dX7_copyFrom_34 : decode cX7_copyFrom 34 = .ok (.aload_n 0, 1) := by decide +kernel
theorem dX7_copyFrom_35 : decode cX7_copyFrom 35 = .ok (.getfield 21, 3) := by decide +kernel
theorem dX7_copyFrom_38 : decode cX7_copyFrom 38 = .ok (.arraylength, 1) := by decide +kernel
theorem dX7_copyFrom_39 : decode cX7_copyFrom 39 = .ok (.invokestatic 43, 3) := by decide +kernel
theorem dX7_copyFrom_42 : decode cX7_copyFrom 42 = .ok (.aload_n 1, 1) := by decide +kernel
theorem dX7_copyFrom_43 : decode cX7_copyFrom 43 = .ok (.getfield 25, 3) := by decide +kernel
theorem dX7_copyFrom_46 : decode cX7_copyFrom 46 = .ok (.iconst 0, 1) := by decide +kernel
theorem dX7_copyFrom_47 : decode cX7_copyFrom 47 = .ok (.aload_n 0, 1) := by decide +kernel
theorem dX7_copyFrom_48 : decode cX7_copyFrom 48 = .ok (.getfield 25, 3) := by decide +kernel
theorem dX7_copyFrom_51 : decode cX7_copyFrom 51 = .ok (.iconst 0, 1) := by decide +kernel
theorem dX7_copyFrom_52 : decode cX7_copyFrom 52 = .ok (.bipush 6, 2) := by decide +kernel
theorem dX7_copyFrom_54 : decode cX7_copyFrom 54 = .ok (.invokestatic 43, 3) := by decide +kernel
theorem dX7_copyFrom_57 : decode cX7_copyFrom 57 = .ok (.aload_n 1, 1) := by decide +kernel
theorem dX7_copyFrom_58 : decode cX7_copyFrom 58 = .ok (.getfield 28, 3) := by decide +kernel
theorem dX7_copyFrom_61 : decode cX7_copyFrom 61 = .ok (.iconst 0, 1) := by decide +kernel
theorem dX7_copyFrom_62 : decode cX7_copyFrom 62 = .ok (.aload_n 0, 1) := by decide +kernel
theorem dX7_copyFrom_63 : decode cX7_copyFrom 63 = .ok (.getfield 28, 3) := by decide +kernel
theorem dX7_copyFrom_66 : decode cX7_copyFrom 66 = .ok (.iconst 0, 1) := by decide +kernel
theorem dX7_copyFrom_67 : decode cX7_copyFrom 67 = .ok (.bipush 6, 2) := by decide +kernel
theorem dX7_copyFrom_69 : decode cX7_copyFrom 69 = .ok (.invokestatic 43, 3) := by decide +kernel
theorem dX7_copyFrom_72 : decode cX7_copyFrom 72 = .ok (.aload_n 1, 1) := by decide +kernel
theorem dX7_copyFrom_73 : decode cX7_copyFrom 73 = .ok (.getfield 31, 3) := by decide +kernel
theorem dX7_copyFrom_76 : decode cX7_copyFrom 76 = .ok (.iconst 0, 1) := by decide +kernel
theorem dX7_copyFrom_77 : decode cX7_copyFrom 77 = .ok (.aload_n 0, 1) := by decide +kernel
theorem dX7_copyFrom_78 : decode cX7_copyFrom 78 = .ok (.getfield 31, 3) := by decide +kernel
theorem dX7_copyFrom_81 : decode cX7_copyFrom 81 = .ok (.iconst 0, 1) := by decide +kernel
theorem dX7_copyFrom_82 : decode cX7_copyFrom 82 = .ok (.bipush 6, 2) := by decide +kernel
theorem dX7_copyFrom_84 : decode cX7_copyFrom 84 = .ok (.invokestatic 43, 3) := by decide +kernel
theorem dX7_copyFrom_87 : decode cX7_copyFrom 87 = .ok (.return_, 1) := by decide +kernel
theorem dX7_total_0 : decode cX7_total 0 = .ok (.iconst 0, 1) := by decide +kernel
theorem dX7_total_1 : decode cX7_total 1 = .ok (.istore_n 2, 1) := by decide +kernel
theorem dX7_total_2 : decode cX7_total 2 = .ok (.iconst 0, 1) := by decide +kernel
theorem dX7_total_3 : decode cX7_total 3 = .ok (.istore_n 3, 1) := by decide +kernel
theorem dX7_total_4 : decode cX7_total 4 = .ok (.iload_n 3, 1) := by decide +kernel
theorem dX7_total_5 : decode cX7_total 5 = .ok (.iload_n 1, 1) := by decide +kernel
theorem dX7_total_6 : decode cX7_total 6 = .ok (.if_icmp .ge 21, 3) := by decide +kernel
theorem dX7_total_9 : decode cX7_total 9 = .ok (.iload_n 3, 1) := by decide +kernel
theorem dX7_total_10 : decode cX7_total 10 = .ok (.aload_n 0, 1) := by decide +kernel
theorem dX7_total_11 : decode cX7_total 11 = .ok (.arraylength, 1) := by decide +kernel
theorem dX7_total_12 : decode cX7_total 12 = .ok (.if_icmp .ge 15, 3) := by decide +kernel
theorem dX7_total_15 : decode cX7_total 15 = .ok (.iload_n 2, 1) := by decide +kernel
theorem dX7_total_16 : decode cX7_total 16 = .ok (.aload_n 0, 1) := by decide +kernel
theorem dX7_total_17 : decode cX7_total 17 = .ok (.iload_n 3, 1) := by decide +kernel
theorem dX7_total_18 : decode cX7_total 18 = .ok (.iaload, 1) := by decide +kernel
theorem dX7_total_19 : decode cX7_total 19 = .ok (.iadd, 1) := by decide +kernel
theorem dX7_total_20 : decode cX7_total 20 = .ok (.istore_n 2, 1) := by decide +kernel
theorem dX7_total_21 : decode cX7_total 21 = .ok (.iinc 3 1, 3) := by decide +kernel
theorem dX7_total_24 : decode cX7_total 24 = .ok (.goto (-20), 3) := by decide +kernel
theorem dX7_total_27 : decode cX7_total 27 = .ok (.iload_n 2, 1) := by decide +kernel
theorem dX7_total_28 : decode cX7_total 28 = .ok (.ireturn, 1) := by decide +kernel
theorem dX7_owlAt_0 : decode cX7_owlAt 0 = .ok (.iconst 0, 1) := by decide +kernel
theorem dX7_owlAt_1 : decode cX7_owlAt 1 = .ok (.istore_n 3, 1) := by decide +kernel
theorem dX7_owlAt_2 : decode cX7_owlAt 2 = .ok (.iload_n 3, 1) := by decide +kernel
theorem dX7_owlAt_3 : decode cX7_owlAt 3 = .ok (.aload_n 1, 1) := by decide +kernel
theorem dX7_owlAt_4 : decode cX7_owlAt 4 = .ok (.getfield 34, 3) := by decide +kernel
theorem dX7_owlAt_7 : decode cX7_owlAt 7 = .ok (.if_icmp .ge 21, 3) := by decide +kernel
theorem dX7_owlAt_10 : decode cX7_owlAt 10 = .ok (.aload_n 0, 1) := by decide +kernel
theorem dX7_owlAt_11 : decode cX7_owlAt 11 = .ok (.getfield 25, 3) := by decide +kernel
theorem dX7_owlAt_14 : decode cX7_owlAt 14 = .ok (.iload_n 3, 1) := by decide +kernel
theorem dX7_owlAt_15 : decode cX7_owlAt 15 = .ok (.iaload, 1) := by decide +kernel
theorem dX7_owlAt_16 : decode cX7_owlAt 16 = .ok (.iload_n 2, 1) := by decide +kernel
theorem dX7_owlAt_17 : decode cX7_owlAt 17 = .ok (.if_icmp .ne 5, 3) := by decide +kernel
theorem dX7_owlAt_20 : decode cX7_owlAt 20 = .ok (.iload_n 3, 1) := by decide +kernel
theorem dX7_owlAt_21 : decode cX7_owlAt 21 = .ok (.ireturn, 1) := by decide +kernel
theorem dX7_owlAt_22 : decode cX7_owlAt 22 = .ok (.iinc 3 1, 3) := by decide +kernel
theorem dX7_owlAt_25 : decode cX7_owlAt 25 = .ok (.goto (-23), 3) := by decide +kernel
theorem dX7_owlAt_28 : decode cX7_owlAt 28 = .ok (.iconst (-1), 1) := by decide +kernel
theorem dX7_owlAt_29 : decode cX7_owlAt 29 = .ok (.ireturn, 1) := by decide +kernel
theorem dX7_rowOf_0 : decode cX7_rowOf 0 = .ok (.aload_n 1, 1) := by decide +kernel
theorem dX7_rowOf_1 : decode cX7_rowOf 1 = .ok (.iload_n 2, 1) := by decide +kernel
theorem dX7_rowOf_2 : decode cX7_rowOf 2 = .ok (.invokevirtual 49, 3) := by decide +kernel
theorem dX7_rowOf_5 : decode cX7_rowOf 5 = .ok (.ifCond .eq 12, 3) := by decide +kernel
theorem dX7_rowOf_8 : decode cX7_rowOf 8 = .ok (.aload_n 1, 1) := by decide +kernel
theorem dX7_rowOf_9 : decode cX7_rowOf 9 = .ok (.getfield 53, 3) := by decide +kernel
theorem dX7_rowOf_12 : decode cX7_rowOf 12 = .ok (.iload_n 2, 1) := by decide +kernel
theorem dX7_rowOf_13 : decode cX7_rowOf 13 = .ok (.aaload, 1) := by decide +kernel
theorem dX7_rowOf_14 : decode cX7_rowOf 14 = .ok (.goto 7, 3) := by decide +kernel
theorem dX7_rowOf_17 : decode cX7_rowOf 17 = .ok (.aload_n 0, 1) := by decide +kernel
theorem dX7_rowOf_18 : decode cX7_rowOf 18 = .ok (.getfield 21, 3) := by decide +kernel
theorem dX7_rowOf_21 : decode cX7_rowOf 21 = .ok (.areturn, 1) := by decide +kernel
theorem dX7_onBits_0 : decode cX7_onBits 0 = .ok (.iload_n 2, 1) := by decide +kernel
theorem dX7_onBits_1 : decode cX7_onBits 1 = .ok (.ifCond .ne 21, 3) := by decide +kernel
theorem dX7_onBits_4 : decode cX7_onBits 4 = .ok (.aload_n 0, 1) := by decide +kernel
theorem dX7_onBits_5 : decode cX7_onBits 5 = .ok (.getfield 21, 3) := by decide +kernel
theorem dX7_onBits_8 : decode cX7_onBits 8 = .ok (.iconst 3, 1) := by decide +kernel
theorem dX7_onBits_9 : decode cX7_onBits 9 = .ok (.iaload, 1) := by decide +kernel
theorem dX7_onBits_10 : decode cX7_onBits 10 = .ok (.ifCond .le 12, 3) := by decide +kernel
theorem dX7_onBits_13 : decode cX7_onBits 13 = .ok (.iconst 1, 1) := by decide +kernel
theorem dX7_onBits_14 : decode cX7_onBits 14 = .ok (.aload_n 1, 1) := by decide +kernel
theorem dX7_onBits_15 : decode cX7_onBits 15 = .ok (.getfield 56, 3) := by decide +kernel
theorem dX7_onBits_18 : decode cX7_onBits 18 = .ok (.ishl, 1) := by decide +kernel
theorem dX7_onBits_19 : decode cX7_onBits 19 = .ok (.goto 4, 3) := by decide +kernel
theorem dX7_onBits_22 : decode cX7_onBits 22 = .ok (.iconst 0, 1) := by decide +kernel
theorem dX7_onBits_23 : decode cX7_onBits 23 = .ok (.istore_n 3, 1) := by decide +kernel
theorem dX7_onBits_24 : decode cX7_onBits 24 = .ok (.iconst 0, 1) := by decide +kernel
theorem dX7_onBits_25 : decode cX7_onBits 25 = .ok (.istore 4, 2) := by decide +kernel
theorem dX7_onBits_27 : decode cX7_onBits 27 = .ok (.iload 4, 2) := by decide +kernel
theorem dX7_onBits_29 : decode cX7_onBits 29 = .ok (.aload_n 1, 1) := by decide +kernel
theorem dX7_onBits_30 : decode cX7_onBits 30 = .ok (.getfield 56, 3) := by decide +kernel
theorem dX7_onBits_33 : decode cX7_onBits 33 = .ok (.if_icmp .ge 57, 3) := by decide +kernel
theorem dX7_onBits_36 : decode cX7_onBits 36 = .ok (.aload_n 1, 1) := by decide +kernel
theorem dX7_onBits_37 : decode cX7_onBits 37 = .ok (.getfield 53, 3) := by decide +kernel
theorem dX7_onBits_40 : decode cX7_onBits 40 = .ok (.iload 4, 2) := by decide +kernel
theorem dX7_onBits_42 : decode cX7_onBits 42 = .ok (.aaload, 1) := by decide +kernel
theorem dX7_onBits_43 : decode cX7_onBits 43 = .ok (.astore 5, 2) := by decide +kernel
theorem dX7_onBits_45 : decode cX7_onBits 45 = .ok (.aload_n 0, 1) := by decide +kernel
theorem dX7_onBits_46 : decode cX7_onBits 46 = .ok (.getfield 15, 3) := by decide +kernel
theorem dX7_onBits_49 : decode cX7_onBits 49 = .ok (.iload 4, 2) := by decide +kernel
theorem dX7_onBits_51 : decode cX7_onBits 51 = .ok (.ishr, 1) := by decide +kernel
theorem dX7_onBits_52 : decode cX7_onBits 52 = .ok (.iconst 1, 1) := by decide +kernel
theorem dX7_onBits_53 : decode cX7_onBits 53 = .ok (.iand, 1) := by decide +kernel
theorem dX7_onBits_54 : decode cX7_onBits 54 = .ok (.ifCond .ne 30, 3) := by decide +kernel
theorem dX7_onBits_57 : decode cX7_onBits 57 = .ok (.aload 5, 2) := by decide +kernel
theorem dX7_onBits_59 : decode cX7_onBits 59 = .ok (.iconst 4, 1) := by decide +kernel
theorem dX7_onBits_60 : decode cX7_onBits 60 = .ok (.iaload, 1) := by decide +kernel
theorem dX7_onBits_61 : decode cX7_onBits 61 = .ok (.aload 5, 2) := by decide +kernel
theorem dX7_onBits_63 : decode cX7_onBits 63 = .ok (.iconst 5, 1) := by decide +kernel
theorem dX7_onBits_64 : decode cX7_onBits 64 = .ok (.iaload, 1) := by decide +kernel
theorem dX7_onBits_65 : decode cX7_onBits 65 = .ok (.aload_n 0, 1) := by decide +kernel
theorem dX7_onBits_66 : decode cX7_onBits 66 = .ok (.getfield 9, 3) := by decide +kernel
theorem dX7_onBits_69 : decode cX7_onBits 69 = .ok (.iload_n 2, 1) := by decide +kernel
theorem dX7_onBits_70 : decode cX7_onBits 70 = .ok (.iadd, 1) := by decide +kernel
theorem dX7_onBits_71 : decode cX7_onBits 71 = .ok (.invokestatic 59, 3) := by decide +kernel
theorem dX7_onBits_74 : decode cX7_onBits 74 = .ok (.ifCond .eq 10, 3) := by decide +kernel
theorem dX7_onBits_77 : decode cX7_onBits 77 = .ok (.iload_n 3, 1) := by decide +kernel
theorem dX7_onBits_78 : decode cX7_onBits 78 = .ok (.iconst 1, 1) := by decide +kernel
theorem dX7_onBits_79 : decode cX7_onBits 79 = .ok (.iload 4, 2) := by decide +kernel
theorem dX7_onBits_81 : decode cX7_onBits 81 = .ok (.ishl, 1) := by decide +kernel
theorem dX7_onBits_82 : decode cX7_onBits 82 = .ok (.ior, 1) := by decide +kernel
theorem dX7_onBits_83 : decode cX7_onBits 83 = .ok (.istore_n 3, 1) := by decide +kernel
theorem dX7_onBits_84 : decode cX7_onBits 84 = .ok (.iinc 4 1, 3) := by decide +kernel
theorem dX7_onBits_87 : decode cX7_onBits 87 = .ok (.goto (-60), 3) := by decide +kernel
theorem dX7_onBits_90 : decode cX7_onBits 90 = .ok (.iload_n 3, 1) := by decide +kernel
theorem dX7_onBits_91 : decode cX7_onBits 91 = .ok (.ireturn, 1) := by decide +kernel
theorem dX7_heardBits_0 : decode cX7_heardBits 0 = .ok (.iconst 0, 1) := by decide +kernel
theorem dX7_heardBits_1 : decode cX7_heardBits 1 = .ok (.istore 5, 2) := by decide +kernel
theorem dX7_heardBits_3 : decode cX7_heardBits 3 = .ok (.iconst 0, 1) := by decide +kernel
theorem dX7_heardBits_4 : decode cX7_heardBits 4 = .ok (.istore 6, 2) := by decide +kernel
theorem dX7_heardBits_6 : decode cX7_heardBits 6 = .ok (.iload 6, 2) := by decide +kernel
theorem dX7_heardBits_8 : decode cX7_heardBits 8 = .ok (.aload_n 1, 1) := by decide +kernel
theorem dX7_heardBits_9 : decode cX7_heardBits 9 = .ok (.getfield 56, 3) := by decide +kernel
theorem dX7_heardBits_12 : decode cX7_heardBits 12 = .ok (.if_icmp .gt 46, 3) := by decide +kernel
theorem dX7_heardBits_15 : decode cX7_heardBits 15 = .ok (.iload 4, 2) := by decide +kernel
theorem dX7_heardBits_17 : decode cX7_heardBits 17 = .ok (.iload 6, 2) := by decide +kernel
theorem dX7_heardBits_19 : decode cX7_heardBits 19 = .ok (.ishr, 1) := by decide +kernel
theorem dX7_heardBits_20 : decode cX7_heardBits 20 = .ok (.iconst 1, 1) := by decide +kernel
theorem dX7_heardBits_21 : decode cX7_heardBits 21 = .ok (.iand, 1) := by decide +kernel
theorem dX7_heardBits_22 : decode cX7_heardBits 22 = .ok (.iconst 1, 1) := by decide +kernel
theorem dX7_heardBits_23 : decode cX7_heardBits 23 = .ok (.if_icmp .ne 29, 3) := by decide +kernel
theorem dX7_heardBits_26 : decode cX7_heardBits 26 = .ok (.aload_n 1, 1) := by decide +kernel
theorem dX7_heardBits_27 : decode cX7_heardBits 27 = .ok (.iload_n 2, 1) := by decide +kernel
theorem dX7_heardBits_28 : decode cX7_heardBits 28 = .ok (.iload_n 3, 1) := by decide +kernel
theorem dX7_heardBits_29 : decode cX7_heardBits 29 = .ok (.aload_n 0, 1) := by decide +kernel
theorem dX7_heardBits_30 : decode cX7_heardBits 30 = .ok (.aload_n 1, 1) := by decide +kernel
theorem dX7_heardBits_31 : decode cX7_heardBits 31 = .ok (.iload 6, 2) := by decide +kernel
theorem dX7_heardBits_33 : decode cX7_heardBits 33 = .ok (.invokevirtual 63, 3) := by decide +kernel
theorem dX7_heardBits_36 : decode cX7_heardBits 36 = .ok (.invokevirtual 67, 3) := by decide +kernel
theorem dX7_heardBits_39 : decode cX7_heardBits 39 = .ok (.iconst (-1), 1) := by decide +kernel
theorem dX7_heardBits_40 : decode cX7_heardBits 40 = .ok (.if_icmp .eq 12, 3) := by decide +kernel
theorem dX7_heardBits_43 : decode cX7_heardBits 43 = .ok (.iload 5, 2) := by decide +kernel
theorem dX7_heardBits_45 : decode cX7_heardBits 45 = .ok (.iconst 1, 1) := by decide +kernel
theorem dX7_heardBits_46 : decode cX7_heardBits 46 = .ok (.iload 6, 2) := by decide +kernel
theorem dX7_heardBits_48 : decode cX7_heardBits 48 = .ok (.ishl, 1) := by decide +kernel
theorem dX7_heardBits_49 : decode cX7_heardBits 49 = .ok (.ior, 1) := by decide +kernel
theorem dX7_heardBits_50 : decode cX7_heardBits 50 = .ok (.istore 5, 2) := by decide +kernel
theorem dX7_heardBits_52 : decode cX7_heardBits 52 = .ok (.iinc 6 1, 3) := by decide +kernel
theorem dX7_heardBits_55 : decode cX7_heardBits 55 = .ok (.goto (-49), 3) := by decide +kernel
theorem dX7_heardBits_58 : decode cX7_heardBits 58 = .ok (.iload 5, 2) := by decide +kernel
theorem dX7_heardBits_60 : decode cX7_heardBits 60 = .ok (.ireturn, 1) := by decide +kernel
theorem dX7_heardNow_0 : decode cX7_heardNow 0 = .ok (.aload_n 1, 1) := by decide +kernel
theorem dX7_heardNow_1 : decode cX7_heardNow 1 = .ok (.aload_n 0, 1) := by decide +kernel
theorem dX7_heardNow_2 : decode cX7_heardNow 2 = .ok (.getfield 9, 3) := by decide +kernel
theorem dX7_heardNow_5 : decode cX7_heardNow 5 = .ok (.invokevirtual 71, 3) := by decide +kernel
theorem dX7_heardNow_8 : decode cX7_heardNow 8 = .ok (.ifCond .eq 7, 3) := by decide +kernel
theorem dX7_heardNow_11 : decode cX7_heardNow 11 = .ok (.iconst 0, 1) := by decide +kernel
theorem dX7_heardNow_12 : decode cX7_heardNow 12 = .ok (.goto 16, 3) := by decide +kernel
theorem dX7_heardNow_15 : decode cX7_heardNow 15 = .ok (.aload_n 0, 1) := by decide +kernel
theorem dX7_heardNow_16 : decode cX7_heardNow 16 = .ok (.aload_n 1, 1) := by decide +kernel
theorem dX7_heardNow_17 : decode cX7_heardNow 17 = .ok (.iload_n 2, 1) := by decide +kernel
theorem dX7_heardNow_18 : decode cX7_heardNow 18 = .ok (.iload_n 3, 1) := by decide +kernel
theorem dX7_heardNow_19 : decode cX7_heardNow 19 = .ok (.aload_n 0, 1) := by decide +kernel
theorem dX7_heardNow_20 : decode cX7_heardNow 20 = .ok (.aload_n 1, 1) := by decide +kernel
theorem dX7_heardNow_21 : decode cX7_heardNow 21 = .ok (.iconst 0, 1) := by decide +kernel
theorem dX7_heardNow_22 : decode cX7_heardNow 22 = .ok (.invokevirtual 74, 3) := by decide +kernel
theorem dX7_heardNow_25 : decode cX7_heardNow 25 = .ok (.invokevirtual 78, 3) := by decide +kernel
theorem dX7_heardNow_28 : decode cX7_heardNow 28 = .ok (.ireturn, 1) := by decide +kernel
theorem dX7_loudest_0 : decode cX7_loudest 0 = .ok (.iconst (-1), 1) := by decide +kernel
theorem dX7_loudest_1 : decode cX7_loudest 1 = .ok (.istore 4, 2) := by decide +kernel
theorem dX7_loudest_3 : decode cX7_loudest 3 = .ok (.iconst 0, 1) := by decide +kernel
theorem dX7_loudest_4 : decode cX7_loudest 4 = .ok (.istore 5, 2) := by decide +kernel
theorem dX7_loudest_6 : decode cX7_loudest 6 = .ok (.iconst 0, 1) := by decide +kernel
theorem dX7_loudest_7 : decode cX7_loudest 7 = .ok (.istore 6, 2) := by decide +kernel
theorem dX7_loudest_9 : decode cX7_loudest 9 = .ok (.iload 6, 2) := by decide +kernel
theorem dX7_loudest_11 : decode cX7_loudest 11 = .ok (.aload_n 1, 1) := by decide +kernel
theorem dX7_loudest_12 : decode cX7_loudest 12 = .ok (.getfield 56, 3) := by decide +kernel
theorem dX7_loudest_15 : decode cX7_loudest 15 = .ok (.if_icmp .gt 54, 3) := by decide +kernel
theorem dX7_loudest_18 : decode cX7_loudest 18 = .ok (.iload_n 3, 1) := by decide +kernel
theorem dX7_loudest_19 : decode cX7_loudest 19 = .ok (.iload 6, 2) := by decide +kernel
theorem dX7_loudest_21 : decode cX7_loudest 21 = .ok (.ishr, 1) := by decide +kernel
theorem dX7_loudest_22 : decode cX7_loudest 22 = .ok (.iconst 1, 1) := by decide +kernel
theorem dX7_loudest_23 : decode cX7_loudest 23 = .ok (.iand, 1) := by decide +kernel
theorem dX7_loudest_24 : decode cX7_loudest 24 = .ok (.iconst 1, 1) := by decide +kernel
theorem dX7_loudest_25 : decode cX7_loudest 25 = .ok (.if_icmp .ne 38, 3) := by decide +kernel
theorem dX7_loudest_28 : decode cX7_loudest 28 = .ok (.aload_n 1, 1) := by decide +kernel
theorem dX7_loudest_29 : decode cX7_loudest 29 = .ok (.iload_n 2, 1) := by decide +kernel
theorem dX7_loudest_30 : decode cX7_loudest 30 = .ok (.aload_n 0, 1) := by decide +kernel
theorem dX7_loudest_31 : decode cX7_loudest 31 = .ok (.aload_n 1, 1) := by decide +kernel
theorem dX7_loudest_32 : decode cX7_loudest 32 = .ok (.iload 6, 2) := by decide +kernel
theorem dX7_loudest_34 : decode cX7_loudest 34 = .ok (.invokevirtual 63, 3) := by decide +kernel
theorem dX7_loudest_37 : decode cX7_loudest 37 = .ok (.invokevirtual 82, 3) := by decide +kernel
theorem dX7_loudest_40 : decode cX7_loudest 40 = .ok (.istore 7, 2) := by decide +kernel
theorem dX7_loudest_42 : decode cX7_loudest 42 = .ok (.iload 4, 2) := by decide +kernel
theorem dX7_loudest_44 : decode cX7_loudest 44 = .ok (.iconst (-1), 1) := by decide +kernel
theorem dX7_loudest_45 : decode cX7_loudest 45 = .ok (.if_icmp .eq 10, 3) := by decide +kernel
theorem dX7_loudest_48 : decode cX7_loudest 48 = .ok (.iload 7, 2) := by decide +kernel
theorem dX7_loudest_50 : decode cX7_loudest 50 = .ok (.iload 5, 2) := by decide +kernel
theorem dX7_loudest_52 : decode cX7_loudest 52 = .ok (.if_icmp .le 11, 3) := by decide +kernel
theorem dX7_loudest_55 : decode cX7_loudest 55 = .ok (.iload 6, 2) := by decide +kernel
theorem dX7_loudest_57 : decode cX7_loudest 57 = .ok (.istore 4, 2) := by decide +kernel
theorem dX7_loudest_59 : decode cX7_loudest 59 = .ok (.iload 7, 2) := by decide +kernel
theorem dX7_loudest_61 : decode cX7_loudest 61 = .ok (.istore 5, 2) := by decide +kernel
theorem dX7_loudest_63 : decode cX7_loudest 63 = .ok (.iinc 6 1, 3) := by decide +kernel
theorem dX7_loudest_66 : decode cX7_loudest 66 = .ok (.goto (-57), 3) := by decide +kernel
theorem dX7_loudest_69 : decode cX7_loudest 69 = .ok (.iload 4, 2) := by decide +kernel
theorem dX7_loudest_71 : decode cX7_loudest 71 = .ok (.ireturn, 1) := by decide +kernel
theorem dX7_lookOf_0 : decode cX7_lookOf 0 = .ok (.aload_n 1, 1) := by decide +kernel
theorem dX7_lookOf_1 : decode cX7_lookOf 1 = .ok (.aload_n 0, 1) := by decide +kernel
theorem dX7_lookOf_2 : decode cX7_lookOf 2 = .ok (.getfield 9, 3) := by decide +kernel
theorem dX7_lookOf_5 : decode cX7_lookOf 5 = .ok (.iload 4, 2) := by decide +kernel
theorem dX7_lookOf_7 : decode cX7_lookOf 7 = .ok (.iadd, 1) := by decide +kernel
theorem dX7_lookOf_8 : decode cX7_lookOf 8 = .ok (.invokevirtual 71, 3) := by decide +kernel
theorem dX7_lookOf_11 : decode cX7_lookOf 11 = .ok (.ifCond .eq 5, 3) := by decide +kernel
theorem dX7_lookOf_14 : decode cX7_lookOf 14 = .ok (.iconst (-1), 1) := by decide +kernel
theorem dX7_lookOf_15 : decode cX7_lookOf 15 = .ok (.ireturn, 1) := by decide +kernel
theorem dX7_lookOf_16 : decode cX7_lookOf 16 = .ok (.aload_n 0, 1) := by decide +kernel
theorem dX7_lookOf_17 : decode cX7_lookOf 17 = .ok (.aload_n 1, 1) := by decide +kernel
theorem dX7_lookOf_18 : decode cX7_lookOf 18 = .ok (.iload_n 3, 1) := by decide +kernel
theorem dX7_lookOf_19 : decode cX7_lookOf 19 = .ok (.aload_n 0, 1) := by decide +kernel
theorem dX7_lookOf_20 : decode cX7_lookOf 20 = .ok (.aload_n 1, 1) := by decide +kernel
theorem dX7_lookOf_21 : decode cX7_lookOf 21 = .ok (.iload_n 2, 1) := by decide +kernel
theorem dX7_lookOf_22 : decode cX7_lookOf 22 = .ok (.iload_n 3, 1) := by decide +kernel
theorem dX7_lookOf_23 : decode cX7_lookOf 23 = .ok (.aload_n 0, 1) := by decide +kernel
theorem dX7_lookOf_24 : decode cX7_lookOf 24 = .ok (.aload_n 1, 1) := by decide +kernel
theorem dX7_lookOf_25 : decode cX7_lookOf 25 = .ok (.iload 4, 2) := by decide +kernel
theorem dX7_lookOf_27 : decode cX7_lookOf 27 = .ok (.invokevirtual 74, 3) := by decide +kernel
theorem dX7_lookOf_30 : decode cX7_lookOf 30 = .ok (.invokevirtual 78, 3) := by decide +kernel
theorem dX7_lookOf_33 : decode cX7_lookOf 33 = .ok (.invokevirtual 86, 3) := by decide +kernel
theorem dX7_lookOf_36 : decode cX7_lookOf 36 = .ok (.ireturn, 1) := by decide +kernel
theorem dX7_sideFrom_0 : decode cX7_sideFrom 0 = .ok (.iload_n 3, 1) := by decide +kernel
theorem dX7_sideFrom_1 : decode cX7_sideFrom 1 = .ok (.iconst (-1), 1) := by decide +kernel
theorem dX7_sideFrom_2 : decode cX7_sideFrom 2 = .ok (.if_icmp .ne 7, 3) := by decide +kernel
theorem dX7_sideFrom_5 : decode cX7_sideFrom 5 = .ok (.iconst (-1), 1) := by decide +kernel
theorem dX7_sideFrom_6 : decode cX7_sideFrom 6 = .ok (.goto 14, 3) := by decide +kernel
theorem dX7_sideFrom_9 : decode cX7_sideFrom 9 = .ok (.aload_n 1, 1) := by decide +kernel
theorem dX7_sideFrom_10 : decode cX7_sideFrom 10 = .ok (.iload_n 2, 1) := by decide +kernel
theorem dX7_sideFrom_11 : decode cX7_sideFrom 11 = .ok (.aload_n 0, 1) := by decide +kernel
theorem dX7_sideFrom_12 : decode cX7_sideFrom 12 = .ok (.aload_n 1, 1) := by decide +kernel
theorem dX7_sideFrom_13 : decode cX7_sideFrom 13 = .ok (.iload_n 3, 1) := by decide +kernel
theorem dX7_sideFrom_14 : decode cX7_sideFrom 14 = .ok (.invokevirtual 63, 3) := by decide +kernel
theorem dX7_sideFrom_17 : decode cX7_sideFrom 17 = .ok (.invokevirtual 90, 3) := by decide +kernel
theorem dX7_sideFrom_20 : decode cX7_sideFrom 20 = .ok (.ireturn, 1) := by decide +kernel
theorem dX7_lookingBits_0 : decode cX7_lookingBits 0 = .ok (.iconst 0, 1) := by decide +kernel
theorem dX7_lookingBits_1 : decode cX7_lookingBits 1 = .ok (.istore_n 2, 1) := by decide +kernel
theorem dX7_lookingBits_2 : decode cX7_lookingBits 2 = .ok (.iconst 0, 1) := by decide +kernel
theorem dX7_lookingBits_3 : decode cX7_lookingBits 3 = .ok (.istore_n 3, 1) := by decide +kernel
theorem dX7_lookingBits_4 : decode cX7_lookingBits 4 = .ok (.iload_n 3, 1) := by decide +kernel
theorem dX7_lookingBits_5 : decode cX7_lookingBits 5 = .ok (.aload_n 1, 1) := by decide +kernel
theorem dX7_lookingBits_6 : decode cX7_lookingBits 6 = .ok (.getfield 34, 3) := by decide +kernel
theorem dX7_lookingBits_9 : decode cX7_lookingBits 9 = .ok (.if_icmp .ge 32, 3) := by decide +kernel
theorem dX7_lookingBits_12 : decode cX7_lookingBits 12 = .ok (.aload_n 0, 1) := by decide +kernel
theorem dX7_lookingBits_13 : decode cX7_lookingBits 13 = .ok (.aload_n 1, 1) := by decide +kernel
theorem dX7_lookingBits_14 : decode cX7_lookingBits 14 = .ok (.iload_n 3, 1) := by decide +kernel
theorem dX7_lookingBits_15 : decode cX7_lookingBits 15 = .ok (.aload_n 0, 1) := by decide +kernel
theorem dX7_lookingBits_16 : decode cX7_lookingBits 16 = .ok (.getfield 25, 3) := by decide +kernel
theorem dX7_lookingBits_19 : decode cX7_lookingBits 19 = .ok (.iload_n 3, 1) := by decide +kernel
theorem dX7_lookingBits_20 : decode cX7_lookingBits 20 = .ok (.iaload, 1) := by decide +kernel
theorem dX7_lookingBits_21 : decode cX7_lookingBits 21 = .ok (.iconst 0, 1) := by decide +kernel
theorem dX7_lookingBits_22 : decode cX7_lookingBits 22 = .ok (.invokevirtual 93, 3) := by decide +kernel
theorem dX7_lookingBits_25 : decode cX7_lookingBits 25 = .ok (.iconst (-1), 1) := by decide +kernel
theorem dX7_lookingBits_26 : decode cX7_lookingBits 26 = .ok (.if_icmp .eq 9, 3) := by decide +kernel
theorem dX7_lookingBits_29 : decode cX7_lookingBits 29 = .ok (.iload_n 2, 1) := by decide +kernel
theorem dX7_lookingBits_30 : decode cX7_lookingBits 30 = .ok (.iconst 1, 1) := by decide +kernel
theorem dX7_lookingBits_31 : decode cX7_lookingBits 31 = .ok (.iload_n 3, 1) := by decide +kernel
theorem dX7_lookingBits_32 : decode cX7_lookingBits 32 = .ok (.ishl, 1) := by decide +kernel
theorem dX7_lookingBits_33 : decode cX7_lookingBits 33 = .ok (.ior, 1) := by decide +kernel
theorem dX7_lookingBits_34 : decode cX7_lookingBits 34 = .ok (.istore_n 2, 1) := by decide +kernel
theorem dX7_lookingBits_35 : decode cX7_lookingBits 35 = .ok (.iinc 3 1, 3) := by decide +kernel
theorem dX7_lookingBits_38 : decode cX7_lookingBits 38 = .ok (.goto (-34), 3) := by decide +kernel
theorem dX7_lookingBits_41 : decode cX7_lookingBits 41 = .ok (.iload_n 2, 1) := by decide +kernel
theorem dX7_lookingBits_42 : decode cX7_lookingBits 42 = .ok (.ireturn, 1) := by decide +kernel
theorem dX7_lendTo_0 : decode cX7_lendTo 0 = .ok (.aload_n 0, 1) := by decide +kernel
theorem dX7_lendTo_1 : decode cX7_lendTo 1 = .ok (.getfield 25, 3) := by decide +kernel
theorem dX7_lendTo_4 : decode cX7_lendTo 4 = .ok (.iload_n 2, 1) := by decide +kernel
theorem dX7_lendTo_5 : decode cX7_lendTo 5 = .ok (.iaload, 1) := by decide +kernel
theorem dX7_lendTo_6 : decode cX7_lendTo 6 = .ok (.iload_n 3, 1) := by decide +kernel
theorem dX7_lendTo_7 : decode cX7_lendTo 7 = .ok (.if_icmp .ne 5, 3) := by decide +kernel
theorem dX7_lendTo_10 : decode cX7_lendTo 10 = .ok (.iconst 1, 1) := by decide +kernel
theorem dX7_lendTo_11 : decode cX7_lendTo 11 = .ok (.ireturn, 1) := by decide +kernel
theorem dX7_lendTo_12 : decode cX7_lendTo 12 = .ok (.aload_n 0, 1) := by decide +kernel
theorem dX7_lendTo_13 : decode cX7_lendTo 13 = .ok (.aload_n 1, 1) := by decide +kernel
theorem dX7_lendTo_14 : decode cX7_lendTo 14 = .ok (.iload_n 3, 1) := by decide +kernel
theorem dX7_lendTo_15 : decode cX7_lendTo 15 = .ok (.invokevirtual 96, 3) := by decide +kernel
theorem dX7_lendTo_18 : decode cX7_lendTo 18 = .ok (.iconst (-1), 1) := by decide +kernel
theorem dX7_lendTo_19 : decode cX7_lendTo 19 = .ok (.if_icmp .eq 5, 3) := by decide +kernel
theorem dX7_lendTo_22 : decode cX7_lendTo 22 = .ok (.iconst 2, 1) := by decide +kernel
theorem dX7_lendTo_23 : decode cX7_lendTo 23 = .ok (.ireturn, 1) := by decide +kernel
theorem dX7_lendTo_24 : decode cX7_lendTo 24 = .ok (.aload_n 0, 1) := by decide +kernel
theorem dX7_lendTo_25 : decode cX7_lendTo 25 = .ok (.getfield 25, 3) := by decide +kernel
theorem dX7_lendTo_28 : decode cX7_lendTo 28 = .ok (.iload_n 2, 1) := by decide +kernel
theorem dX7_lendTo_29 : decode cX7_lendTo 29 = .ok (.iload_n 3, 1) := by decide +kernel
theorem dX7_lendTo_30 : decode cX7_lendTo 30 = .ok (.iastore, 1) := by decide +kernel
theorem dX7_lendTo_31 : decode cX7_lendTo 31 = .ok (.iconst 0, 1) := by decide +kernel
theorem dX7_lendTo_32 : decode cX7_lendTo 32 = .ok (.ireturn, 1) := by decide +kernel
theorem dX7_hushOne_0 : decode cX7_hushOne 0 = .ok (.aload_n 0, 1) := by decide +kernel
theorem dX7_hushOne_1 : decode cX7_hushOne 1 = .ok (.getfield 15, 3) := by decide +kernel
theorem dX7_hushOne_4 : decode cX7_hushOne 4 = .ok (.iload_n 1, 1) := by decide +kernel
theorem dX7_hushOne_5 : decode cX7_hushOne 5 = .ok (.ishr, 1) := by decide +kernel
theorem dX7_hushOne_6 : decode cX7_hushOne 6 = .ok (.iconst 1, 1) := by decide +kernel
theorem dX7_hushOne_7 : decode cX7_hushOne 7 = .ok (.iand, 1) := by decide +kernel
theorem dX7_hushOne_8 : decode cX7_hushOne 8 = .ok (.iconst 1, 1) := by decide +kernel
theorem dX7_hushOne_9 : decode cX7_hushOne 9 = .ok (.if_icmp .ne 5, 3) := by decide +kernel
theorem dX7_hushOne_12 : decode cX7_hushOne 12 = .ok (.iconst 1, 1) := by decide +kernel
theorem dX7_hushOne_13 : decode cX7_hushOne 13 = .ok (.ireturn, 1) := by decide +kernel
theorem dX7_hushOne_14 : decode cX7_hushOne 14 = .ok (.aload_n 0, 1) := by decide +kernel
theorem dX7_hushOne_15 : decode cX7_hushOne 15 = .ok (.dup, 1) := by decide +kernel
theorem dX7_hushOne_16 : decode cX7_hushOne 16 = .ok (.getfield 15, 3) := by decide +kernel
theorem dX7_hushOne_19 : decode cX7_hushOne 19 = .ok (.iconst 1, 1) := by decide +kernel
theorem dX7_hushOne_20 : decode cX7_hushOne 20 = .ok (.iload_n 1, 1) := by decide +kernel
theorem dX7_hushOne_21 : decode cX7_hushOne 21 = .ok (.ishl, 1) := by decide +kernel
theorem dX7_hushOne_22 : decode cX7_hushOne 22 = .ok (.ior, 1) := by decide +kernel
theorem dX7_hushOne_23 : decode cX7_hushOne 23 = .ok (.putfield 15, 3) := by decide +kernel
theorem dX7_hushOne_26 : decode cX7_hushOne 26 = .ok (.iconst 0, 1) := by decide +kernel
theorem dX7_hushOne_27 : decode cX7_hushOne 27 = .ok (.ireturn, 1) := by decide +kernel
theorem dX7_letOne_0 : decode cX7_letOne 0 = .ok (.aload_n 0, 1) := by decide +kernel
theorem dX7_letOne_1 : decode cX7_letOne 1 = .ok (.getfield 15, 3) := by decide +kernel
theorem dX7_letOne_4 : decode cX7_letOne 4 = .ok (.iload_n 1, 1) := by decide +kernel
theorem dX7_letOne_5 : decode cX7_letOne 5 = .ok (.ishr, 1) := by decide +kernel
theorem dX7_letOne_6 : decode cX7_letOne 6 = .ok (.iconst 1, 1) := by decide +kernel
theorem dX7_letOne_7 : decode cX7_letOne 7 = .ok (.iand, 1) := by decide +kernel
theorem dX7_letOne_8 : decode cX7_letOne 8 = .ok (.ifCond .ne 5, 3) := by decide +kernel
theorem dX7_letOne_11 : decode cX7_letOne 11 = .ok (.iconst 1, 1) := by decide +kernel
theorem dX7_letOne_12 : decode cX7_letOne 12 = .ok (.ireturn, 1) := by decide +kernel
theorem dX7_letOne_13 : decode cX7_letOne 13 = .ok (.aload_n 0, 1) := by decide +kernel
theorem dX7_letOne_14 : decode cX7_letOne 14 = .ok (.dup, 1) := by decide +kernel
theorem dX7_letOne_15 : decode cX7_letOne 15 = .ok (.getfield 15, 3) := by decide +kernel
theorem dX7_letOne_18 : decode cX7_letOne 18 = .ok (.iconst 1, 1) := by decide +kernel
theorem dX7_letOne_19 : decode cX7_letOne 19 = .ok (.iload_n 1, 1) := by decide +kernel
theorem dX7_letOne_20 : decode cX7_letOne 20 = .ok (.ishl, 1) := by decide +kernel
theorem dX7_letOne_21 : decode cX7_letOne 21 = .ok (.iconst (-1), 1) := by decide +kernel
theorem dX7_letOne_22 : decode cX7_letOne 22 = .ok (.ixor, 1) := by decide +kernel
theorem dX7_letOne_23 : decode cX7_letOne 23 = .ok (.iand, 1) := by decide +kernel
theorem dX7_letOne_24 : decode cX7_letOne 24 = .ok (.putfield 15, 3) := by decide +kernel
theorem dX7_letOne_27 : decode cX7_letOne 27 = .ok (.iconst 0, 1) := by decide +kernel
theorem dX7_letOne_28 : decode cX7_letOne 28 = .ok (.ireturn, 1) := by decide +kernel
theorem dX7_isShouted_0 : decode cX7_isShouted 0 = .ok (.aload_n 0, 1) := by decide +kernel
theorem dX7_isShouted_1 : decode cX7_isShouted 1 = .ok (.getfield 21, 3) := by decide +kernel
theorem dX7_isShouted_4 : decode cX7_isShouted 4 = .ok (.iconst 3, 1) := by decide +kernel
theorem dX7_isShouted_5 : decode cX7_isShouted 5 = .ok (.iaload, 1) := by decide +kernel
theorem dX7_isShouted_6 : decode cX7_isShouted 6 = .ok (.ifCond .le 7, 3) := by decide +kernel
theorem dX7_isShouted_9 : decode cX7_isShouted 9 = .ok (.iconst 1, 1) := by decide +kernel
theorem dX7_isShouted_10 : decode cX7_isShouted 10 = .ok (.goto 4, 3) := by decide +kernel
theorem dX7_isShouted_13 : decode cX7_isShouted 13 = .ok (.iconst 0, 1) := by decide +kernel
theorem dX7_isShouted_14 : decode cX7_isShouted 14 = .ok (.ireturn, 1) := by decide +kernel
theorem dX7_shoutIn_0 : decode cX7_shoutIn 0 = .ok (.aload_n 0, 1) := by decide +kernel
theorem dX7_shoutIn_1 : decode cX7_shoutIn 1 = .ok (.invokevirtual 99, 3) := by decide +kernel
theorem dX7_shoutIn_4 : decode cX7_shoutIn 4 = .ok (.ifCond .eq 5, 3) := by decide +kernel
theorem dX7_shoutIn_7 : decode cX7_shoutIn 7 = .ok (.iconst 1, 1) := by decide +kernel
theorem dX7_shoutIn_8 : decode cX7_shoutIn 8 = .ok (.ireturn, 1) := by decide +kernel
theorem dX7_shoutIn_9 : decode cX7_shoutIn 9 = .ok (.aload_n 0, 1) := by decide +kernel
theorem dX7_shoutIn_10 : decode cX7_shoutIn 10 = .ok (.getfield 21, 3) := by decide +kernel
theorem dX7_shoutIn_13 : decode cX7_shoutIn 13 = .ok (.iconst 0, 1) := by decide +kernel
theorem dX7_shoutIn_14 : decode cX7_shoutIn 14 = .ok (.iconst 1, 1) := by decide +kernel
theorem dX7_shoutIn_15 : decode cX7_shoutIn 15 = .ok (.iastore, 1) := by decide +kernel
theorem dX7_shoutIn_16 : decode cX7_shoutIn 16 = .ok (.aload_n 0, 1) := by decide +kernel
theorem dX7_shoutIn_17 : decode cX7_shoutIn 17 = .ok (.getfield 21, 3) := by decide +kernel
theorem dX7_shoutIn_20 : decode cX7_shoutIn 20 = .ok (.iconst 1, 1) := by decide +kernel
theorem dX7_shoutIn_21 : decode cX7_shoutIn 21 = .ok (.iload_n 1, 1) := by decide +kernel
theorem dX7_shoutIn_22 : decode cX7_shoutIn 22 = .ok (.iastore, 1) := by decide +kernel
theorem dX7_shoutIn_23 : decode cX7_shoutIn 23 = .ok (.aload_n 0, 1) := by decide +kernel
theorem dX7_shoutIn_24 : decode cX7_shoutIn 24 = .ok (.getfield 21, 3) := by decide +kernel
theorem dX7_shoutIn_27 : decode cX7_shoutIn 27 = .ok (.iconst 2, 1) := by decide +kernel
theorem dX7_shoutIn_28 : decode cX7_shoutIn 28 = .ok (.iload_n 2, 1) := by decide +kernel
theorem dX7_shoutIn_29 : decode cX7_shoutIn 29 = .ok (.iastore, 1) := by decide +kernel
theorem dX7_shoutIn_30 : decode cX7_shoutIn 30 = .ok (.aload_n 0, 1) := by decide +kernel
theorem dX7_shoutIn_31 : decode cX7_shoutIn 31 = .ok (.getfield 21, 3) := by decide +kernel
theorem dX7_shoutIn_34 : decode cX7_shoutIn 34 = .ok (.iconst 3, 1) := by decide +kernel
theorem dX7_shoutIn_35 : decode cX7_shoutIn 35 = .ok (.iload_n 3, 1) := by decide +kernel
theorem dX7_shoutIn_36 : decode cX7_shoutIn 36 = .ok (.iastore, 1) := by decide +kernel
theorem dX7_shoutIn_37 : decode cX7_shoutIn 37 = .ok (.aload_n 0, 1) := by decide +kernel
theorem dX7_shoutIn_38 : decode cX7_shoutIn 38 = .ok (.dup, 1) := by decide +kernel
theorem dX7_shoutIn_39 : decode cX7_shoutIn 39 = .ok (.getfield 18, 3) := by decide +kernel
theorem dX7_shoutIn_42 : decode cX7_shoutIn 42 = .ok (.iconst 1, 1) := by decide +kernel
theorem dX7_shoutIn_43 : decode cX7_shoutIn 43 = .ok (.iadd, 1) := by decide +kernel
theorem dX7_shoutIn_44 : decode cX7_shoutIn 44 = .ok (.putfield 18, 3) := by decide +kernel
theorem dX7_shoutIn_47 : decode cX7_shoutIn 47 = .ok (.iconst 0, 1) := by decide +kernel
theorem dX7_shoutIn_48 : decode cX7_shoutIn 48 = .ok (.ireturn, 1) := by decide +kernel
theorem dX7_passHour_0 : decode cX7_passHour 0 = .ok (.aload_n 0, 1) := by decide +kernel
theorem dX7_passHour_1 : decode cX7_passHour 1 = .ok (.aload_n 1, 1) := by decide +kernel
theorem dX7_passHour_2 : decode cX7_passHour 2 = .ok (.iconst 0, 1) := by decide +kernel
theorem dX7_passHour_3 : decode cX7_passHour 3 = .ok (.invokevirtual 74, 3) := by decide +kernel
theorem dX7_passHour_6 : decode cX7_passHour 6 = .ok (.istore_n 2, 1) := by decide +kernel
theorem dX7_passHour_7 : decode cX7_passHour 7 = .ok (.aload_n 1, 1) := by decide +kernel
theorem dX7_passHour_8 : decode cX7_passHour 8 = .ok (.aload_n 0, 1) := by decide +kernel
theorem dX7_passHour_9 : decode cX7_passHour 9 = .ok (.getfield 9, 3) := by decide +kernel
theorem dX7_passHour_12 : decode cX7_passHour 12 = .ok (.invokevirtual 71, 3) := by decide +kernel
theorem dX7_passHour_15 : decode cX7_passHour 15 = .ok (.istore_n 3, 1) := by decide +kernel
theorem dX7_passHour_16 : decode cX7_passHour 16 = .ok (.iconst 0, 1) := by decide +kernel
theorem dX7_passHour_17 : decode cX7_passHour 17 = .ok (.istore 4, 2) := by decide +kernel
theorem dX7_passHour_19 : decode cX7_passHour 19 = .ok (.iload 4, 2) := by decide +kernel
theorem dX7_passHour_21 : decode cX7_passHour 21 = .ok (.aload_n 1, 1) := by decide +kernel
theorem dX7_passHour_22 : decode cX7_passHour 22 = .ok (.getfield 103, 3) := by decide +kernel
theorem dX7_passHour_25 : decode cX7_passHour 25 = .ok (.if_icmp .ge 131, 3) := by decide +kernel
theorem dX7_passHour_28 : decode cX7_passHour 28 = .ok (.aload_n 0, 1) := by decide +kernel
theorem dX7_passHour_29 : decode cX7_passHour 29 = .ok (.aload_n 1, 1) := by decide +kernel
theorem dX7_passHour_30 : decode cX7_passHour 30 = .ok (.iload 4, 2) := by decide +kernel
theorem dX7_passHour_32 : decode cX7_passHour 32 = .ok (.invokevirtual 96, 3) := by decide +kernel
theorem dX7_passHour_35 : decode cX7_passHour 35 = .ok (.istore 5, 2) := by decide +kernel
theorem dX7_passHour_37 : decode cX7_passHour 37 = .ok (.iload 5, 2) := by decide +kernel
theorem dX7_passHour_39 : decode cX7_passHour 39 = .ok (.iconst (-1), 1) := by decide +kernel
theorem dX7_passHour_40 : decode cX7_passHour 40 = .ok (.if_icmp .eq 7, 3) := by decide +kernel
theorem dX7_passHour_43 : decode cX7_passHour 43 = .ok (.iload_n 3, 1) := by decide +kernel
theorem dX7_passHour_44 : decode cX7_passHour 44 = .ok (.ifCond .eq 7, 3) := by decide +kernel
theorem dX7_passHour_47 : decode cX7_passHour 47 = .ok (.iconst (-1), 1) := by decide +kernel
theorem dX7_passHour_48 : decode cX7_passHour 48 = .ok (.goto 20, 3) := by decide +kernel
theorem dX7_passHour_51 : decode cX7_passHour 51 = .ok (.aload_n 0, 1) := by decide +kernel
theorem dX7_passHour_52 : decode cX7_passHour 52 = .ok (.aload_n 1, 1) := by decide +kernel
theorem dX7_passHour_53 : decode cX7_passHour 53 = .ok (.iload 4, 2) := by decide +kernel
theorem dX7_passHour_55 : decode cX7_passHour 55 = .ok (.aload_n 0, 1) := by decide +kernel
theorem dX7_passHour_56 : decode cX7_passHour 56 = .ok (.aload_n 1, 1) := by decide +kernel
theorem dX7_passHour_57 : decode cX7_passHour 57 = .ok (.iload 5, 2) := by decide +kernel
theorem dX7_passHour_59 : decode cX7_passHour 59 = .ok (.iload 4, 2) := by decide +kernel
theorem dX7_passHour_61 : decode cX7_passHour 61 = .ok (.iload_n 2, 1) := by decide +kernel
theorem dX7_passHour_62 : decode cX7_passHour 62 = .ok (.invokevirtual 78, 3) := by decide +kernel
theorem dX7_passHour_65 : decode cX7_passHour 65 = .ok (.invokevirtual 86, 3) := by decide +kernel
theorem dX7_passHour_68 : decode cX7_passHour 68 = .ok (.istore 6, 2) := by decide +kernel
theorem dX7_passHour_70 : decode cX7_passHour 70 = .ok (.iload 6, 2) := by decide +kernel
theorem dX7_passHour_72 : decode cX7_passHour 72 = .ok (.iconst (-1), 1) := by decide +kernel
theorem dX7_passHour_73 : decode cX7_passHour 73 = .ok (.if_icmp .eq 14, 3) := by decide +kernel
theorem dX7_passHour_76 : decode cX7_passHour 76 = .ok (.aload_n 0, 1) := by decide +kernel
theorem dX7_passHour_77 : decode cX7_passHour 77 = .ok (.getfield 28, 3) := by decide +kernel
theorem dX7_passHour_80 : decode cX7_passHour 80 = .ok (.iload 4, 2) := by decide +kernel
theorem dX7_passHour_82 : decode cX7_passHour 82 = .ok (.dup2, 1) := by decide +kernel
theorem dX7_passHour_83 : decode cX7_passHour 83 = .ok (.iaload, 1) := by decide +kernel
theorem dX7_passHour_84 : decode cX7_passHour 84 = .ok (.iconst 1, 1) := by decide +kernel
theorem dX7_passHour_85 : decode cX7_passHour 85 = .ok (.iadd, 1) := by decide +kernel
theorem dX7_passHour_86 : decode cX7_passHour 86 = .ok (.iastore, 1) := by decide +kernel
theorem dX7_passHour_87 : decode cX7_passHour 87 = .ok (.iconst 0, 1) := by decide +kernel
theorem dX7_passHour_88 : decode cX7_passHour 88 = .ok (.istore 7, 2) := by decide +kernel
theorem dX7_passHour_90 : decode cX7_passHour 90 = .ok (.iload 7, 2) := by decide +kernel
theorem dX7_passHour_92 : decode cX7_passHour 92 = .ok (.aload_n 1, 1) := by decide +kernel
theorem dX7_passHour_93 : decode cX7_passHour 93 = .ok (.getfield 56, 3) := by decide +kernel
theorem dX7_passHour_96 : decode cX7_passHour 96 = .ok (.if_icmp .gt 54, 3) := by decide +kernel
theorem dX7_passHour_99 : decode cX7_passHour 99 = .ok (.iload_n 2, 1) := by decide +kernel
theorem dX7_passHour_100 : decode cX7_passHour 100 = .ok (.iload 7, 2) := by decide +kernel
theorem dX7_passHour_102 : decode cX7_passHour 102 = .ok (.ishr, 1) := by decide +kernel
theorem dX7_passHour_103 : decode cX7_passHour 103 = .ok (.iconst 1, 1) := by decide +kernel
theorem dX7_passHour_104 : decode cX7_passHour 104 = .ok (.iand, 1) := by decide +kernel
theorem dX7_passHour_105 : decode cX7_passHour 105 = .ok (.iconst 1, 1) := by decide +kernel
theorem dX7_passHour_106 : decode cX7_passHour 106 = .ok (.if_icmp .ne 38, 3) := by decide +kernel
theorem dX7_passHour_109 : decode cX7_passHour 109 = .ok (.iload 7, 2) := by decide +kernel
theorem dX7_passHour_111 : decode cX7_passHour 111 = .ok (.iload 6, 2) := by decide +kernel
theorem dX7_passHour_113 : decode cX7_passHour 113 = .ok (.if_icmp .eq 31, 3) := by decide +kernel
theorem dX7_passHour_116 : decode cX7_passHour 116 = .ok (.aload_n 1, 1) := by decide +kernel
theorem dX7_passHour_117 : decode cX7_passHour 117 = .ok (.iload 4, 2) := by decide +kernel
theorem dX7_passHour_119 : decode cX7_passHour 119 = .ok (.aload_n 0, 1) := by decide +kernel
theorem dX7_passHour_120 : decode cX7_passHour 120 = .ok (.aload_n 1, 1) := by decide +kernel
theorem dX7_passHour_121 : decode cX7_passHour 121 = .ok (.iload 7, 2) := by decide +kernel
theorem dX7_passHour_123 : decode cX7_passHour 123 = .ok (.invokevirtual 63, 3) := by decide +kernel
theorem dX7_passHour_126 : decode cX7_passHour 126 = .ok (.invokevirtual 82, 3) := by decide +kernel
theorem dX7_passHour_129 : decode cX7_passHour 129 = .ok (.iconst 5, 1) := by decide +kernel
theorem dX7_passHour_130 : decode cX7_passHour 130 = .ok (.if_icmp .lt 14, 3) := by decide +kernel
theorem dX7_passHour_133 : decode cX7_passHour 133 = .ok (.aload_n 0, 1) := by decide +kernel
theorem dX7_passHour_134 : decode cX7_passHour 134 = .ok (.getfield 31, 3) := by decide +kernel
theorem dX7_passHour_137 : decode cX7_passHour 137 = .ok (.iload 4, 2) := by decide +kernel
theorem dX7_passHour_139 : decode cX7_passHour 139 = .ok (.dup2, 1) := by decide +kernel
theorem dX7_passHour_140 : decode cX7_passHour 140 = .ok (.iaload, 1) := by decide +kernel
theorem dX7_passHour_141 : decode cX7_passHour 141 = .ok (.iconst 1, 1) := by decide +kernel
theorem dX7_passHour_142 : decode cX7_passHour 142 = .ok (.iadd, 1) := by decide +kernel
theorem dX7_passHour_143 : decode cX7_passHour 143 = .ok (.iastore, 1) := by decide +kernel
theorem dX7_passHour_144 : decode cX7_passHour 144 = .ok (.iinc 7 1, 3) := by decide +kernel
theorem dX7_passHour_147 : decode cX7_passHour 147 = .ok (.goto (-57), 3) := by decide +kernel
theorem dX7_passHour_150 : decode cX7_passHour 150 = .ok (.iinc 4 1, 3) := by decide +kernel
theorem dX7_passHour_153 : decode cX7_passHour 153 = .ok (.goto (-134), 3) := by decide +kernel
theorem dX7_passHour_156 : decode cX7_passHour 156 = .ok (.aload_n 0, 1) := by decide +kernel
theorem dX7_passHour_157 : decode cX7_passHour 157 = .ok (.dup, 1) := by decide +kernel
theorem dX7_passHour_158 : decode cX7_passHour 158 = .ok (.getfield 9, 3) := by decide +kernel
theorem dX7_passHour_161 : decode cX7_passHour 161 = .ok (.iconst 1, 1) := by decide +kernel
theorem dX7_passHour_162 : decode cX7_passHour 162 = .ok (.iadd, 1) := by decide +kernel
theorem dX7_passHour_163 : decode cX7_passHour 163 = .ok (.putfield 9, 3) := by decide +kernel
theorem dX7_passHour_166 : decode cX7_passHour 166 = .ok (.aload_n 0, 1) := by decide +kernel
theorem dX7_passHour_167 : decode cX7_passHour 167 = .ok (.getfield 21, 3) := by decide +kernel
theorem dX7_passHour_170 : decode cX7_passHour 170 = .ok (.iconst 3, 1) := by decide +kernel
theorem dX7_passHour_171 : decode cX7_passHour 171 = .ok (.iconst 0, 1) := by decide +kernel
theorem dX7_passHour_172 : decode cX7_passHour 172 = .ok (.iastore, 1) := by decide +kernel
theorem dX7_passHour_173 : decode cX7_passHour 173 = .ok (.return_, 1) := by decide +kernel
theorem dX7_passDrawn_0 : decode cX7_passDrawn 0 = .ok (.iload_n 3, 1) := by decide +kernel
theorem dX7_passDrawn_1 : decode cX7_passDrawn 1 = .ok (.istore 4, 2) := by decide +kernel
theorem dX7_passDrawn_3 : decode cX7_passDrawn 3 = .ok (.iconst 0, 1) := by decide +kernel
theorem dX7_passDrawn_4 : decode cX7_passDrawn 4 = .ok (.istore 5, 2) := by decide +kernel
theorem dX7_passDrawn_6 : decode cX7_passDrawn 6 = .ok (.iload 5, 2) := by decide +kernel
theorem dX7_passDrawn_8 : decode cX7_passDrawn 8 = .ok (.iload_n 2, 1) := by decide +kernel
theorem dX7_passDrawn_9 : decode cX7_passDrawn 9 = .ok (.if_icmp .ge 139, 3) := by decide +kernel
theorem dX7_passDrawn_12 : decode cX7_passDrawn 12 = .ok (.iconst 0, 1) := by decide +kernel
theorem dX7_passDrawn_13 : decode cX7_passDrawn 13 = .ok (.istore 6, 2) := by decide +kernel
theorem dX7_passDrawn_15 : decode cX7_passDrawn 15 = .ok (.iload 6, 2) := by decide +kernel
theorem dX7_passDrawn_17 : decode cX7_passDrawn 17 = .ok (.aload_n 1, 1) := by decide +kernel
theorem dX7_passDrawn_18 : decode cX7_passDrawn 18 = .ok (.getfield 56, 3) := by decide +kernel
theorem dX7_passDrawn_21 : decode cX7_passDrawn 21 = .ok (.if_icmp .ge 39, 3) := by decide +kernel
theorem dX7_passDrawn_24 : decode cX7_passDrawn 24 = .ok (.iload 4, 2) := by decide +kernel
theorem dX7_passDrawn_26 : decode cX7_passDrawn 26 = .ok (.invokestatic 106, 3) := by decide +kernel
theorem dX7_passDrawn_29 : decode cX7_passDrawn 29 = .ok (.istore 4, 2) := by decide +kernel
theorem dX7_passDrawn_31 : decode cX7_passDrawn 31 = .ok (.iload 4, 2) := by decide +kernel
theorem dX7_passDrawn_33 : decode cX7_passDrawn 33 = .ok (.bipush 8, 2) := by decide +kernel
theorem dX7_passDrawn_35 : decode cX7_passDrawn 35 = .ok (.invokestatic 110, 3) := by decide +kernel
theorem dX7_passDrawn_38 : decode cX7_passDrawn 38 = .ok (.ifCond .ne 16, 3) := by decide +kernel
theorem dX7_passDrawn_41 : decode cX7_passDrawn 41 = .ok (.aload_n 0, 1) := by decide +kernel
theorem dX7_passDrawn_42 : decode cX7_passDrawn 42 = .ok (.dup, 1) := by decide +kernel
theorem dX7_passDrawn_43 : decode cX7_passDrawn 43 = .ok (.getfield 15, 3) := by decide +kernel
theorem dX7_passDrawn_46 : decode cX7_passDrawn 46 = .ok (.iconst 1, 1) := by decide +kernel
theorem dX7_passDrawn_47 : decode cX7_passDrawn 47 = .ok (.iload 6, 2) := by decide +kernel
theorem dX7_passDrawn_49 : decode cX7_passDrawn 49 = .ok (.ishl, 1) := by decide +kernel
theorem dX7_passDrawn_50 : decode cX7_passDrawn 50 = .ok (.ixor, 1) := by decide +kernel
theorem dX7_passDrawn_51 : decode cX7_passDrawn 51 = .ok (.putfield 15, 3) := by decide +kernel
theorem dX7_passDrawn_54 : decode cX7_passDrawn 54 = .ok (.iinc 6 1, 3) := by decide +kernel
theorem dX7_passDrawn_57 : decode cX7_passDrawn 57 = .ok (.goto (-42), 3) := by decide +kernel
theorem dX7_passDrawn_60 : decode cX7_passDrawn 60 = .ok (.iload 4, 2) := by decide +kernel
theorem dX7_passDrawn_62 : decode cX7_passDrawn 62 = .ok (.invokestatic 106, 3) := by decide +kernel
theorem dX7_passDrawn_65 : decode cX7_passDrawn 65 = .ok (.istore 4, 2) := by decide +kernel
theorem dX7_passDrawn_67 : decode cX7_passDrawn 67 = .ok (.iload 4, 2) := by decide +kernel
theorem dX7_passDrawn_69 : decode cX7_passDrawn 69 = .ok (.bipush 6, 2) := by decide +kernel
theorem dX7_passDrawn_71 : decode cX7_passDrawn 71 = .ok (.invokestatic 110, 3) := by decide +kernel
theorem dX7_passDrawn_74 : decode cX7_passDrawn 74 = .ok (.ifCond .ne 63, 3) := by decide +kernel
theorem dX7_passDrawn_77 : decode cX7_passDrawn 77 = .ok (.aload_n 0, 1) := by decide +kernel
theorem dX7_passDrawn_78 : decode cX7_passDrawn 78 = .ok (.invokevirtual 99, 3) := by decide +kernel
theorem dX7_passDrawn_81 : decode cX7_passDrawn 81 = .ok (.ifCond .ne 56, 3) := by decide +kernel
theorem dX7_passDrawn_84 : decode cX7_passDrawn 84 = .ok (.iload 4, 2) := by decide +kernel
theorem dX7_passDrawn_86 : decode cX7_passDrawn 86 = .ok (.invokestatic 106, 3) := by decide +kernel
theorem dX7_passDrawn_89 : decode cX7_passDrawn 89 = .ok (.istore 6, 2) := by decide +kernel
theorem dX7_passDrawn_91 : decode cX7_passDrawn 91 = .ok (.iload 6, 2) := by decide +kernel
theorem dX7_passDrawn_93 : decode cX7_passDrawn 93 = .ok (.invokestatic 106, 3) := by decide +kernel
theorem dX7_passDrawn_96 : decode cX7_passDrawn 96 = .ok (.istore 7, 2) := by decide +kernel
theorem dX7_passDrawn_98 : decode cX7_passDrawn 98 = .ok (.iload 7, 2) := by decide +kernel
theorem dX7_passDrawn_100 : decode cX7_passDrawn 100 = .ok (.invokestatic 106, 3) := by decide +kernel
theorem dX7_passDrawn_103 : decode cX7_passDrawn 103 = .ok (.istore 4, 2) := by decide +kernel
theorem dX7_passDrawn_105 : decode cX7_passDrawn 105 = .ok (.aload_n 0, 1) := by decide +kernel
theorem dX7_passDrawn_106 : decode cX7_passDrawn 106 = .ok (.iload 6, 2) := by decide +kernel
theorem dX7_passDrawn_108 : decode cX7_passDrawn 108 = .ok (.aload_n 1, 1) := by decide +kernel
theorem dX7_passDrawn_109 : decode cX7_passDrawn 109 = .ok (.getfield 114, 3) := by decide +kernel
theorem dX7_passDrawn_112 : decode cX7_passDrawn 112 = .ok (.invokestatic 110, 3) := by decide +kernel
theorem dX7_passDrawn_115 : decode cX7_passDrawn 115 = .ok (.iload 7, 2) := by decide +kernel
theorem dX7_passDrawn_117 : decode cX7_passDrawn 117 = .ok (.aload_n 1, 1) := by decide +kernel
theorem dX7_passDrawn_118 : decode cX7_passDrawn 118 = .ok (.getfield 117, 3) := by decide +kernel
theorem dX7_passDrawn_121 : decode cX7_passDrawn 121 = .ok (.invokestatic 110, 3) := by decide +kernel
theorem dX7_passDrawn_124 : decode cX7_passDrawn 124 = .ok (.iload 4, 2) := by decide +kernel
theorem dX7_passDrawn_126 : decode cX7_passDrawn 126 = .ok (.bipush 30, 2) := by decide +kernel
theorem dX7_passDrawn_128 : decode cX7_passDrawn 128 = .ok (.invokestatic 110, 3) := by decide +kernel
theorem dX7_passDrawn_131 : decode cX7_passDrawn 131 = .ok (.iconst 1, 1) := by decide +kernel
theorem dX7_passDrawn_132 : decode cX7_passDrawn 132 = .ok (.iadd, 1) := by decide +kernel
theorem dX7_passDrawn_133 : decode cX7_passDrawn 133 = .ok (.invokevirtual 120, 3) := by decide +kernel
theorem dX7_passDrawn_136 : decode cX7_passDrawn 136 = .ok (.pop, 1) := by decide +kernel
theorem dX7_passDrawn_137 : decode cX7_passDrawn 137 = .ok (.aload_n 0, 1) := by decide +kernel
theorem dX7_passDrawn_138 : decode cX7_passDrawn 138 = .ok (.aload_n 1, 1) := by decide +kernel
theorem dX7_passDrawn_139 : decode cX7_passDrawn 139 = .ok (.invokevirtual 124, 3) := by decide +kernel
theorem dX7_passDrawn_142 : decode cX7_passDrawn 142 = .ok (.iinc 5 1, 3) := by decide +kernel
theorem dX7_passDrawn_145 : decode cX7_passDrawn 145 = .ok (.goto (-139), 3) := by decide +kernel
theorem dX7_passDrawn_148 : decode cX7_passDrawn 148 = .ok (.return_, 1) := by decide +kernel
theorem dX7_step_0 : decode cX7_step 0 = .ok (.iload_n 0, 1) := by decide +kernel
theorem dX7_step_1 : decode cX7_step 1 = .ok (.ldc 128, 2) := by decide +kernel
theorem dX7_step_3 : decode cX7_step 3 = .ok (.imul, 1) := by decide +kernel
theorem dX7_step_4 : decode cX7_step 4 = .ok (.sipush 12345, 3) := by decide +kernel
theorem dX7_step_7 : decode cX7_step 7 = .ok (.iadd, 1) := by decide +kernel
theorem dX7_step_8 : decode cX7_step 8 = .ok (.ireturn, 1) := by decide +kernel
theorem dX7_pick_0 : decode cX7_pick 0 = .ok (.iload_n 1, 1) := by decide +kernel
theorem dX7_pick_1 : decode cX7_pick 1 = .ok (.ifCond .le 12, 3) := by decide +kernel
theorem dX7_pick_4 : decode cX7_pick 4 = .ok (.iload_n 0, 1) := by decide +kernel
theorem dX7_pick_5 : decode cX7_pick 5 = .ok (.bipush 8, 2) := by decide +kernel
theorem dX7_pick_7 : decode cX7_pick 7 = .ok (.iushr, 1) := by decide +kernel
theorem dX7_pick_8 : decode cX7_pick 8 = .ok (.iload_n 1, 1) := by decide +kernel
theorem dX7_pick_9 : decode cX7_pick 9 = .ok (.irem, 1) := by decide +kernel
theorem dX7_pick_10 : decode cX7_pick 10 = .ok (.goto 4, 3) := by decide +kernel
theorem dX7_pick_13 : decode cX7_pick 13 = .ok (.iconst 0, 1) := by decide +kernel
theorem dX7_pick_14 : decode cX7_pick 14 = .ok (.ireturn, 1) := by decide +kernel
theorem dX8_init_0 : decode cX8_init 0 = .ok (.aload_n 0, 1) := by decide +kernel
theorem dX8_init_1 : decode cX8_init 1 = .ok (.invokespecial 1, 3) := by decide +kernel
theorem dX8_init_4 : decode cX8_init 4 = .ok (.aload_n 0, 1) := by decide +kernel
theorem dX8_init_5 : decode cX8_init 5 = .ok (.iconst 0, 1) := by decide +kernel
theorem dX8_init_6 : decode cX8_init 6 = .ok (.putfield 7, 3) := by decide +kernel
theorem dX8_init_9 : decode cX8_init 9 = .ok (.aload_n 0, 1) := by decide +kernel
theorem dX8_init_10 : decode cX8_init 10 = .ok (.iconst 0, 1) := by decide +kernel
theorem dX8_init_11 : decode cX8_init 11 = .ok (.iload_n 1, 1) := by decide +kernel
theorem dX8_init_12 : decode cX8_init 12 = .ok (.invokestatic 13, 3) := by decide +kernel
theorem dX8_init_15 : decode cX8_init 15 = .ok (.newarray .int, 2) := by decide +kernel
theorem dX8_init_17 : decode cX8_init 17 = .ok (.putfield 19, 3) := by decide +kernel
theorem dX8_init_20 : decode cX8_init 20 = .ok (.return_, 1) := by decide +kernel
theorem dX8_at_0 : decode cX8_at 0 = .ok (.iload_n 1, 1) := by decide +kernel
theorem dX8_at_1 : decode cX8_at 1 = .ok (.ifCond .lt 21, 3) := by decide +kernel
theorem dX8_at_4 : decode cX8_at 4 = .ok (.iload_n 1, 1) := by decide +kernel
theorem dX8_at_5 : decode cX8_at 5 = .ok (.aload_n 0, 1) := by decide +kernel
theorem dX8_at_6 : decode cX8_at 6 = .ok (.getfield 19, 3) := by decide +kernel
theorem dX8_at_9 : decode cX8_at 9 = .ok (.arraylength, 1) := by decide +kernel
theorem dX8_at_10 : decode cX8_at 10 = .ok (.if_icmp .ge 12, 3) := by decide +kernel
theorem dX8_at_13 : decode cX8_at 13 = .ok (.aload_n 0, 1) := by decide +kernel
theorem dX8_at_14 : decode cX8_at 14 = .ok (.getfield 19, 3) := by decide +kernel
theorem dX8_at_17 : decode cX8_at 17 = .ok (.iload_n 1, 1) := by decide +kernel
theorem dX8_at_18 : decode cX8_at 18 = .ok (.iaload, 1) := by decide +kernel
theorem dX8_at_19 : decode cX8_at 19 = .ok (.goto 4, 3) := by decide +kernel
theorem dX8_at_22 : decode cX8_at 22 = .ok (.iconst 0, 1) := by decide +kernel
theorem dX8_at_23 : decode cX8_at 23 = .ok (.ireturn, 1) := by decide +kernel
theorem dX8_add_0 : decode cX8_add 0 = .ok (.aload_n 0, 1) := by decide +kernel
theorem dX8_add_1 : decode cX8_add 1 = .ok (.getfield 7, 3) := by decide +kernel
theorem dX8_add_4 : decode cX8_add 4 = .ok (.aload_n 0, 1) := by decide +kernel
theorem dX8_add_5 : decode cX8_add 5 = .ok (.getfield 19, 3) := by decide +kernel
theorem dX8_add_8 : decode cX8_add 8 = .ok (.arraylength, 1) := by decide +kernel
theorem dX8_add_9 : decode cX8_add 9 = .ok (.if_icmp .ge 27, 3) := by decide +kernel
theorem dX8_add_12 : decode cX8_add 12 = .ok (.aload_n 0, 1) := by decide +kernel
theorem dX8_add_13 : decode cX8_add 13 = .ok (.getfield 19, 3) := by decide +kernel
theorem dX8_add_16 : decode cX8_add 16 = .ok (.aload_n 0, 1) := by decide +kernel
theorem dX8_add_17 : decode cX8_add 17 = .ok (.getfield 7, 3) := by decide +kernel
theorem dX8_add_20 : decode cX8_add 20 = .ok (.iload_n 1, 1) := by decide +kernel
theorem dX8_add_21 : decode cX8_add 21 = .ok (.sipush 255, 3) := by decide +kernel
theorem dX8_add_24 : decode cX8_add 24 = .ok (.iand, 1) := by decide +kernel
theorem dX8_add_25 : decode cX8_add 25 = .ok (.iastore, 1) := by decide +kernel
theorem dX8_add_26 : decode cX8_add 26 = .ok (.aload_n 0, 1) := by decide +kernel
theorem dX8_add_27 : decode cX8_add 27 = .ok (.dup, 1) := by decide +kernel
theorem dX8_add_28 : decode cX8_add 28 = .ok (.getfield 7, 3) := by decide +kernel
theorem dX8_add_31 : decode cX8_add 31 = .ok (.iconst 1, 1) := by decide +kernel
theorem dX8_add_32 : decode cX8_add 32 = .ok (.iadd, 1) := by decide +kernel
theorem dX8_add_33 : decode cX8_add 33 = .ok (.putfield 7, 3) := by decide +kernel
theorem dX8_add_36 : decode cX8_add 36 = .ok (.return_, 1) := by decide +kernel
theorem dX8_addFour_0 : decode cX8_addFour 0 = .ok (.bipush 24, 2) := by decide +kernel
theorem dX8_addFour_2 : decode cX8_addFour 2 = .ok (.istore_n 2, 1) := by decide +kernel
theorem dX8_addFour_3 : decode cX8_addFour 3 = .ok (.iload_n 2, 1) := by decide +kernel
theorem dX8_addFour_4 : decode cX8_addFour 4 = .ok (.ifCond .lt 16, 3) := by decide +kernel
theorem dX8_addFour_7 : decode cX8_addFour 7 = .ok (.aload_n 0, 1) := by decide +kernel
theorem dX8_addFour_8 : decode cX8_addFour 8 = .ok (.iload_n 1, 1) := by decide +kernel
theorem dX8_addFour_9 : decode cX8_addFour 9 = .ok (.iload_n 2, 1) := by decide +kernel
theorem dX8_addFour_10 : decode cX8_addFour 10 = .ok (.iushr, 1) := by decide +kernel
theorem dX8_addFour_11 : decode cX8_addFour 11 = .ok (.invokevirtual 23, 3) := by decide +kernel
theorem dX8_addFour_14 : decode cX8_addFour 14 = .ok (.iinc 2 (-8), 3) := by decide +kernel
theorem dX8_addFour_17 : decode cX8_addFour 17 = .ok (.goto (-14), 3) := by decide +kernel
theorem dX8_addFour_20 : decode cX8_addFour 20 = .ok (.return_, 1) := by decide +kernel
theorem dX8_addText_0 : decode cX8_addText 0 = .ok (.iconst 0, 1) := by decide +kernel
theorem dX8_addText_1 : decode cX8_addText 1 = .ok (.istore_n 2, 1) := by decide +kernel
theorem dX8_addText_2 : decode cX8_addText 2 = .ok (.iload_n 2, 1) := by decide +kernel
theorem dX8_addText_3 : decode cX8_addText 3 = .ok (.aload_n 1, 1) := by decide +kernel
theorem dX8_addText_4 : decode cX8_addText 4 = .ok (.invokevirtual 27, 3) := by decide +kernel
theorem dX8_addText_7 : decode cX8_addText 7 = .ok (.if_icmp .ge 18, 3) := by decide +kernel
theorem dX8_addText_10 : decode cX8_addText 10 = .ok (.aload_n 0, 1) := by decide +kernel
theorem dX8_addText_11 : decode cX8_addText 11 = .ok (.aload_n 1, 1) := by decide +kernel
theorem dX8_addText_12 : decode cX8_addText 12 = .ok (.iload_n 2, 1) := by decide +kernel
theorem dX8_addText_13 : decode cX8_addText 13 = .ok (.invokevirtual 32, 3) := by decide +kernel
theorem dX8_addText_16 : decode cX8_addText 16 = .ok (.invokevirtual 23, 3) := by decide +kernel
theorem dX8_addText_19 : decode cX8_addText 19 = .ok (.iinc 2 1, 3) := by decide +kernel
theorem dX8_addText_22 : decode cX8_addText 22 = .ok (.goto (-20), 3) := by decide +kernel
theorem dX8_addText_25 : decode cX8_addText 25 = .ok (.return_, 1) := by decide +kernel
theorem dX8_addName_0 : decode cX8_addName 0 = .ok (.bipush 30, 2) := by decide +kernel
theorem dX8_addName_2 : decode cX8_addName 2 = .ok (.istore_n 3, 1) := by decide +kernel
theorem dX8_addName_3 : decode cX8_addName 3 = .ok (.iload_n 3, 1) := by decide +kernel
theorem dX8_addName_4 : decode cX8_addName 4 = .ok (.ifCond .lt 34, 3) := by decide +kernel
theorem dX8_addName_7 : decode cX8_addName 7 = .ok (.lload_n 1, 1) := by decide +kernel
theorem dX8_addName_8 : decode cX8_addName 8 = .ok (.iload_n 3, 1) := by decide +kernel
theorem dX8_addName_9 : decode cX8_addName 9 = .ok (.lshr, 1) := by decide +kernel
theorem dX8_addName_10 : decode cX8_addName 10 = .ok (.l2i, 1) := by decide +kernel
theorem dX8_addName_11 : decode cX8_addName 11 = .ok (.bipush 31, 2) := by decide +kernel
theorem dX8_addName_13 : decode cX8_addName 13 = .ok (.iand, 1) := by decide +kernel
theorem dX8_addName_14 : decode cX8_addName 14 = .ok (.istore 4, 2) := by decide +kernel
theorem dX8_addName_16 : decode cX8_addName 16 = .ok (.iload 4, 2) := by decide +kernel
theorem dX8_addName_18 : decode cX8_addName 18 = .ok (.ifCond .eq 14, 3) := by decide +kernel
theorem dX8_addName_21 : decode cX8_addName 21 = .ok (.aload_n 0, 1) := by decide +kernel
theorem dX8_addName_22 : decode cX8_addName 22 = .ok (.bipush 97, 2) := by decide +kernel
theorem dX8_addName_24 : decode cX8_addName 24 = .ok (.iload 4, 2) := by decide +kernel
theorem dX8_addName_26 : decode cX8_addName 26 = .ok (.iadd, 1) := by decide +kernel
theorem dX8_addName_27 : decode cX8_addName 27 = .ok (.iconst 1, 1) := by decide +kernel
theorem dX8_addName_28 : decode cX8_addName 28 = .ok (.isub, 1) := by decide +kernel
theorem dX8_addName_29 : decode cX8_addName 29 = .ok (.invokevirtual 23, 3) := by decide +kernel
theorem dX8_addName_32 : decode cX8_addName 32 = .ok (.iinc 3 (-5), 3) := by decide +kernel
theorem dX8_addName_35 : decode cX8_addName 35 = .ok (.goto (-32), 3) := by decide +kernel
theorem dX8_addName_38 : decode cX8_addName 38 = .ok (.return_, 1) := by decide +kernel
theorem dX9_init_0 : decode cX9_init 0 = .ok (.aload_n 0, 1) := by decide +kernel
theorem dX9_init_1 : decode cX9_init 1 = .ok (.invokespecial 3, 3) := by decide +kernel
theorem dX9_init_4 : decode cX9_init 4 = .ok (.aload_n 0, 1) := by decide +kernel
theorem dX9_init_5 : decode cX9_init 5 = .ok (.bipush 32, 2) := by decide +kernel
theorem dX9_init_7 : decode cX9_init 7 = .ok (.newarray .long, 2) := by decide +kernel
theorem dX9_init_9 : decode cX9_init 9 = .ok (.putfield 9, 3) := by decide +kernel
theorem dX9_init_12 : decode cX9_init 12 = .ok (.aload_n 0, 1) := by decide +kernel
theorem dX9_init_13 : decode cX9_init 13 = .ok (.iconst 0, 1) := by decide +kernel
theorem dX9_init_14 : decode cX9_init 14 = .ok (.putfield 15, 3) := by decide +kernel
theorem dX9_init_17 : decode cX9_init 17 = .ok (.aload_n 0, 1) := by decide +kernel
theorem dX9_init_18 : decode cX9_init 18 = .ok (.iconst 0, 1) := by decide +kernel
theorem dX9_init_19 : decode cX9_init 19 = .ok (.putfield 19, 3) := by decide +kernel
theorem dX9_init_22 : decode cX9_init 22 = .ok (.aload_n 0, 1) := by decide +kernel
theorem dX9_init_23 : decode cX9_init 23 = .ok (.iconst 0, 1) := by decide +kernel
theorem dX9_init_24 : decode cX9_init 24 = .ok (.putfield 22, 3) := by decide +kernel
theorem dX9_init_27 : decode cX9_init 27 = .ok (.aload_n 0, 1) := by decide +kernel
theorem dX9_init_28 : decode cX9_init 28 = .ok (.iconst 0, 1) := by decide +kernel
theorem dX9_init_29 : decode cX9_init 29 = .ok (.putfield 25, 3) := by decide +kernel
theorem dX9_init_32 : decode cX9_init 32 = .ok (.aload_n 0, 1) := by decide +kernel
theorem dX9_init_33 : decode cX9_init 33 = .ok (.iconst 0, 1) := by decide +kernel
theorem dX9_init_34 : decode cX9_init 34 = .ok (.putfield 28, 3) := by decide +kernel
theorem dX9_init_37 : decode cX9_init 37 = .ok (.aload_n 0, 1) := by decide +kernel
theorem dX9_init_38 : decode cX9_init 38 = .ok (.iconst 0, 1) := by decide +kernel
theorem dX9_init_39 : decode cX9_init 39 = .ok (.putfield 31, 3) := by decide +kernel
theorem dX9_init_42 : decode cX9_init 42 = .ok (.aload_n 0, 1) := by decide +kernel
theorem dX9_init_43 : decode cX9_init 43 = .ok (.iconst (-1), 1) := by decide +kernel
theorem dX9_init_44 : decode cX9_init 44 = .ok (.putfield 34, 3) := by decide +kernel
theorem dX9_init_47 : decode cX9_init 47 = .ok (.aload_n 0, 1) := by decide +kernel
theorem dX9_init_48 : decode cX9_init 48 = .ok (.lconst 0, 1) := by decide +kernel
theorem dX9_init_49 : decode cX9_init 49 = .ok (.putfield 37, 3) := by decide +kernel
theorem dX9_init_52 : decode cX9_init 52 = .ok (.aload_n 0, 1) := by decide +kernel
theorem dX9_init_53 : decode cX9_init 53 = .ok (.iconst 0, 1) := by decide +kernel
theorem dX9_init_54 : decode cX9_init 54 = .ok (.putfield 41, 3) := by decide +kernel
theorem dX9_init_57 : decode cX9_init 57 = .ok (.aload_n 0, 1) := by decide +kernel
theorem dX9_init_58 : decode cX9_init 58 = .ok (.iconst 0, 1) := by decide +kernel
theorem dX9_init_59 : decode cX9_init 59 = .ok (.putfield 44, 3) := by decide +kernel
theorem dX9_init_62 : decode cX9_init 62 = .ok (.aload_n 0, 1) := by decide +kernel
theorem dX9_init_63 : decode cX9_init 63 = .ok (.aload_n 1, 1) := by decide +kernel
theorem dX9_init_64 : decode cX9_init 64 = .ok (.putfield 47, 3) := by decide +kernel
theorem dX9_init_67 : decode cX9_init 67 = .ok (.iconst 0, 1) := by decide +kernel
theorem dX9_init_68 : decode cX9_init 68 = .ok (.istore_n 2, 1) := by decide +kernel
theorem dX9_init_69 : decode cX9_init 69 = .ok (.iconst 0, 1) := by decide +kernel
theorem dX9_init_70 : decode cX9_init 70 = .ok (.istore_n 3, 1) := by decide +kernel
theorem dX9_init_71 : decode cX9_init 71 = .ok (.iload_n 3, 1) := by decide +kernel
theorem dX9_init_72 : decode cX9_init 72 = .ok (.ldc 51, 2) := by decide +kernel
theorem dX9_init_74 : decode cX9_init 74 = .ok (.invokevirtual 53, 3) := by decide +kernel
theorem dX9_init_77 : decode cX9_init 77 = .ok (.if_icmp .ge 64, 3) := by decide +kernel
theorem dX9_init_80 : decode cX9_init 80 = .ok (.iload_n 2, 1) := by decide +kernel
theorem dX9_init_81 : decode cX9_init 81 = .ok (.aload_n 0, 1) := by decide +kernel
theorem dX9_init_82 : decode cX9_init 82 = .ok (.getfield 9, 3) := by decide +kernel
theorem dX9_init_85 : decode cX9_init 85 = .ok (.arraylength, 1) := by decide +kernel
theorem dX9_init_86 : decode cX9_init 86 = .ok (.if_icmp .ge 55, 3) := by decide +kernel
theorem dX9_init_89 : decode cX9_init 89 = .ok (.ldc 51, 2) := by decide +kernel
theorem dX9_init_91 : decode cX9_init 91 = .ok (.iload_n 3, 1) := by decide +kernel
theorem dX9_init_92 : decode cX9_init 92 = .ok (.invokevirtual 59, 3) := by decide +kernel
theorem dX9_init_95 : decode cX9_init 95 = .ok (.istore 4, 2) := by decide +kernel
theorem dX9_init_97 : decode cX9_init 97 = .ok (.iload 4, 2) := by decide +kernel
theorem dX9_init_99 : decode cX9_init 99 = .ok (.bipush 32, 2) := by decide +kernel
theorem dX9_init_101 : decode cX9_init 101 = .ok (.if_icmp .ne 9, 3) := by decide +kernel
theorem dX9_init_104 : decode cX9_init 104 = .ok (.iinc 2 1, 3) := by decide +kernel
theorem dX9_init_107 : decode cX9_init 107 = .ok (.goto 28, 3) := by decide +kernel
theorem dX9_init_110 : decode cX9_init 110 = .ok (.aload_n 0, 1) := by decide +kernel
theorem dX9_init_111 : decode cX9_init 111 = .ok (.getfield 9, 3) := by decide +kernel
theorem dX9_init_114 : decode cX9_init 114 = .ok (.iload_n 2, 1) := by decide +kernel
theorem dX9_init_115 : decode cX9_init 115 = .ok (.aload_n 0, 1) := by decide +kernel
theorem dX9_init_116 : decode cX9_init 116 = .ok (.getfield 9, 3) := by decide +kernel
theorem dX9_init_119 : decode cX9_init 119 = .ok (.iload_n 2, 1) := by decide +kernel
theorem dX9_init_120 : decode cX9_init 120 = .ok (.laload, 1) := by decide +kernel
theorem dX9_init_121 : decode cX9_init 121 = .ok (.ldc2_w 63, 3) := by decide +kernel
theorem dX9_init_124 : decode cX9_init 124 = .ok (.lmul, 1) := by decide +kernel
theorem dX9_init_125 : decode cX9_init 125 = .ok (.iload 4, 2) := by decide +kernel
theorem dX9_init_127 : decode cX9_init 127 = .ok (.bipush 97, 2) := by decide +kernel
theorem dX9_init_129 : decode cX9_init 129 = .ok (.isub, 1) := by decide +kernel
theorem dX9_init_130 : decode cX9_init 130 = .ok (.iconst 1, 1) := by decide +kernel
theorem dX9_init_131 : decode cX9_init 131 = .ok (.iadd, 1) := by decide +kernel
theorem dX9_init_132 : decode cX9_init 132 = .ok (.i2l, 1) := by decide +kernel
theorem dX9_init_133 : decode cX9_init 133 = .ok (.ladd, 1) := by decide +kernel
theorem dX9_init_134 : decode cX9_init 134 = .ok (.lastore, 1) := by decide +kernel
theorem dX9_init_135 : decode cX9_init 135 = .ok (.iinc 3 1, 3) := by decide +kernel
theorem dX9_init_138 : decode cX9_init 138 = .ok (.goto (-67), 3) := by decide +kernel
theorem dX9_init_141 : decode cX9_init 141 = .ok (.return_, 1) := by decide +kernel
theorem dX9_start_0 : decode cX9_start 0 = .ok (.aload_n 0, 1) := by decide +kernel
theorem dX9_start_1 : decode cX9_start 1 = .ok (.iload_n 1, 1) := by decide +kernel
theorem dX9_start_2 : decode cX9_start 2 = .ok (.putfield 15, 3) := by decide +kernel
theorem dX9_start_5 : decode cX9_start 5 = .ok (.aload_n 0, 1) := by decide +kernel
theorem dX9_start_6 : decode cX9_start 6 = .ok (.iconst 0, 1) := by decide +kernel
theorem dX9_start_7 : decode cX9_start 7 = .ok (.putfield 19, 3) := by decide +kernel
theorem dX9_start_10 : decode cX9_start 10 = .ok (.aload_n 0, 1) := by decide +kernel
theorem dX9_start_11 : decode cX9_start 11 = .ok (.iconst 0, 1) := by decide +kernel
theorem dX9_start_12 : decode cX9_start 12 = .ok (.putfield 25, 3) := by decide +kernel
theorem dX9_start_15 : decode cX9_start 15 = .ok (.aload_n 0, 1) := by decide +kernel
theorem dX9_start_16 : decode cX9_start 16 = .ok (.iconst 0, 1) := by decide +kernel
theorem dX9_start_17 : decode cX9_start 17 = .ok (.putfield 41, 3) := by decide +kernel
theorem dX9_start_20 : decode cX9_start 20 = .ok (.aload_n 0, 1) := by decide +kernel
theorem dX9_start_21 : decode cX9_start 21 = .ok (.iconst 0, 1) := by decide +kernel
theorem dX9_start_22 : decode cX9_start 22 = .ok (.putfield 44, 3) := by decide +kernel
theorem dX9_start_25 : decode cX9_start 25 = .ok (.aload_n 0, 1) := by decide +kernel
theorem dX9_start_26 : decode cX9_start 26 = .ok (.invokevirtual 65, 3) := by decide +kernel
theorem dX9_start_29 : decode cX9_start 29 = .ok (.return_, 1) := by decide +kernel
theorem dX9_advance_0 : decode cX9_advance 0 = .ok (.aload_n 0, 1) := by decide +kernel
theorem dX9_advance_1 : decode cX9_advance 1 = .ok (.aload_n 0, 1) := by decide +kernel
theorem dX9_advance_2 : decode cX9_advance 2 = .ok (.getfield 25, 3) := by decide +kernel
theorem dX9_advance_5 : decode cX9_advance 5 = .ok (.putfield 28, 3) := by decide +kernel
theorem dX9_advance_8 : decode cX9_advance 8 = .ok (.aload_n 0, 1) := by decide +kernel
theorem dX9_advance_9 : decode cX9_advance 9 = .ok (.iconst (-1), 1) := by decide +kernel
theorem dX9_advance_10 : decode cX9_advance 10 = .ok (.putfield 34, 3) := by decide +kernel
theorem dX9_advance_13 : decode cX9_advance 13 = .ok (.aload_n 0, 1) := by decide +kernel
theorem dX9_advance_14 : decode cX9_advance 14 = .ok (.getfield 19, 3) := by decide +kernel
theorem dX9_advance_17 : decode cX9_advance 17 = .ok (.aload_n 0, 1) := by decide +kernel
theorem dX9_advance_18 : decode cX9_advance 18 = .ok (.getfield 47, 3) := by decide +kernel
theorem dX9_advance_21 : decode cX9_advance 21 = .ok (.getfield 68, 3) := by decide +kernel
theorem dX9_advance_24 : decode cX9_advance 24 = .ok (.if_icmp .ge 48, 3) := by decide +kernel
theorem dX9_advance_27 : decode cX9_advance 27 = .ok (.aload_n 0, 1) := by decide +kernel
theorem dX9_advance_28 : decode cX9_advance 28 = .ok (.getfield 47, 3) := by decide +kernel
theorem dX9_advance_31 : decode cX9_advance 31 = .ok (.aload_n 0, 1) := by decide +kernel
theorem dX9_advance_32 : decode cX9_advance 32 = .ok (.getfield 19, 3) := by decide +kernel
theorem dX9_advance_35 : decode cX9_advance 35 = .ok (.invokevirtual 72, 3) := by decide +kernel
theorem dX9_advance_38 : decode cX9_advance 38 = .ok (.bipush 32, 2) := by decide +kernel
theorem dX9_advance_40 : decode cX9_advance 40 = .ok (.if_icmp .eq 19, 3) := by decide +kernel
theorem dX9_advance_43 : decode cX9_advance 43 = .ok (.aload_n 0, 1) := by decide +kernel
theorem dX9_advance_44 : decode cX9_advance 44 = .ok (.getfield 47, 3) := by decide +kernel
theorem dX9_advance_47 : decode cX9_advance 47 = .ok (.aload_n 0, 1) := by decide +kernel
theorem dX9_advance_48 : decode cX9_advance 48 = .ok (.getfield 19, 3) := by decide +kernel
theorem dX9_advance_51 : decode cX9_advance 51 = .ok (.invokevirtual 72, 3) := by decide +kernel
theorem dX9_advance_54 : decode cX9_advance 54 = .ok (.bipush 10, 2) := by decide +kernel
theorem dX9_advance_56 : decode cX9_advance 56 = .ok (.if_icmp .ne 16, 3) := by decide +kernel
theorem dX9_advance_59 : decode cX9_advance 59 = .ok (.aload_n 0, 1) := by decide +kernel
theorem dX9_advance_60 : decode cX9_advance 60 = .ok (.dup, 1) := by decide +kernel
theorem dX9_advance_61 : decode cX9_advance 61 = .ok (.getfield 19, 3) := by decide +kernel
theorem dX9_advance_64 : decode cX9_advance 64 = .ok (.iconst 1, 1) := by decide +kernel
theorem dX9_advance_65 : decode cX9_advance 65 = .ok (.iadd, 1) := by decide +kernel
theorem dX9_advance_66 : decode cX9_advance 66 = .ok (.putfield 19, 3) := by decide +kernel
theorem dX9_advance_69 : decode cX9_advance 69 = .ok (.goto (-56), 3) := by decide +kernel
theorem dX9_advance_72 : decode cX9_advance 72 = .ok (.aload_n 0, 1) := by decide +kernel
theorem dX9_advance_73 : decode cX9_advance 73 = .ok (.getfield 19, 3) := by decide +kernel
theorem dX9_advance_76 : decode cX9_advance 76 = .ok (.aload_n 0, 1) := by decide +kernel
theorem dX9_advance_77 : decode cX9_advance 77 = .ok (.getfield 15, 3) := by decide +kernel
theorem dX9_advance_80 : decode cX9_advance 80 = .ok (.if_icmp .lt 31, 3) := by decide +kernel
theorem dX9_advance_83 : decode cX9_advance 83 = .ok (.aload_n 0, 1) := by decide +kernel
theorem dX9_advance_84 : decode cX9_advance 84 = .ok (.getfield 47, 3) := by decide +kernel
theorem dX9_advance_87 : decode cX9_advance 87 = .ok (.getfield 68, 3) := by decide +kernel
theorem dX9_advance_90 : decode cX9_advance 90 = .ok (.aload_n 0, 1) := by decide +kernel
theorem dX9_advance_91 : decode cX9_advance 91 = .ok (.getfield 15, 3) := by decide +kernel
theorem dX9_advance_94 : decode cX9_advance 94 = .ok (.if_icmp .le 17, 3) := by decide +kernel
theorem dX9_advance_97 : decode cX9_advance 97 = .ok (.aload_n 0, 1) := by decide +kernel
theorem dX9_advance_98 : decode cX9_advance 98 = .ok (.iconst 1, 1) := by decide +kernel
theorem dX9_advance_99 : decode cX9_advance 99 = .ok (.putfield 22, 3) := by decide +kernel
theorem dX9_advance_102 : decode cX9_advance 102 = .ok (.aload_n 0, 1) := by decide +kernel
theorem dX9_advance_103 : decode cX9_advance 103 = .ok (.aload_n 0, 1) := by decide +kernel
theorem dX9_advance_104 : decode cX9_advance 104 = .ok (.getfield 15, 3) := by decide +kernel
theorem dX9_advance_107 : decode cX9_advance 107 = .ok (.putfield 25, 3) := by decide +kernel
theorem dX9_advance_110 : decode cX9_advance 110 = .ok (.return_, 1) := by decide +kernel
theorem dX9_advance_111 : decode cX9_advance 111 = .ok (.aload_n 0, 1) := by decide +kernel
theorem dX9_advance_112 : decode cX9_advance 112 = .ok (.aload_n 0, 1) := by decide +kernel
theorem dX9_advance_113 : decode cX9_advance 113 = .ok (.getfield 19, 3) := by decide +kernel
theorem dX9_advance_116 : decode cX9_advance 116 = .ok (.putfield 25, 3) := by decide +kernel
theorem dX9_advance_119 : decode cX9_advance 119 = .ok (.aload_n 0, 1) := by decide +kernel
theorem dX9_advance_120 : decode cX9_advance 120 = .ok (.getfield 19, 3) := by decide +kernel
theorem dX9_advance_123 : decode cX9_advance 123 = .ok (.aload_n 0, 1) := by decide +kernel
theorem dX9_advance_124 : decode cX9_advance 124 = .ok (.getfield 47, 3) := by decide +kernel
theorem dX9_advance_127 : decode cX9_advance 127 = .ok (.getfield 68, 3) := by decide +kernel
theorem dX9_advance_130 : decode cX9_advance 130 = .ok (.if_icmp .lt 9, 3) := by decide +kernel
theorem dX9_advance_133 : decode cX9_advance 133 = .ok (.aload_n 0, 1) := by decide +kernel
theorem dX9_advance_134 : decode cX9_advance 134 = .ok (.iconst 0, 1) := by decide +kernel
theorem dX9_advance_135 : decode cX9_advance 135 = .ok (.putfield 22, 3) := by decide +kernel
theorem dX9_advance_138 : decode cX9_advance 138 = .ok (.return_, 1) := by decide +kernel
theorem dX9_advance_139 : decode cX9_advance 139 = .ok (.aload_n 0, 1) := by decide +kernel
theorem dX9_advance_140 : decode cX9_advance 140 = .ok (.getfield 47, 3) := by decide +kernel
theorem dX9_advance_143 : decode cX9_advance 143 = .ok (.aload_n 0, 1) := by decide +kernel
theorem dX9_advance_144 : decode cX9_advance 144 = .ok (.getfield 19, 3) := by decide +kernel
theorem dX9_advance_147 : decode cX9_advance 147 = .ok (.invokevirtual 72, 3) := by decide +kernel
theorem dX9_advance_150 : decode cX9_advance 150 = .ok (.istore_n 1, 1) := by decide +kernel
theorem dX9_advance_151 : decode cX9_advance 151 = .ok (.iload_n 1, 1) := by decide +kernel
theorem dX9_advance_152 : decode cX9_advance 152 = .ok (.bipush 97, 2) := by decide +kernel
theorem dX9_advance_154 : decode cX9_advance 154 = .ok (.if_icmp .lt 9, 3) := by decide +kernel
theorem dX9_advance_157 : decode cX9_advance 157 = .ok (.iload_n 1, 1) := by decide +kernel
theorem dX9_advance_158 : decode cX9_advance 158 = .ok (.bipush 122, 2) := by decide +kernel
theorem dX9_advance_160 : decode cX9_advance 160 = .ok (.if_icmp .le 15, 3) := by decide +kernel
theorem dX9_advance_163 : decode cX9_advance 163 = .ok (.iload_n 1, 1) := by decide +kernel
theorem dX9_advance_164 : decode cX9_advance 164 = .ok (.bipush 48, 2) := by decide +kernel
theorem dX9_advance_166 : decode cX9_advance 166 = .ok (.if_icmp .lt 14, 3) := by decide +kernel
theorem dX9_advance_169 : decode cX9_advance 169 = .ok (.iload_n 1, 1) := by decide +kernel
theorem dX9_advance_170 : decode cX9_advance 170 = .ok (.bipush 57, 2) := by decide +kernel
theorem dX9_advance_172 : decode cX9_advance 172 = .ok (.if_icmp .gt 8, 3) := by decide +kernel
theorem dX9_advance_175 : decode cX9_advance 175 = .ok (.aload_n 0, 1) := by decide +kernel
theorem dX9_advance_176 : decode cX9_advance 176 = .ok (.invokevirtual 76, 3) := by decide +kernel
theorem dX9_advance_179 : decode cX9_advance 179 = .ok (.return_, 1) := by decide +kernel
theorem dX9_advance_180 : decode cX9_advance 180 = .ok (.aload_n 0, 1) := by decide +kernel
theorem dX9_advance_181 : decode cX9_advance 181 = .ok (.dup, 1) := by decide +kernel
theorem dX9_advance_182 : decode cX9_advance 182 = .ok (.getfield 19, 3) := by decide +kernel
theorem dX9_advance_185 : decode cX9_advance 185 = .ok (.iconst 1, 1) := by decide +kernel
theorem dX9_advance_186 : decode cX9_advance 186 = .ok (.iadd, 1) := by decide +kernel
theorem dX9_advance_187 : decode cX9_advance 187 = .ok (.putfield 19, 3) := by decide +kernel
theorem dX9_advance_190 : decode cX9_advance 190 = .ok (.aload_n 0, 1) := by decide +kernel
theorem dX9_advance_191 : decode cX9_advance 191 = .ok (.iload_n 1, 1) := by decide +kernel
theorem dX9_advance_192 : decode cX9_advance 192 = .ok (.putfield 31, 3) := by decide +kernel
theorem dX9_advance_195 : decode cX9_advance 195 = .ok (.aload_n 0, 1) := by decide +kernel
theorem dX9_advance_196 : decode cX9_advance 196 = .ok (.iload_n 1, 1) := by decide +kernel
theorem dX9_advance_197 : decode cX9_advance 197 = .ok (.bipush 59, 2) := by decide +kernel
theorem dX9_advance_199 : decode cX9_advance 199 = .ok (.if_icmp .eq 33, 3) := by decide +kernel
theorem dX9_advance_202 : decode cX9_advance 202 = .ok (.iload_n 1, 1) := by decide +kernel
theorem dX9_advance_203 : decode cX9_advance 203 = .ok (.bipush 60, 2) := by decide +kernel
theorem dX9_advance_205 : decode cX9_advance 205 = .ok (.if_icmp .lt 9, 3) := by decide +kernel
theorem dX9_advance_208 : decode cX9_advance 208 = .ok (.iload_n 1, 1) := by decide +kernel
theorem dX9_advance_209 : decode cX9_advance 209 = .ok (.bipush 62, 2) := by decide +kernel
theorem dX9_advance_211 : decode cX9_advance 211 = .ok (.if_icmp .le 21, 3) := by decide +kernel
theorem dX9_advance_214 : decode cX9_advance 214 = .ok (.iload_n 1, 1) := by decide +kernel
theorem dX9_advance_215 : decode cX9_advance 215 = .ok (.bipush 40, 2) := by decide +kernel
theorem dX9_advance_217 : decode cX9_advance 217 = .ok (.if_icmp .eq 15, 3) := by decide +kernel
theorem dX9_advance_220 : decode cX9_advance 220 = .ok (.iload_n 1, 1) := by decide +kernel
theorem dX9_advance_221 : decode cX9_advance 221 = .ok (.bipush 41, 2) := by decide +kernel
theorem dX9_advance_223 : decode cX9_advance 223 = .ok (.if_icmp .eq 9, 3) := by decide +kernel
theorem dX9_advance_226 : decode cX9_advance 226 = .ok (.iload_n 1, 1) := by decide +kernel
theorem dX9_advance_227 : decode cX9_advance 227 = .ok (.bipush 46, 2) := by decide +kernel
theorem dX9_advance_229 : decode cX9_advance 229 = .ok (.if_icmp .ne 7, 3) := by decide +kernel
theorem dX9_advance_232 : decode cX9_advance 232 = .ok (.iconst 4, 1) := by decide +kernel
theorem dX9_advance_233 : decode cX9_advance 233 = .ok (.goto 4, 3) := by decide +kernel
theorem dX9_advance_236 : decode cX9_advance 236 = .ok (.iconst 1, 1) := by decide +kernel
theorem dX9_advance_237 : decode cX9_advance 237 = .ok (.putfield 22, 3) := by decide +kernel
theorem dX9_advance_240 : decode cX9_advance 240 = .ok (.return_, 1) := by decide +kernel
theorem dX9_readRun_0 : decode cX9_readRun 0 = .ok (.iconst 0, 1) := by decide +kernel
theorem dX9_readRun_1 : decode cX9_readRun 1 = .ok (.istore_n 1, 1) := by decide +kernel
theorem dX9_readRun_2 : decode cX9_readRun 2 = .ok (.iconst 0, 1) := by decide +kernel
theorem dX9_readRun_3 : decode cX9_readRun 3 = .ok (.istore_n 2, 1) := by decide +kernel
theorem dX9_readRun_4 : decode cX9_readRun 4 = .ok (.aload_n 0, 1) := by decide +kernel
theorem dX9_readRun_5 : decode cX9_readRun 5 = .ok (.iconst 0, 1) := by decide +kernel
theorem dX9_readRun_6 : decode cX9_readRun 6 = .ok (.putfield 31, 3) := by decide +kernel
theorem dX9_readRun_9 : decode cX9_readRun 9 = .ok (.aload_n 0, 1) := by decide +kernel
theorem dX9_readRun_10 : decode cX9_readRun 10 = .ok (.lconst 0, 1) := by decide +kernel
theorem dX9_readRun_11 : decode cX9_readRun 11 = .ok (.putfield 37, 3) := by decide +kernel
theorem dX9_readRun_14 : decode cX9_readRun 14 = .ok (.aload_n 0, 1) := by decide +kernel
theorem dX9_readRun_15 : decode cX9_readRun 15 = .ok (.getfield 19, 3) := by decide +kernel
theorem dX9_readRun_18 : decode cX9_readRun 18 = .ok (.aload_n 0, 1) := by decide +kernel
theorem dX9_readRun_19 : decode cX9_readRun 19 = .ok (.getfield 47, 3) := by decide +kernel
theorem dX9_readRun_22 : decode cX9_readRun 22 = .ok (.getfield 68, 3) := by decide +kernel
theorem dX9_readRun_25 : decode cX9_readRun 25 = .ok (.if_icmp .ge 97, 3) := by decide +kernel
theorem dX9_readRun_28 : decode cX9_readRun 28 = .ok (.aload_n 0, 1) := by decide +kernel
theorem dX9_readRun_29 : decode cX9_readRun 29 = .ok (.getfield 47, 3) := by decide +kernel
theorem dX9_readRun_32 : decode cX9_readRun 32 = .ok (.aload_n 0, 1) := by decide +kernel
theorem dX9_readRun_33 : decode cX9_readRun 33 = .ok (.getfield 19, 3) := by decide +kernel
theorem dX9_readRun_36 : decode cX9_readRun 36 = .ok (.invokevirtual 72, 3) := by decide +kernel
theorem dX9_readRun_39 : decode cX9_readRun 39 = .ok (.istore_n 3, 1) := by decide +kernel
theorem dX9_readRun_40 : decode cX9_readRun 40 = .ok (.iload_n 3, 1) := by decide +kernel
theorem dX9_readRun_41 : decode cX9_readRun 41 = .ok (.bipush 97, 2) := by decide +kernel
theorem dX9_readRun_43 : decode cX9_readRun 43 = .ok (.if_icmp .lt 35, 3) := by decide +kernel
theorem dX9_readRun_46 : decode cX9_readRun 46 = .ok (.iload_n 3, 1) := by decide +kernel
theorem dX9_readRun_47 : decode cX9_readRun 47 = .ok (.bipush 122, 2) := by decide +kernel
theorem dX9_readRun_49 : decode cX9_readRun 49 = .ok (.if_icmp .gt 29, 3) := by decide +kernel
theorem dX9_readRun_52 : decode cX9_readRun 52 = .ok (.iinc 1 1, 3) := by decide +kernel
theorem dX9_readRun_55 : decode cX9_readRun 55 = .ok (.aload_n 0, 1) := by decide +kernel
theorem dX9_readRun_56 : decode cX9_readRun 56 = .ok (.aload_n 0, 1) := by decide +kernel
theorem dX9_readRun_57 : decode cX9_readRun 57 = .ok (.getfield 37, 3) := by decide +kernel
theorem dX9_readRun_60 : decode cX9_readRun 60 = .ok (.ldc2_w 63, 3) := by decide +kernel
theorem dX9_readRun_63 : decode cX9_readRun 63 = .ok (.lmul, 1) := by decide +kernel
theorem dX9_readRun_64 : decode cX9_readRun 64 = .ok (.iload_n 3, 1) := by decide +kernel
theorem dX9_readRun_65 : decode cX9_readRun 65 = .ok (.bipush 97, 2) := by decide +kernel
theorem dX9_readRun_67 : decode cX9_readRun 67 = .ok (.isub, 1) := by decide +kernel
theorem dX9_readRun_68 : decode cX9_readRun 68 = .ok (.iconst 1, 1) := by decide +kernel
theorem dX9_readRun_69 : decode cX9_readRun 69 = .ok (.iadd, 1) := by decide +kernel
theorem dX9_readRun_70 : decode cX9_readRun 70 = .ok (.i2l, 1) := by decide +kernel
theorem dX9_readRun_71 : decode cX9_readRun 71 = .ok (.ladd, 1) := by decide +kernel
theorem dX9_readRun_72 : decode cX9_readRun 72 = .ok (.putfield 37, 3) := by decide +kernel
theorem dX9_readRun_75 : decode cX9_readRun 75 = .ok (.goto 34, 3) := by decide +kernel
theorem dX9_readRun_78 : decode cX9_readRun 78 = .ok (.iload_n 3, 1) := by decide +kernel
theorem dX9_readRun_79 : decode cX9_readRun 79 = .ok (.bipush 48, 2) := by decide +kernel
theorem dX9_readRun_81 : decode cX9_readRun 81 = .ok (.if_icmp .lt 41, 3) := by decide +kernel
theorem dX9_readRun_84 : decode cX9_readRun 84 = .ok (.iload_n 3, 1) := by decide +kernel
theorem dX9_readRun_85 : decode cX9_readRun 85 = .ok (.bipush 57, 2) := by decide +kernel
theorem dX9_readRun_87 : decode cX9_readRun 87 = .ok (.if_icmp .gt 35, 3) := by decide +kernel
theorem dX9_readRun_90 : decode cX9_readRun 90 = .ok (.iinc 2 1, 3) := by decide +kernel
theorem dX9_readRun_93 : decode cX9_readRun 93 = .ok (.aload_n 0, 1) := by decide +kernel
theorem dX9_readRun_94 : decode cX9_readRun 94 = .ok (.aload_n 0, 1) := by decide +kernel
theorem dX9_readRun_95 : decode cX9_readRun 95 = .ok (.getfield 31, 3) := by decide +kernel
theorem dX9_readRun_98 : decode cX9_readRun 98 = .ok (.bipush 10, 2) := by decide +kernel
theorem dX9_readRun_100 : decode cX9_readRun 100 = .ok (.imul, 1) := by decide +kernel
theorem dX9_readRun_101 : decode cX9_readRun 101 = .ok (.iload_n 3, 1) := by decide +kernel
theorem dX9_readRun_102 : decode cX9_readRun 102 = .ok (.bipush 48, 2) := by decide +kernel
theorem dX9_readRun_104 : decode cX9_readRun 104 = .ok (.isub, 1) := by decide +kernel
theorem dX9_readRun_105 : decode cX9_readRun 105 = .ok (.iadd, 1) := by decide +kernel
theorem dX9_readRun_106 : decode cX9_readRun 106 = .ok (.putfield 31, 3) := by decide +kernel
theorem dX9_readRun_109 : decode cX9_readRun 109 = .ok (.aload_n 0, 1) := by decide +kernel
theorem dX9_readRun_110 : decode cX9_readRun 110 = .ok (.dup, 1) := by decide +kernel
theorem dX9_readRun_111 : decode cX9_readRun 111 = .ok (.getfield 19, 3) := by decide +kernel
theorem dX9_readRun_114 : decode cX9_readRun 114 = .ok (.iconst 1, 1) := by decide +kernel
theorem dX9_readRun_115 : decode cX9_readRun 115 = .ok (.iadd, 1) := by decide +kernel
theorem dX9_readRun_116 : decode cX9_readRun 116 = .ok (.putfield 19, 3) := by decide +kernel
theorem dX9_readRun_119 : decode cX9_readRun 119 = .ok (.goto (-105), 3) := by decide +kernel
theorem dX9_readRun_122 : decode cX9_readRun 122 = .ok (.iload_n 2, 1) := by decide +kernel
theorem dX9_readRun_123 : decode cX9_readRun 123 = .ok (.ifCond .ne 34, 3) := by decide +kernel
theorem dX9_readRun_126 : decode cX9_readRun 126 = .ok (.iload_n 1, 1) := by decide +kernel
theorem dX9_readRun_127 : decode cX9_readRun 127 = .ok (.bipush 7, 2) := by decide +kernel
theorem dX9_readRun_129 : decode cX9_readRun 129 = .ok (.if_icmp .gt 28, 3) := by decide +kernel
theorem dX9_readRun_132 : decode cX9_readRun 132 = .ok (.aload_n 0, 1) := by decide +kernel
theorem dX9_readRun_133 : decode cX9_readRun 133 = .ok (.iconst 2, 1) := by decide +kernel
theorem dX9_readRun_134 : decode cX9_readRun 134 = .ok (.putfield 22, 3) := by decide +kernel
theorem dX9_readRun_137 : decode cX9_readRun 137 = .ok (.aload_n 0, 1) := by decide +kernel
theorem dX9_readRun_138 : decode cX9_readRun 138 = .ok (.aload_n 0, 1) := by decide +kernel
theorem dX9_readRun_139 : decode cX9_readRun 139 = .ok (.getfield 9, 3) := by decide +kernel
theorem dX9_readRun_142 : decode cX9_readRun 142 = .ok (.bipush 32, 2) := by decide +kernel
theorem dX9_readRun_144 : decode cX9_readRun 144 = .ok (.aload_n 0, 1) := by decide +kernel
theorem dX9_readRun_145 : decode cX9_readRun 145 = .ok (.getfield 37, 3) := by decide +kernel
theorem dX9_readRun_148 : decode cX9_readRun 148 = .ok (.invokestatic 79, 3) := by decide +kernel
theorem dX9_readRun_151 : decode cX9_readRun 151 = .ok (.putfield 34, 3) := by decide +kernel
theorem dX9_readRun_154 : decode cX9_readRun 154 = .ok (.goto 21, 3) := by decide +kernel
theorem dX9_readRun_157 : decode cX9_readRun 157 = .ok (.aload_n 0, 1) := by decide +kernel
theorem dX9_readRun_158 : decode cX9_readRun 158 = .ok (.iload_n 1, 1) := by decide +kernel
theorem dX9_readRun_159 : decode cX9_readRun 159 = .ok (.ifCond .ne 12, 3) := by decide +kernel
theorem dX9_readRun_162 : decode cX9_readRun 162 = .ok (.iload_n 2, 1) := by decide +kernel
theorem dX9_readRun_163 : decode cX9_readRun 163 = .ok (.iconst 3, 1) := by decide +kernel
theorem dX9_readRun_164 : decode cX9_readRun 164 = .ok (.if_icmp .gt 7, 3) := by decide +kernel
theorem dX9_readRun_167 : decode cX9_readRun 167 = .ok (.iconst 3, 1) := by decide +kernel
theorem dX9_readRun_168 : decode cX9_readRun 168 = .ok (.goto 4, 3) := by decide +kernel
theorem dX9_readRun_171 : decode cX9_readRun 171 = .ok (.iconst 1, 1) := by decide +kernel
theorem dX9_readRun_172 : decode cX9_readRun 172 = .ok (.putfield 22, 3) := by decide +kernel
theorem dX9_readRun_175 : decode cX9_readRun 175 = .ok (.return_, 1) := by decide +kernel
theorem dX9_numberOf_0 : decode cX9_numberOf 0 = .ok (.iconst 0, 1) := by decide +kernel
theorem dX9_numberOf_1 : decode cX9_numberOf 1 = .ok (.istore 4, 2) := by decide +kernel
theorem dX9_numberOf_3 : decode cX9_numberOf 3 = .ok (.iload 4, 2) := by decide +kernel
theorem dX9_numberOf_5 : decode cX9_numberOf 5 = .ok (.iload_n 1, 1) := by decide +kernel
theorem dX9_numberOf_6 : decode cX9_numberOf 6 = .ok (.if_icmp .ge 28, 3) := by decide +kernel
theorem dX9_numberOf_9 : decode cX9_numberOf 9 = .ok (.iload 4, 2) := by decide +kernel
theorem dX9_numberOf_11 : decode cX9_numberOf 11 = .ok (.aload_n 0, 1) := by decide +kernel
theorem dX9_numberOf_12 : decode cX9_numberOf 12 = .ok (.arraylength, 1) := by decide +kernel
theorem dX9_numberOf_13 : decode cX9_numberOf 13 = .ok (.if_icmp .ge 21, 3) := by decide +kernel
theorem dX9_numberOf_16 : decode cX9_numberOf 16 = .ok (.aload_n 0, 1) := by decide +kernel
theorem dX9_numberOf_17 : decode cX9_numberOf 17 = .ok (.iload 4, 2) := by decide +kernel
theorem dX9_numberOf_19 : decode cX9_numberOf 19 = .ok (.laload, 1) := by decide +kernel
theorem dX9_numberOf_20 : decode cX9_numberOf 20 = .ok (.lload_n 2, 1) := by decide +kernel
theorem dX9_numberOf_21 : decode cX9_numberOf 21 = .ok (.lcmp, 1) := by decide +kernel
theorem dX9_numberOf_22 : decode cX9_numberOf 22 = .ok (.ifCond .ne 6, 3) := by decide +kernel
theorem dX9_numberOf_25 : decode cX9_numberOf 25 = .ok (.iload 4, 2) := by decide +kernel
theorem dX9_numberOf_27 : decode cX9_numberOf 27 = .ok (.ireturn, 1) := by decide +kernel
theorem dX9_numberOf_28 : decode cX9_numberOf 28 = .ok (.iinc 4 1, 3) := by decide +kernel
theorem dX9_numberOf_31 : decode cX9_numberOf 31 = .ok (.goto (-28), 3) := by decide +kernel
theorem dX9_numberOf_34 : decode cX9_numberOf 34 = .ok (.iconst (-1), 1) := by decide +kernel
theorem dX9_numberOf_35 : decode cX9_numberOf 35 = .ok (.ireturn, 1) := by decide +kernel
theorem dX9_fail_0 : decode cX9_fail 0 = .ok (.aload_n 0, 1) := by decide +kernel
theorem dX9_fail_1 : decode cX9_fail 1 = .ok (.iload_n 1, 1) := by decide +kernel
theorem dX9_fail_2 : decode cX9_fail 2 = .ok (.aload_n 0, 1) := by decide +kernel
theorem dX9_fail_3 : decode cX9_fail 3 = .ok (.getfield 25, 3) := by decide +kernel
theorem dX9_fail_6 : decode cX9_fail 6 = .ok (.invokevirtual 83, 3) := by decide +kernel
theorem dX9_fail_9 : decode cX9_fail 9 = .ok (.ireturn, 1) := by decide +kernel
theorem dX9_failBehind_0 : decode cX9_failBehind 0 = .ok (.aload_n 0, 1) := by decide +kernel
theorem dX9_failBehind_1 : decode cX9_failBehind 1 = .ok (.iload_n 1, 1) := by decide +kernel
theorem dX9_failBehind_2 : decode cX9_failBehind 2 = .ok (.aload_n 0, 1) := by decide +kernel
theorem dX9_failBehind_3 : decode cX9_failBehind 3 = .ok (.getfield 28, 3) := by decide +kernel
theorem dX9_failBehind_6 : decode cX9_failBehind 6 = .ok (.invokevirtual 83, 3) := by decide +kernel
theorem dX9_failBehind_9 : decode cX9_failBehind 9 = .ok (.ireturn, 1) := by decide +kernel
theorem dX9_failAt_0 : decode cX9_failAt 0 = .ok (.aload_n 0, 1) := by decide +kernel
theorem dX9_failAt_1 : decode cX9_failAt 1 = .ok (.getfield 41, 3) := by decide +kernel
theorem dX9_failAt_4 : decode cX9_failAt 4 = .ok (.ifCond .ne 13, 3) := by decide +kernel
theorem dX9_failAt_7 : decode cX9_failAt 7 = .ok (.aload_n 0, 1) := by decide +kernel
theorem dX9_failAt_8 : decode cX9_failAt 8 = .ok (.iload_n 1, 1) := by decide +kernel
theorem dX9_failAt_9 : decode cX9_failAt 9 = .ok (.putfield 41, 3) := by decide +kernel
theorem dX9_failAt_12 : decode cX9_failAt 12 = .ok (.aload_n 0, 1) := by decide +kernel
theorem dX9_failAt_13 : decode cX9_failAt 13 = .ok (.iload_n 2, 1) := by decide +kernel
theorem dX9_failAt_14 : decode cX9_failAt 14 = .ok (.putfield 44, 3) := by decide +kernel
theorem dX9_failAt_17 : decode cX9_failAt 17 = .ok (.iconst 0, 1) := by decide +kernel
theorem dX9_failAt_18 : decode cX9_failAt 18 = .ok (.ireturn, 1) := by decide +kernel
theorem dX9_isSign_0 : decode cX9_isSign 0 = .ok (.aload_n 0, 1) := by decide +kernel
theorem dX9_isSign_1 : decode cX9_isSign 1 = .ok (.getfield 22, 3) := by decide +kernel
theorem dX9_isSign_4 : decode cX9_isSign 4 = .ok (.iconst 4, 1) := by decide +kernel
theorem dX9_isSign_5 : decode cX9_isSign 5 = .ok (.if_icmp .ne 15, 3) := by decide +kernel
theorem dX9_isSign_8 : decode cX9_isSign 8 = .ok (.aload_n 0, 1) := by decide +kernel
theorem dX9_isSign_9 : decode cX9_isSign 9 = .ok (.getfield 31, 3) := by decide +kernel
theorem dX9_isSign_12 : decode cX9_isSign 12 = .ok (.iload_n 1, 1) := by decide +kernel
theorem dX9_isSign_13 : decode cX9_isSign 13 = .ok (.if_icmp .ne 7, 3) := by decide +kernel
theorem dX9_isSign_16 : decode cX9_isSign 16 = .ok (.iconst 1, 1) := by decide +kernel
theorem dX9_isSign_17 : decode cX9_isSign 17 = .ok (.goto 4, 3) := by decide +kernel
theorem dX9_isSign_20 : decode cX9_isSign 20 = .ok (.iconst 0, 1) := by decide +kernel
theorem dX9_isSign_21 : decode cX9_isSign 21 = .ok (.ireturn, 1) := by decide +kernel
theorem dX9_skipSign_0 : decode cX9_skipSign 0 = .ok (.aload_n 0, 1) := by decide +kernel
theorem dX9_skipSign_1 : decode cX9_skipSign 1 = .ok (.iload_n 1, 1) := by decide +kernel
theorem dX9_skipSign_2 : decode cX9_skipSign 2 = .ok (.invokevirtual 87, 3) := by decide +kernel
theorem dX9_skipSign_5 : decode cX9_skipSign 5 = .ok (.ifCond .ne 9, 3) := by decide +kernel
theorem dX9_skipSign_8 : decode cX9_skipSign 8 = .ok (.aload_n 0, 1) := by decide +kernel
theorem dX9_skipSign_9 : decode cX9_skipSign 9 = .ok (.iconst 1, 1) := by decide +kernel
theorem dX9_skipSign_10 : decode cX9_skipSign 10 = .ok (.invokevirtual 91, 3) := by decide +kernel
theorem dX9_skipSign_13 : decode cX9_skipSign 13 = .ok (.ireturn, 1) := by decide +kernel
theorem dX9_skipSign_14 : decode cX9_skipSign 14 = .ok (.aload_n 0, 1) := by decide +kernel
theorem dX9_skipSign_15 : decode cX9_skipSign 15 = .ok (.invokevirtual 65, 3) := by decide +kernel
theorem dX9_skipSign_18 : decode cX9_skipSign 18 = .ok (.iconst 1, 1) := by decide +kernel
theorem dX9_skipSign_19 : decode cX9_skipSign 19 = .ok (.ireturn, 1) := by decide +kernel
theorem dX9_takeNumber_0 : decode cX9_takeNumber 0 = .ok (.aload_n 0, 1) := by decide +kernel
theorem dX9_takeNumber_1 : decode cX9_takeNumber 1 = .ok (.getfield 31, 3) := by decide +kernel
theorem dX9_takeNumber_4 : decode cX9_takeNumber 4 = .ok (.istore_n 3, 1) := by decide +kernel
theorem dX9_takeNumber_5 : decode cX9_takeNumber 5 = .ok (.aload_n 0, 1) := by decide +kernel
theorem dX9_takeNumber_6 : decode cX9_takeNumber 6 = .ok (.getfield 22, 3) := by decide +kernel
theorem dX9_takeNumber_9 : decode cX9_takeNumber 9 = .ok (.iconst 3, 1) := by decide +kernel
theorem dX9_takeNumber_10 : decode cX9_takeNumber 10 = .ok (.if_icmp .ne 13, 3) := by decide +kernel
theorem dX9_takeNumber_13 : decode cX9_takeNumber 13 = .ok (.iload_n 3, 1) := by decide +kernel
theorem dX9_takeNumber_14 : decode cX9_takeNumber 14 = .ok (.iload_n 1, 1) := by decide +kernel
theorem dX9_takeNumber_15 : decode cX9_takeNumber 15 = .ok (.if_icmp .lt 8, 3) := by decide +kernel
theorem dX9_takeNumber_18 : decode cX9_takeNumber 18 = .ok (.iload_n 3, 1) := by decide +kernel
theorem dX9_takeNumber_19 : decode cX9_takeNumber 19 = .ok (.iload_n 2, 1) := by decide +kernel
theorem dX9_takeNumber_20 : decode cX9_takeNumber 20 = .ok (.if_icmp .le 23, 3) := by decide +kernel
theorem dX9_takeNumber_23 : decode cX9_takeNumber 23 = .ok (.aload_n 0, 1) := by decide +kernel
theorem dX9_takeNumber_24 : decode cX9_takeNumber 24 = .ok (.aload_n 0, 1) := by decide +kernel
theorem dX9_takeNumber_25 : decode cX9_takeNumber 25 = .ok (.getfield 22, 3) := by decide +kernel
theorem dX9_takeNumber_28 : decode cX9_takeNumber 28 = .ok (.iconst 3, 1) := by decide +kernel
theorem dX9_takeNumber_29 : decode cX9_takeNumber 29 = .ok (.if_icmp .eq 7, 3) := by decide +kernel
theorem dX9_takeNumber_32 : decode cX9_takeNumber 32 = .ok (.iconst 1, 1) := by decide +kernel
theorem dX9_takeNumber_33 : decode cX9_takeNumber 33 = .ok (.goto 4, 3) := by decide +kernel
theorem dX9_takeNumber_36 : decode cX9_takeNumber 36 = .ok (.iconst 2, 1) := by decide +kernel
theorem dX9_takeNumber_37 : decode cX9_takeNumber 37 = .ok (.invokevirtual 91, 3) := by decide +kernel
theorem dX9_takeNumber_40 : decode cX9_takeNumber 40 = .ok (.pop, 1) := by decide +kernel
theorem dX9_takeNumber_41 : decode cX9_takeNumber 41 = .ok (.iconst (-1), 1) := by decide +kernel
theorem dX9_takeNumber_42 : decode cX9_takeNumber 42 = .ok (.ireturn, 1) := by decide +kernel
theorem dX9_takeNumber_43 : decode cX9_takeNumber 43 = .ok (.aload_n 0, 1) := by decide +kernel
theorem dX9_takeNumber_44 : decode cX9_takeNumber 44 = .ok (.invokevirtual 65, 3) := by decide +kernel
theorem dX9_takeNumber_47 : decode cX9_takeNumber 47 = .ok (.iload_n 3, 1) := by decide +kernel
theorem dX9_takeNumber_48 : decode cX9_takeNumber 48 = .ok (.ireturn, 1) := by decide +kernel
theorem dX9_takeWord_0 : decode cX9_takeWord 0 = .ok (.aload_n 0, 1) := by decide +kernel
theorem dX9_takeWord_1 : decode cX9_takeWord 1 = .ok (.getfield 34, 3) := by decide +kernel
theorem dX9_takeWord_4 : decode cX9_takeWord 4 = .ok (.iload_n 1, 1) := by decide +kernel
theorem dX9_takeWord_5 : decode cX9_takeWord 5 = .ok (.isub, 1) := by decide +kernel
theorem dX9_takeWord_6 : decode cX9_takeWord 6 = .ok (.istore_n 3, 1) := by decide +kernel
theorem dX9_takeWord_7 : decode cX9_takeWord 7 = .ok (.aload_n 0, 1) := by decide +kernel
theorem dX9_takeWord_8 : decode cX9_takeWord 8 = .ok (.getfield 34, 3) := by decide +kernel
theorem dX9_takeWord_11 : decode cX9_takeWord 11 = .ok (.iconst (-1), 1) := by decide +kernel
theorem dX9_takeWord_12 : decode cX9_takeWord 12 = .ok (.if_icmp .eq 12, 3) := by decide +kernel
theorem dX9_takeWord_15 : decode cX9_takeWord 15 = .ok (.iload_n 3, 1) := by decide +kernel
theorem dX9_takeWord_16 : decode cX9_takeWord 16 = .ok (.ifCond .lt 8, 3) := by decide +kernel
theorem dX9_takeWord_19 : decode cX9_takeWord 19 = .ok (.iload_n 3, 1) := by decide +kernel
theorem dX9_takeWord_20 : decode cX9_takeWord 20 = .ok (.iload_n 2, 1) := by decide +kernel
theorem dX9_takeWord_21 : decode cX9_takeWord 21 = .ok (.if_icmp .lt 11, 3) := by decide +kernel
theorem dX9_takeWord_24 : decode cX9_takeWord 24 = .ok (.aload_n 0, 1) := by decide +kernel
theorem dX9_takeWord_25 : decode cX9_takeWord 25 = .ok (.iconst 1, 1) := by decide +kernel
theorem dX9_takeWord_26 : decode cX9_takeWord 26 = .ok (.invokevirtual 91, 3) := by decide +kernel
theorem dX9_takeWord_29 : decode cX9_takeWord 29 = .ok (.pop, 1) := by decide +kernel
theorem dX9_takeWord_30 : decode cX9_takeWord 30 = .ok (.iconst (-1), 1) := by decide +kernel
theorem dX9_takeWord_31 : decode cX9_takeWord 31 = .ok (.ireturn, 1) := by decide +kernel
theorem dX9_takeWord_32 : decode cX9_takeWord 32 = .ok (.aload_n 0, 1) := by decide +kernel
theorem dX9_takeWord_33 : decode cX9_takeWord 33 = .ok (.invokevirtual 65, 3) := by decide +kernel
theorem dX9_takeWord_36 : decode cX9_takeWord 36 = .ok (.iload_n 3, 1) := by decide +kernel
theorem dX9_takeWord_37 : decode cX9_takeWord 37 = .ok (.ireturn, 1) := by decide +kernel
theorem dX9_takeNewName_0 : decode cX9_takeNewName 0 = .ok (.aload_n 0, 1) := by decide +kernel
theorem dX9_takeNewName_1 : decode cX9_takeNewName 1 = .ok (.getfield 37, 3) := by decide +kernel
theorem dX9_takeNewName_4 : decode cX9_takeNewName 4 = .ok (.lstore_n 2, 1) := by decide +kernel
theorem dX9_takeNewName_5 : decode cX9_takeNewName 5 = .ok (.aload_n 0, 1) := by decide +kernel
theorem dX9_takeNewName_6 : decode cX9_takeNewName 6 = .ok (.getfield 22, 3) := by decide +kernel
theorem dX9_takeNewName_9 : decode cX9_takeNewName 9 = .ok (.iconst 2, 1) := by decide +kernel
theorem dX9_takeNewName_10 : decode cX9_takeNewName 10 = .ok (.if_icmp .ne 19, 3) := by decide +kernel
theorem dX9_takeNewName_13 : decode cX9_takeNewName 13 = .ok (.aload_n 0, 1) := by decide +kernel
theorem dX9_takeNewName_14 : decode cX9_takeNewName 14 = .ok (.getfield 34, 3) := by decide +kernel
theorem dX9_takeNewName_17 : decode cX9_takeNewName 17 = .ok (.iconst (-1), 1) := by decide +kernel
theorem dX9_takeNewName_18 : decode cX9_takeNewName 18 = .ok (.if_icmp .ne 11, 3) := by decide +kernel
theorem dX9_takeNewName_21 : decode cX9_takeNewName 21 = .ok (.aload_n 1, 1) := by decide +kernel
theorem dX9_takeNewName_22 : decode cX9_takeNewName 22 = .ok (.lload_n 2, 1) := by decide +kernel
theorem dX9_takeNewName_23 : decode cX9_takeNewName 23 = .ok (.invokevirtual 95, 3) := by decide +kernel
theorem dX9_takeNewName_26 : decode cX9_takeNewName 26 = .ok (.ifCond .eq 33, 3) := by decide +kernel
theorem dX9_takeNewName_29 : decode cX9_takeNewName 29 = .ok (.aload_n 0, 1) := by decide +kernel
theorem dX9_takeNewName_30 : decode cX9_takeNewName 30 = .ok (.aload_n 0, 1) := by decide +kernel
theorem dX9_takeNewName_31 : decode cX9_takeNewName 31 = .ok (.getfield 22, 3) := by decide +kernel
theorem dX9_takeNewName_34 : decode cX9_takeNewName 34 = .ok (.iconst 2, 1) := by decide +kernel
theorem dX9_takeNewName_35 : decode cX9_takeNewName 35 = .ok (.if_icmp .ne 11, 3) := by decide +kernel
theorem dX9_takeNewName_38 : decode cX9_takeNewName 38 = .ok (.aload_n 0, 1) := by decide +kernel
theorem dX9_takeNewName_39 : decode cX9_takeNewName 39 = .ok (.getfield 34, 3) := by decide +kernel
theorem dX9_takeNewName_42 : decode cX9_takeNewName 42 = .ok (.iconst (-1), 1) := by decide +kernel
theorem dX9_takeNewName_43 : decode cX9_takeNewName 43 = .ok (.if_icmp .eq 7, 3) := by decide +kernel
theorem dX9_takeNewName_46 : decode cX9_takeNewName 46 = .ok (.iconst 1, 1) := by decide +kernel
theorem dX9_takeNewName_47 : decode cX9_takeNewName 47 = .ok (.goto 4, 3) := by decide +kernel
theorem dX9_takeNewName_50 : decode cX9_takeNewName 50 = .ok (.iconst 3, 1) := by decide +kernel
theorem dX9_takeNewName_51 : decode cX9_takeNewName 51 = .ok (.invokevirtual 91, 3) := by decide +kernel
theorem dX9_takeNewName_54 : decode cX9_takeNewName 54 = .ok (.pop, 1) := by decide +kernel
theorem dX9_takeNewName_55 : decode cX9_takeNewName 55 = .ok (.ldc2_w 101, 3) := by decide +kernel
theorem dX9_takeNewName_58 : decode cX9_takeNewName 58 = .ok (.lreturn, 1) := by decide +kernel
theorem dX9_takeNewName_59 : decode cX9_takeNewName 59 = .ok (.aload_n 0, 1) := by decide +kernel
theorem dX9_takeNewName_60 : decode cX9_takeNewName 60 = .ok (.invokevirtual 65, 3) := by decide +kernel
theorem dX9_takeNewName_63 : decode cX9_takeNewName 63 = .ok (.lload_n 2, 1) := by decide +kernel
theorem dX9_takeNewName_64 : decode cX9_takeNewName 64 = .ok (.lreturn, 1) := by decide +kernel
theorem dX9_takeKnown_0 : decode cX9_takeKnown 0 = .ok (.aload_n 0, 1) := by decide +kernel
theorem dX9_takeKnown_1 : decode cX9_takeKnown 1 = .ok (.getfield 22, 3) := by decide +kernel
theorem dX9_takeKnown_4 : decode cX9_takeKnown 4 = .ok (.iconst 2, 1) := by decide +kernel
theorem dX9_takeKnown_5 : decode cX9_takeKnown 5 = .ok (.if_icmp .ne 11, 3) := by decide +kernel
theorem dX9_takeKnown_8 : decode cX9_takeKnown 8 = .ok (.aload_n 0, 1) := by decide +kernel
theorem dX9_takeKnown_9 : decode cX9_takeKnown 9 = .ok (.getfield 34, 3) := by decide +kernel
theorem dX9_takeKnown_12 : decode cX9_takeKnown 12 = .ok (.iconst (-1), 1) := by decide +kernel
theorem dX9_takeKnown_13 : decode cX9_takeKnown 13 = .ok (.if_icmp .eq 11, 3) := by decide +kernel
theorem dX9_takeKnown_16 : decode cX9_takeKnown 16 = .ok (.aload_n 0, 1) := by decide +kernel
theorem dX9_takeKnown_17 : decode cX9_takeKnown 17 = .ok (.iconst 1, 1) := by decide +kernel
theorem dX9_takeKnown_18 : decode cX9_takeKnown 18 = .ok (.invokevirtual 91, 3) := by decide +kernel
theorem dX9_takeKnown_21 : decode cX9_takeKnown 21 = .ok (.pop, 1) := by decide +kernel
theorem dX9_takeKnown_22 : decode cX9_takeKnown 22 = .ok (.iconst (-1), 1) := by decide +kernel
theorem dX9_takeKnown_23 : decode cX9_takeKnown 23 = .ok (.ireturn, 1) := by decide +kernel
theorem dX9_takeKnown_24 : decode cX9_takeKnown 24 = .ok (.aload_n 1, 1) := by decide +kernel
theorem dX9_takeKnown_25 : decode cX9_takeKnown 25 = .ok (.iload_n 2, 1) := by decide +kernel
theorem dX9_takeKnown_26 : decode cX9_takeKnown 26 = .ok (.aload_n 0, 1) := by decide +kernel
theorem dX9_takeKnown_27 : decode cX9_takeKnown 27 = .ok (.getfield 37, 3) := by decide +kernel
theorem dX9_takeKnown_30 : decode cX9_takeKnown 30 = .ok (.invokestatic 79, 3) := by decide +kernel
theorem dX9_takeKnown_33 : decode cX9_takeKnown 33 = .ok (.istore_n 3, 1) := by decide +kernel
theorem dX9_takeKnown_34 : decode cX9_takeKnown 34 = .ok (.iload_n 3, 1) := by decide +kernel
theorem dX9_takeKnown_35 : decode cX9_takeKnown 35 = .ok (.iconst (-1), 1) := by decide +kernel
theorem dX9_takeKnown_36 : decode cX9_takeKnown 36 = .ok (.if_icmp .ne 11, 3) := by decide +kernel
theorem dX9_takeKnown_39 : decode cX9_takeKnown 39 = .ok (.aload_n 0, 1) := by decide +kernel
theorem dX9_takeKnown_40 : decode cX9_takeKnown 40 = .ok (.iconst 3, 1) := by decide +kernel
theorem dX9_takeKnown_41 : decode cX9_takeKnown 41 = .ok (.invokevirtual 91, 3) := by decide +kernel
theorem dX9_takeKnown_44 : decode cX9_takeKnown 44 = .ok (.pop, 1) := by decide +kernel
theorem dX9_takeKnown_45 : decode cX9_takeKnown 45 = .ok (.iconst (-1), 1) := by decide +kernel
theorem dX9_takeKnown_46 : decode cX9_takeKnown 46 = .ok (.ireturn, 1) := by decide +kernel
theorem dX9_takeKnown_47 : decode cX9_takeKnown 47 = .ok (.aload_n 0, 1) := by decide +kernel
theorem dX9_takeKnown_48 : decode cX9_takeKnown 48 = .ok (.invokevirtual 65, 3) := by decide +kernel
theorem dX9_takeKnown_51 : decode cX9_takeKnown 51 = .ok (.iload_n 3, 1) := by decide +kernel
theorem dX9_takeKnown_52 : decode cX9_takeKnown 52 = .ok (.ireturn, 1) := by decide +kernel
theorem dX10_init_0 : decode cX10_init 0 = .ok (.aload_n 0, 1) := by decide +kernel
theorem dX10_init_1 : decode cX10_init 1 = .ok (.invokespecial 3, 3) := by decide +kernel
theorem dX10_init_4 : decode cX10_init 4 = .ok (.aload_n 0, 1) := by decide +kernel
theorem dX10_init_5 : decode cX10_init 5 = .ok (.bipush 8, 2) := by decide +kernel
theorem dX10_init_7 : decode cX10_init 7 = .ok (.anewarray 11, 3) := by decide +kernel
theorem dX10_init_10 : decode cX10_init 10 = .ok (.putfield 13, 3) := by decide +kernel
theorem dX10_init_13 : decode cX10_init 13 = .ok (.aload_n 0, 1) := by decide +kernel
theorem dX10_init_14 : decode cX10_init 14 = .ok (.iconst 0, 1) := by decide +kernel
theorem dX10_init_15 : decode cX10_init 15 = .ok (.putfield 17, 3) := by decide +kernel
theorem dX10_init_18 : decode cX10_init 18 = .ok (.aload_n 0, 1) := by decide +kernel
theorem dX10_init_19 : decode cX10_init 19 = .ok (.iconst 0, 1) := by decide +kernel
theorem dX10_init_20 : decode cX10_init 20 = .ok (.putfield 21, 3) := by decide +kernel
theorem dX10_init_23 : decode cX10_init 23 = .ok (.iconst 0, 1) := by decide +kernel
theorem dX10_init_24 : decode cX10_init 24 = .ok (.istore_n 1, 1) := by decide +kernel
theorem dX10_init_25 : decode cX10_init 25 = .ok (.iload_n 1, 1) := by decide +kernel
theorem dX10_init_26 : decode cX10_init 26 = .ok (.bipush 8, 2) := by decide +kernel
theorem dX10_init_28 : decode cX10_init 28 = .ok (.if_icmp .ge 22, 3) := by decide +kernel
theorem dX10_init_31 : decode cX10_init 31 = .ok (.aload_n 0, 1) := by decide +kernel
theorem dX10_init_32 : decode cX10_init 32 = .ok (.getfield 13, 3) := by decide +kernel
theorem dX10_init_35 : decode cX10_init 35 = .ok (.iload_n 1, 1) := by decide +kernel
theorem dX10_init_36 : decode cX10_init 36 = .ok (.new 11, 3) := by decide +kernel
theorem dX10_init_39 : decode cX10_init 39 = .ok (.dup, 1) := by decide +kernel
theorem dX10_init_40 : decode cX10_init 40 = .ok (.invokespecial 24, 3) := by decide +kernel
theorem dX10_init_43 : decode cX10_init 43 = .ok (.aastore, 1) := by decide +kernel
theorem dX10_init_44 : decode cX10_init 44 = .ok (.iinc 1 1, 3) := by decide +kernel
theorem dX10_init_47 : decode cX10_init 47 = .ok (.goto (-22), 3) := by decide +kernel
theorem dX10_init_50 : decode cX10_init 50 = .ok (.return_, 1) := by decide +kernel
theorem dX10_forget_0 : decode cX10_forget 0 = .ok (.aload_n 0, 1) := by decide +kernel
theorem dX10_forget_1 : decode cX10_forget 1 = .ok (.iconst 0, 1) := by decide +kernel
theorem dX10_forget_2 : decode cX10_forget 2 = .ok (.putfield 21, 3) := by decide +kernel
theorem dX10_forget_5 : decode cX10_forget 5 = .ok (.return_, 1) := by decide +kernel
theorem dX10_keep_0 : decode cX10_keep 0 = .ok (.aload_n 0, 1) := by decide +kernel
theorem dX10_keep_1 : decode cX10_keep 1 = .ok (.getfield 13, 3) := by decide +kernel
theorem dX10_keep_4 : decode cX10_keep 4 = .ok (.aload_n 0, 1) := by decide +kernel
theorem dX10_keep_5 : decode cX10_keep 5 = .ok (.getfield 17, 3) := by decide +kernel
theorem dX10_keep_8 : decode cX10_keep 8 = .ok (.aaload, 1) := by decide +kernel
theorem dX10_keep_9 : decode cX10_keep 9 = .ok (.aload_n 1, 1) := by decide +kernel
theorem dX10_keep_10 : decode cX10_keep 10 = .ok (.invokevirtual 25, 3) := by decide +kernel
theorem dX10_keep_13 : decode cX10_keep 13 = .ok (.aload_n 0, 1) := by decide +kernel
theorem dX10_keep_14 : decode cX10_keep 14 = .ok (.aload_n 0, 1) := by decide +kernel
theorem dX10_keep_15 : decode cX10_keep 15 = .ok (.getfield 17, 3) := by decide +kernel
theorem dX10_keep_18 : decode cX10_keep 18 = .ok (.iconst 1, 1) := by decide +kernel
theorem dX10_keep_19 : decode cX10_keep 19 = .ok (.iadd, 1) := by decide +kernel
theorem dX10_keep_20 : decode cX10_keep 20 = .ok (.bipush 8, 2) := by decide +kernel
theorem dX10_keep_22 : decode cX10_keep 22 = .ok (.irem, 1) := by decide +kernel
theorem dX10_keep_23 : decode cX10_keep 23 = .ok (.putfield 17, 3) := by decide +kernel
theorem dX10_keep_26 : decode cX10_keep 26 = .ok (.aload_n 0, 1) := by decide +kernel
theorem dX10_keep_27 : decode cX10_keep 27 = .ok (.bipush 8, 2) := by decide +kernel
theorem dX10_keep_29 : decode cX10_keep 29 = .ok (.aload_n 0, 1) := by decide +kernel
theorem dX10_keep_30 : decode cX10_keep 30 = .ok (.getfield 21, 3) := by decide +kernel
theorem dX10_keep_33 : decode cX10_keep 33 = .ok (.iconst 1, 1) := by decide +kernel
theorem dX10_keep_34 : decode cX10_keep 34 = .ok (.iadd, 1) := by decide +kernel
theorem dX10_keep_35 : decode cX10_keep 35 = .ok (.invokestatic 29, 3) := by decide +kernel
theorem dX10_keep_38 : decode cX10_keep 38 = .ok (.putfield 21, 3) := by decide +kernel
theorem dX10_keep_41 : decode cX10_keep 41 = .ok (.return_, 1) := by decide +kernel
theorem dX10_takeBack_0 : decode cX10_takeBack 0 = .ok (.aload_n 0, 1) := by decide +kernel
theorem dX10_takeBack_1 : decode cX10_takeBack 1 = .ok (.getfield 21, 3) := by decide +kernel
theorem dX10_takeBack_4 : decode cX10_takeBack 4 = .ok (.ifCond .ne 5, 3) := by decide +kernel
theorem dX10_takeBack_7 : decode cX10_takeBack 7 = .ok (.iconst (-1), 1) := by decide +kernel
theorem dX10_takeBack_8 : decode cX10_takeBack 8 = .ok (.ireturn, 1) := by decide +kernel
theorem dX10_takeBack_9 : decode cX10_takeBack 9 = .ok (.aload_n 0, 1) := by decide +kernel
theorem dX10_takeBack_10 : decode cX10_takeBack 10 = .ok (.aload_n 0, 1) := by decide +kernel
theorem dX10_takeBack_11 : decode cX10_takeBack 11 = .ok (.getfield 17, 3) := by decide +kernel
theorem dX10_takeBack_14 : decode cX10_takeBack 14 = .ok (.bipush 8, 2) := by decide +kernel
theorem dX10_takeBack_16 : decode cX10_takeBack 16 = .ok (.iadd, 1) := by decide +kernel
theorem dX10_takeBack_17 : decode cX10_takeBack 17 = .ok (.iconst 1, 1) := by decide +kernel
theorem dX10_takeBack_18 : decode cX10_takeBack 18 = .ok (.isub, 1) := by decide +kernel
theorem dX10_takeBack_19 : decode cX10_takeBack 19 = .ok (.bipush 8, 2) := by decide +kernel
theorem dX10_takeBack_21 : decode cX10_takeBack 21 = .ok (.irem, 1) := by decide +kernel
theorem dX10_takeBack_22 : decode cX10_takeBack 22 = .ok (.putfield 17, 3) := by decide +kernel
theorem dX10_takeBack_25 : decode cX10_takeBack 25 = .ok (.aload_n 0, 1) := by decide +kernel
theorem dX10_takeBack_26 : decode cX10_takeBack 26 = .ok (.dup, 1) := by decide +kernel
theorem dX10_takeBack_27 : decode cX10_takeBack 27 = .ok (.getfield 21, 3) := by decide +kernel
theorem dX10_takeBack_30 : decode cX10_takeBack 30 = .ok (.iconst 1, 1) := by decide +kernel
theorem dX10_takeBack_31 : decode cX10_takeBack 31 = .ok (.isub, 1) := by decide +kernel
theorem dX10_takeBack_32 : decode cX10_takeBack 32 = .ok (.putfield 21, 3) := by decide +kernel
theorem dX10_takeBack_35 : decode cX10_takeBack 35 = .ok (.aload_n 1, 1) := by decide +kernel
theorem dX10_takeBack_36 : decode cX10_takeBack 36 = .ok (.aload_n 0, 1) := by decide +kernel
theorem dX10_takeBack_37 : decode cX10_takeBack 37 = .ok (.getfield 13, 3) := by decide +kernel
theorem dX10_takeBack_40 : decode cX10_takeBack 40 = .ok (.aload_n 0, 1) := by decide +kernel
theorem dX10_takeBack_41 : decode cX10_takeBack 41 = .ok (.getfield 17, 3) := by decide +kernel
theorem dX10_takeBack_44 : decode cX10_takeBack 44 = .ok (.aaload, 1) := by decide +kernel
theorem dX10_takeBack_45 : decode cX10_takeBack 45 = .ok (.invokevirtual 25, 3) := by decide +kernel
theorem dX10_takeBack_48 : decode cX10_takeBack 48 = .ok (.aload_n 0, 1) := by decide +kernel
theorem dX10_takeBack_49 : decode cX10_takeBack 49 = .ok (.getfield 21, 3) := by decide +kernel
theorem dX10_takeBack_52 : decode cX10_takeBack 52 = .ok (.ireturn, 1) := by decide +kernel
theorem dX11_init_0 : decode cX11_init 0 = .ok (.aload_n 0, 1) := by decide +kernel
theorem dX11_init_1 : decode cX11_init 1 = .ok (.invokespecial 1, 3) := by decide +kernel
theorem dX11_init_4 : decode cX11_init 4 = .ok (.aload_n 0, 1) := by decide +kernel
theorem dX11_init_5 : decode cX11_init 5 = .ok (.new 7, 3) := by decide +kernel
theorem dX11_init_8 : decode cX11_init 8 = .ok (.dup, 1) := by decide +kernel
theorem dX11_init_9 : decode cX11_init 9 = .ok (.sipush 940, 3) := by decide +kernel
theorem dX11_init_12 : decode cX11_init 12 = .ok (.invokespecial 11, 3) := by decide +kernel
theorem dX11_init_15 : decode cX11_init 15 = .ok (.putfield 14, 3) := by decide +kernel
theorem dX11_init_18 : decode cX11_init 18 = .ok (.aload_n 0, 1) := by decide +kernel
theorem dX11_init_19 : decode cX11_init 19 = .ok (.new 18, 3) := by decide +kernel
theorem dX11_init_22 : decode cX11_init 22 = .ok (.dup, 1) := by decide +kernel
theorem dX11_init_23 : decode cX11_init 23 = .ok (.aload_n 0, 1) := by decide +kernel
theorem dX11_init_24 : decode cX11_init 24 = .ok (.getfield 14, 3) := by decide +kernel
theorem dX11_init_27 : decode cX11_init 27 = .ok (.invokespecial 20, 3) := by decide +kernel
theorem dX11_init_30 : decode cX11_init 30 = .ok (.putfield 23, 3) := by decide +kernel
theorem dX11_init_33 : decode cX11_init 33 = .ok (.aload_n 0, 1) := by decide +kernel
theorem dX11_init_34 : decode cX11_init 34 = .ok (.new 27, 3) := by decide +kernel
theorem dX11_init_37 : decode cX11_init 37 = .ok (.dup, 1) := by decide +kernel
theorem dX11_init_38 : decode cX11_init 38 = .ok (.invokespecial 29, 3) := by decide +kernel
theorem dX11_init_41 : decode cX11_init 41 = .ok (.putfield 30, 3) := by decide +kernel
theorem dX11_init_44 : decode cX11_init 44 = .ok (.aload_n 0, 1) := by decide +kernel
theorem dX11_init_45 : decode cX11_init 45 = .ok (.iconst 2, 1) := by decide +kernel
theorem dX11_init_46 : decode cX11_init 46 = .ok (.anewarray 27, 3) := by decide +kernel
theorem dX11_init_49 : decode cX11_init 49 = .ok (.putfield 34, 3) := by decide +kernel
theorem dX11_init_52 : decode cX11_init 52 = .ok (.aload_n 0, 1) := by decide +kernel
theorem dX11_init_53 : decode cX11_init 53 = .ok (.new 38, 3) := by decide +kernel
theorem dX11_init_56 : decode cX11_init 56 = .ok (.dup, 1) := by decide +kernel
theorem dX11_init_57 : decode cX11_init 57 = .ok (.invokespecial 40, 3) := by decide +kernel
theorem dX11_init_60 : decode cX11_init 60 = .ok (.putfield 41, 3) := by decide +kernel
theorem dX11_init_63 : decode cX11_init 63 = .ok (.aload_n 0, 1) := by decide +kernel
theorem dX11_init_64 : decode cX11_init 64 = .ok (.new 45, 3) := by decide +kernel
theorem dX11_init_67 : decode cX11_init 67 = .ok (.dup, 1) := by decide +kernel
theorem dX11_init_68 : decode cX11_init 68 = .ok (.invokespecial 47, 3) := by decide +kernel
theorem dX11_init_71 : decode cX11_init 71 = .ok (.putfield 48, 3) := by decide +kernel
theorem dX11_init_74 : decode cX11_init 74 = .ok (.aload_n 0, 1) := by decide +kernel
theorem dX11_init_75 : decode cX11_init 75 = .ok (.new 52, 3) := by decide +kernel
theorem dX11_init_78 : decode cX11_init 78 = .ok (.dup, 1) := by decide +kernel
theorem dX11_init_79 : decode cX11_init 79 = .ok (.invokespecial 54, 3) := by decide +kernel
theorem dX11_init_82 : decode cX11_init 82 = .ok (.putfield 55, 3) := by decide +kernel
theorem dX11_init_85 : decode cX11_init 85 = .ok (.aload_n 0, 1) := by decide +kernel
theorem dX11_init_86 : decode cX11_init 86 = .ok (.new 59, 3) := by decide +kernel
theorem dX11_init_89 : decode cX11_init 89 = .ok (.dup, 1) := by decide +kernel
theorem dX11_init_90 : decode cX11_init 90 = .ok (.invokespecial 61, 3) := by decide +kernel
theorem dX11_init_93 : decode cX11_init 93 = .ok (.putfield 62, 3) := by decide +kernel
theorem dX11_init_96 : decode cX11_init 96 = .ok (.aload_n 0, 1) := by decide +kernel
theorem dX11_init_97 : decode cX11_init 97 = .ok (.new 66, 3) := by decide +kernel
theorem dX11_init_100 : decode cX11_init 100 = .ok (.dup, 1) := by decide +kernel
theorem dX11_init_101 : decode cX11_init 101 = .ok (.invokespecial 68, 3) := by decide +kernel
theorem dX11_init_104 : decode cX11_init 104 = .ok (.putfield 69, 3) := by decide +kernel
theorem dX11_init_107 : decode cX11_init 107 = .ok (.aload_n 0, 1) := by decide +kernel
theorem dX11_init_108 : decode cX11_init 108 = .ok (.new 73, 3) := by decide +kernel
theorem dX11_init_111 : decode cX11_init 111 = .ok (.dup, 1) := by decide +kernel
theorem dX11_init_112 : decode cX11_init 112 = .ok (.invokespecial 75, 3) := by decide +kernel
theorem dX11_init_115 : decode cX11_init 115 = .ok (.putfield 76, 3) := by decide +kernel
theorem dX11_init_118 : decode cX11_init 118 = .ok (.aload_n 0, 1) := by decide +kernel
theorem dX11_init_119 : decode cX11_init 119 = .ok (.new 80, 3) := by decide +kernel
theorem dX11_init_122 : decode cX11_init 122 = .ok (.dup, 1) := by decide +kernel
theorem dX11_init_123 : decode cX11_init 123 = .ok (.invokespecial 82, 3) := by decide +kernel
theorem dX11_init_126 : decode cX11_init 126 = .ok (.putfield 83, 3) := by decide +kernel
theorem dX11_init_129 : decode cX11_init 129 = .ok (.aload_n 0, 1) := by decide +kernel
theorem dX11_init_130 : decode cX11_init 130 = .ok (.new 7, 3) := by decide +kernel
theorem dX11_init_133 : decode cX11_init 133 = .ok (.dup, 1) := by decide +kernel
theorem dX11_init_134 : decode cX11_init 134 = .ok (.bipush 32, 2) := by decide +kernel
theorem dX11_init_136 : decode cX11_init 136 = .ok (.invokespecial 11, 3) := by decide +kernel
theorem dX11_init_139 : decode cX11_init 139 = .ok (.putfield 87, 3) := by decide +kernel
theorem dX11_init_142 : decode cX11_init 142 = .ok (.aload_n 0, 1) := by decide +kernel
theorem dX11_init_143 : decode cX11_init 143 = .ok (.bipush 8, 2) := by decide +kernel
theorem dX11_init_145 : decode cX11_init 145 = .ok (.newarray .int, 2) := by decide +kernel
theorem dX11_init_147 : decode cX11_init 147 = .ok (.putfield 90, 3) := by decide +kernel
theorem dX11_init_150 : decode cX11_init 150 = .ok (.aload_n 0, 1) := by decide +kernel
theorem dX11_init_151 : decode cX11_init 151 = .ok (.bipush 8, 2) := by decide +kernel
theorem dX11_init_153 : decode cX11_init 153 = .ok (.newarray .int, 2) := by decide +kernel
theorem dX11_init_155 : decode cX11_init 155 = .ok (.putfield 94, 3) := by decide +kernel
theorem dX11_init_158 : decode cX11_init 158 = .ok (.aload_n 0, 1) := by decide +kernel
theorem dX11_init_159 : decode cX11_init 159 = .ok (.iconst 0, 1) := by decide +kernel
theorem dX11_init_160 : decode cX11_init 160 = .ok (.putfield 97, 3) := by decide +kernel
theorem dX11_init_163 : decode cX11_init 163 = .ok (.aload_n 0, 1) := by decide +kernel
theorem dX11_init_164 : decode cX11_init 164 = .ok (.iconst (-1), 1) := by decide +kernel
theorem dX11_init_165 : decode cX11_init 165 = .ok (.putfield 101, 3) := by decide +kernel
theorem dX11_init_168 : decode cX11_init 168 = .ok (.aload_n 0, 1) := by decide +kernel
theorem dX11_init_169 : decode cX11_init 169 = .ok (.iconst (-1), 1) := by decide +kernel
theorem dX11_init_170 : decode cX11_init 170 = .ok (.putfield 104, 3) := by decide +kernel
theorem dX11_init_173 : decode cX11_init 173 = .ok (.aload_n 0, 1) := by decide +kernel
theorem dX11_init_174 : decode cX11_init 174 = .ok (.iconst (-1), 1) := by decide +kernel
theorem dX11_init_175 : decode cX11_init 175 = .ok (.putfield 107, 3) := by decide +kernel
theorem dX11_init_178 : decode cX11_init 178 = .ok (.aload_n 0, 1) := by decide +kernel
theorem dX11_init_179 : decode cX11_init 179 = .ok (.iconst 0, 1) := by decide +kernel
theorem dX11_init_180 : decode cX11_init 180 = .ok (.putfield 110, 3) := by decide +kernel
theorem dX11_init_183 : decode cX11_init 183 = .ok (.iconst 0, 1) := by decide +kernel
theorem dX11_init_184 : decode cX11_init 184 = .ok (.istore_n 1, 1) := by decide +kernel
theorem dX11_init_185 : decode cX11_init 185 = .ok (.iload_n 1, 1) := by decide +kernel
theorem dX11_init_186 : decode cX11_init 186 = .ok (.aload_n 0, 1) := by decide +kernel
theorem dX11_init_187 : decode cX11_init 187 = .ok (.getfield 34, 3) := by decide +kernel
theorem dX11_init_190 : decode cX11_init 190 = .ok (.arraylength, 1) := by decide +kernel
theorem dX11_init_191 : decode cX11_init 191 = .ok (.if_icmp .ge 22, 3) := by decide +kernel
theorem dX11_init_194 : decode cX11_init 194 = .ok (.aload_n 0, 1) := by decide +kernel
theorem dX11_init_195 : decode cX11_init 195 = .ok (.getfield 34, 3) := by decide +kernel
theorem dX11_init_198 : decode cX11_init 198 = .ok (.iload_n 1, 1) := by decide +kernel
theorem dX11_init_199 : decode cX11_init 199 = .ok (.new 27, 3) := by decide +kernel
theorem dX11_init_202 : decode cX11_init 202 = .ok (.dup, 1) := by decide +kernel
theorem dX11_init_203 : decode cX11_init 203 = .ok (.invokespecial 29, 3) := by decide +kernel
theorem dX11_init_206 : decode cX11_init 206 = .ok (.aastore, 1) := by decide +kernel
theorem dX11_init_207 : decode cX11_init 207 = .ok (.iinc 1 1, 3) := by decide +kernel
theorem dX11_init_210 : decode cX11_init 210 = .ok (.goto (-25), 3) := by decide +kernel
theorem dX11_init_213 : decode cX11_init 213 = .ok (.return_, 1) := by decide +kernel
theorem dX11_feed_0 : decode cX11_feed 0 = .ok (.aload_n 0, 1) := by decide +kernel
theorem dX11_feed_1 : decode cX11_feed 1 = .ok (.getfield 14, 3) := by decide +kernel
theorem dX11_feed_4 : decode cX11_feed 4 = .ok (.getfield 113, 3) := by decide +kernel
theorem dX11_feed_7 : decode cX11_feed 7 = .ok (.bipush 20, 2) := by decide +kernel
theorem dX11_feed_9 : decode cX11_feed 9 = .ok (.iadd, 1) := by decide +kernel
theorem dX11_feed_10 : decode cX11_feed 10 = .ok (.sipush 940, 3) := by decide +kernel
theorem dX11_feed_13 : decode cX11_feed 13 = .ok (.if_icmp .le 5, 3) := by decide +kernel
theorem dX11_feed_16 : decode cX11_feed 16 = .ok (.iconst (-1), 1) := by decide +kernel
theorem dX11_feed_17 : decode cX11_feed 17 = .ok (.ireturn, 1) := by decide +kernel
theorem dX11_feed_18 : decode cX11_feed 18 = .ok (.aload_n 0, 1) := by decide +kernel
theorem dX11_feed_19 : decode cX11_feed 19 = .ok (.getfield 14, 3) := by decide +kernel
theorem dX11_feed_22 : decode cX11_feed 22 = .ok (.iload_n 1, 1) := by decide +kernel
theorem dX11_feed_23 : decode cX11_feed 23 = .ok (.invokevirtual 116, 3) := by decide +kernel
theorem dX11_feed_26 : decode cX11_feed 26 = .ok (.aload_n 0, 1) := by decide +kernel
theorem dX11_feed_27 : decode cX11_feed 27 = .ok (.getfield 14, 3) := by decide +kernel
theorem dX11_feed_30 : decode cX11_feed 30 = .ok (.iload_n 2, 1) := by decide +kernel
theorem dX11_feed_31 : decode cX11_feed 31 = .ok (.invokevirtual 116, 3) := by decide +kernel
theorem dX11_feed_34 : decode cX11_feed 34 = .ok (.aload_n 0, 1) := by decide +kernel
theorem dX11_feed_35 : decode cX11_feed 35 = .ok (.getfield 14, 3) := by decide +kernel
theorem dX11_feed_38 : decode cX11_feed 38 = .ok (.iload_n 3, 1) := by decide +kernel
theorem dX11_feed_39 : decode cX11_feed 39 = .ok (.invokevirtual 116, 3) := by decide +kernel
theorem dX11_feed_42 : decode cX11_feed 42 = .ok (.aload_n 0, 1) := by decide +kernel
theorem dX11_feed_43 : decode cX11_feed 43 = .ok (.getfield 14, 3) := by decide +kernel
theorem dX11_feed_46 : decode cX11_feed 46 = .ok (.iload 4, 2) := by decide +kernel
theorem dX11_feed_48 : decode cX11_feed 48 = .ok (.invokevirtual 116, 3) := by decide +kernel
theorem dX11_feed_51 : decode cX11_feed 51 = .ok (.aload_n 0, 1) := by decide +kernel
theorem dX11_feed_52 : decode cX11_feed 52 = .ok (.getfield 14, 3) := by decide +kernel
theorem dX11_feed_55 : decode cX11_feed 55 = .ok (.iload 5, 2) := by decide +kernel
theorem dX11_feed_57 : decode cX11_feed 57 = .ok (.invokevirtual 116, 3) := by decide +kernel
theorem dX11_feed_60 : decode cX11_feed 60 = .ok (.aload_n 0, 1) := by decide +kernel
theorem dX11_feed_61 : decode cX11_feed 61 = .ok (.getfield 14, 3) := by decide +kernel
theorem dX11_feed_64 : decode cX11_feed 64 = .ok (.getfield 113, 3) := by decide +kernel
theorem dX11_feed_67 : decode cX11_feed 67 = .ok (.ireturn, 1) := by decide +kernel
theorem dX11_end_0 : decode cX11_end 0 = .ok (.iload_n 1, 1) := by decide +kernel
theorem dX11_end_1 : decode cX11_end 1 = .ok (.ifCond .lt 14, 3) := by decide +kernel
theorem dX11_end_4 : decode cX11_end 4 = .ok (.iload_n 1, 1) := by decide +kernel
theorem dX11_end_5 : decode cX11_end 5 = .ok (.aload_n 0, 1) := by decide +kernel
theorem dX11_end_6 : decode cX11_end 6 = .ok (.getfield 14, 3) := by decide +kernel
theorem dX11_end_9 : decode cX11_end 9 = .ok (.getfield 113, 3) := by decide +kernel
theorem dX11_end_12 : decode cX11_end 12 = .ok (.if_icmp .le 5, 3) := by decide +kernel
theorem dX11_end_15 : decode cX11_end 15 = .ok (.iconst 0, 1) := by decide +kernel
theorem dX11_end_16 : decode cX11_end 16 = .ok (.ireturn, 1) := by decide +kernel
theorem dX11_end_17 : decode cX11_end 17 = .ok (.aload_n 0, 1) := by decide +kernel
theorem dX11_end_18 : decode cX11_end 18 = .ok (.getfield 14, 3) := by decide +kernel
theorem dX11_end_21 : decode cX11_end 21 = .ok (.iload_n 1, 1) := by decide +kernel
theorem dX11_end_22 : decode cX11_end 22 = .ok (.putfield 113, 3) := by decide +kernel
theorem dX11_end_25 : decode cX11_end 25 = .ok (.iconst 1, 1) := by decide +kernel
theorem dX11_end_26 : decode cX11_end 26 = .ok (.ireturn, 1) := by decide +kernel
theorem dX11_house_0 : decode cX11_house 0 = .ok (.aload_n 0, 1) := by decide +kernel
theorem dX11_house_1 : decode cX11_house 1 = .ok (.getfield 23, 3) := by decide +kernel
theorem dX11_house_4 : decode cX11_house 4 = .ok (.sipush 900, 3) := by decide +kernel
theorem dX11_house_7 : decode cX11_house 7 = .ok (.invokevirtual 121, 3) := by decide +kernel
theorem dX11_house_10 : decode cX11_house 10 = .ok (.aload_n 0, 1) := by decide +kernel
theorem dX11_house_11 : decode cX11_house 11 = .ok (.getfield 23, 3) := by decide +kernel
theorem dX11_house_14 : decode cX11_house 14 = .ok (.aload_n 0, 1) := by decide +kernel
theorem dX11_house_15 : decode cX11_house 15 = .ok (.getfield 41, 3) := by decide +kernel
theorem dX11_house_18 : decode cX11_house 18 = .ok (.invokestatic 124, 3) := by decide +kernel
theorem dX11_house_21 : decode cX11_house 21 = .ok (.istore_n 1, 1) := by decide +kernel
theorem dX11_house_22 : decode cX11_house 22 = .ok (.aload_n 0, 1) := by decide +kernel
theorem dX11_house_23 : decode cX11_house 23 = .ok (.invokevirtual 128, 3) := by decide +kernel
theorem dX11_house_26 : decode cX11_house 26 = .ok (.aload_n 0, 1) := by decide +kernel
theorem dX11_house_27 : decode cX11_house 27 = .ok (.getfield 110, 3) := by decide +kernel
theorem dX11_house_30 : decode cX11_house 30 = .ok (.ifCond .eq 13, 3) := by decide +kernel
theorem dX11_house_33 : decode cX11_house 33 = .ok (.iconst (-1), 1) := by decide +kernel
theorem dX11_house_34 : decode cX11_house 34 = .ok (.aload_n 0, 1) := by decide +kernel
theorem dX11_house_35 : decode cX11_house 35 = .ok (.getfield 23, 3) := by decide +kernel
theorem dX11_house_38 : decode cX11_house 38 = .ok (.getfield 131, 3) := by decide +kernel
theorem dX11_house_41 : decode cX11_house 41 = .ok (.isub, 1) := by decide +kernel
theorem dX11_house_42 : decode cX11_house 42 = .ok (.ireturn, 1) := by decide +kernel
theorem dX11_house_43 : decode cX11_house 43 = .ok (.aload_n 0, 1) := by decide +kernel
theorem dX11_house_44 : decode cX11_house 44 = .ok (.getfield 30, 3) := by decide +kernel
theorem dX11_house_47 : decode cX11_house 47 = .ok (.aload_n 0, 1) := by decide +kernel
theorem dX11_house_48 : decode cX11_house 48 = .ok (.getfield 41, 3) := by decide +kernel
theorem dX11_house_51 : decode cX11_house 51 = .ok (.invokevirtual 134, 3) := by decide +kernel
theorem dX11_house_54 : decode cX11_house 54 = .ok (.aload_n 0, 1) := by decide +kernel
theorem dX11_house_55 : decode cX11_house 55 = .ok (.getfield 69, 3) := by decide +kernel
theorem dX11_house_58 : decode cX11_house 58 = .ok (.invokevirtual 138, 3) := by decide +kernel
theorem dX11_house_61 : decode cX11_house 61 = .ok (.iload_n 1, 1) := by decide +kernel
theorem dX11_house_62 : decode cX11_house 62 = .ok (.ireturn, 1) := by decide +kernel
theorem dX11_fault_0 : decode cX11_fault 0 = .ok (.aload_n 0, 1) := by decide +kernel
theorem dX11_fault_1 : decode cX11_fault 1 = .ok (.getfield 110, 3) := by decide +kernel
theorem dX11_fault_4 : decode cX11_fault 4 = .ok (.ireturn, 1) := by decide +kernel
theorem dX11_endText_0 : decode cX11_endText 0 = .ok (.aload_n 0, 1) := by decide +kernel
theorem dX11_endText_1 : decode cX11_endText 1 = .ok (.getfield 14, 3) := by decide +kernel
theorem dX11_endText_4 : decode cX11_endText 4 = .ok (.iconst 0, 1) := by decide +kernel
theorem dX11_endText_5 : decode cX11_endText 5 = .ok (.putfield 113, 3) := by decide +kernel
theorem dX11_endText_8 : decode cX11_endText 8 = .ok (.aload_n 0, 1) := by decide +kernel
theorem dX11_endText_9 : decode cX11_endText 9 = .ok (.aload_n 0, 1) := by decide +kernel
theorem dX11_endText_10 : decode cX11_endText 10 = .ok (.getfield 23, 3) := by decide +kernel
theorem dX11_endText_13 : decode cX11_endText 13 = .ok (.getfield 141, 3) := by decide +kernel
theorem dX11_endText_16 : decode cX11_endText 16 = .ok (.putfield 110, 3) := by decide +kernel
theorem dX11_endText_19 : decode cX11_endText 19 = .ok (.return_, 1) := by decide +kernel
theorem dX11_bed_0 : decode cX11_bed 0 = .ok (.aload_n 0, 1) := by decide +kernel
theorem dX11_bed_1 : decode cX11_bed 1 = .ok (.getfield 30, 3) := by decide +kernel
theorem dX11_bed_4 : decode cX11_bed 4 = .ok (.getfield 144, 3) := by decide +kernel
theorem dX11_bed_7 : decode cX11_bed 7 = .ok (.astore_n 3, 1) := by decide +kernel
theorem dX11_bed_8 : decode cX11_bed 8 = .ok (.aload_n 0, 1) := by decide +kernel
theorem dX11_bed_9 : decode cX11_bed 9 = .ok (.getfield 30, 3) := by decide +kernel
theorem dX11_bed_12 : decode cX11_bed 12 = .ok (.getfield 147, 3) := by decide +kernel
theorem dX11_bed_15 : decode cX11_bed 15 = .ok (.astore 4, 2) := by decide +kernel
theorem dX11_bed_17 : decode cX11_bed 17 = .ok (.aload_n 3, 1) := by decide +kernel
theorem dX11_bed_18 : decode cX11_bed 18 = .ok (.iload_n 1, 1) := by decide +kernel
theorem dX11_bed_19 : decode cX11_bed 19 = .ok (.invokevirtual 150, 3) := by decide +kernel
theorem dX11_bed_22 : decode cX11_bed 22 = .ok (.ifCond .eq 12, 3) := by decide +kernel
theorem dX11_bed_25 : decode cX11_bed 25 = .ok (.iload_n 2, 1) := by decide +kernel
theorem dX11_bed_26 : decode cX11_bed 26 = .ok (.ifCond .lt 8, 3) := by decide +kernel
theorem dX11_bed_29 : decode cX11_bed 29 = .ok (.iload_n 2, 1) := by decide +kernel
theorem dX11_bed_30 : decode cX11_bed 30 = .ok (.iconst 5, 1) := by decide +kernel
theorem dX11_bed_31 : decode cX11_bed 31 = .ok (.if_icmp .le 13, 3) := by decide +kernel
theorem dX11_bed_34 : decode cX11_bed 34 = .ok (.new 154, 3) := by decide +kernel
theorem dX11_bed_37 : decode cX11_bed 37 = .ok (.dup, 1) := by decide +kernel
theorem dX11_bed_38 : decode cX11_bed 38 = .ok (.ldc 156, 2) := by decide +kernel
theorem dX11_bed_40 : decode cX11_bed 40 = .ok (.invokespecial 158, 3) := by decide +kernel
theorem dX11_bed_43 : decode cX11_bed 43 = .ok (.athrow, 1) := by decide +kernel
theorem dX11_bed_44 : decode cX11_bed 44 = .ok (.iload_n 2, 1) := by decide +kernel
theorem dX11_bed_45 : decode cX11_bed 45 = .ok (.tableswitch 78 0 4 #[35, 44, 53, 61, 70], 35) := by decide +kernel
theorem dX11_bed_80 : decode cX11_bed 80 = .ok (.aload_n 3, 1) := by decide +kernel
theorem dX11_bed_81 : decode cX11_bed 81 = .ok (.getfield 161, 3) := by decide +kernel
theorem dX11_bed_84 : decode cX11_bed 84 = .ok (.iload_n 1, 1) := by decide +kernel
theorem dX11_bed_85 : decode cX11_bed 85 = .ok (.aaload, 1) := by decide +kernel
theorem dX11_bed_86 : decode cX11_bed 86 = .ok (.iconst 0, 1) := by decide +kernel
theorem dX11_bed_87 : decode cX11_bed 87 = .ok (.iaload, 1) := by decide +kernel
theorem dX11_bed_88 : decode cX11_bed 88 = .ok (.ireturn, 1) := by decide +kernel
theorem dX11_bed_89 : decode cX11_bed 89 = .ok (.aload_n 3, 1) := by decide +kernel
theorem dX11_bed_90 : decode cX11_bed 90 = .ok (.getfield 161, 3) := by decide +kernel
theorem dX11_bed_93 : decode cX11_bed 93 = .ok (.iload_n 1, 1) := by decide +kernel
theorem dX11_bed_94 : decode cX11_bed 94 = .ok (.aaload, 1) := by decide +kernel
theorem dX11_bed_95 : decode cX11_bed 95 = .ok (.iconst 1, 1) := by decide +kernel
theorem dX11_bed_96 : decode cX11_bed 96 = .ok (.iaload, 1) := by decide +kernel
theorem dX11_bed_97 : decode cX11_bed 97 = .ok (.ireturn, 1) := by decide +kernel
theorem dX11_bed_98 : decode cX11_bed 98 = .ok (.aload 4, 2) := by decide +kernel
theorem dX11_bed_100 : decode cX11_bed 100 = .ok (.aload_n 3, 1) := by decide +kernel
theorem dX11_bed_101 : decode cX11_bed 101 = .ok (.iload_n 1, 1) := by decide +kernel
theorem dX11_bed_102 : decode cX11_bed 102 = .ok (.invokevirtual 165, 3) := by decide +kernel
theorem dX11_bed_105 : decode cX11_bed 105 = .ok (.ireturn, 1) := by decide +kernel
theorem dX11_bed_106 : decode cX11_bed 106 = .ok (.aload_n 3, 1) := by decide +kernel
theorem dX11_bed_107 : decode cX11_bed 107 = .ok (.getfield 161, 3) := by decide +kernel
theorem dX11_bed_110 : decode cX11_bed 110 = .ok (.iload_n 1, 1) := by decide +kernel
theorem dX11_bed_111 : decode cX11_bed 111 = .ok (.aaload, 1) := by decide +kernel
theorem dX11_bed_112 : decode cX11_bed 112 = .ok (.iconst 2, 1) := by decide +kernel
theorem dX11_bed_113 : decode cX11_bed 113 = .ok (.iaload, 1) := by decide +kernel
theorem dX11_bed_114 : decode cX11_bed 114 = .ok (.ireturn, 1) := by decide +kernel
theorem dX11_bed_115 : decode cX11_bed 115 = .ok (.aload 4, 2) := by decide +kernel
theorem dX11_bed_117 : decode cX11_bed 117 = .ok (.getfield 169, 3) := by decide +kernel
theorem dX11_bed_120 : decode cX11_bed 120 = .ok (.iload_n 1, 1) := by decide +kernel
theorem dX11_bed_121 : decode cX11_bed 121 = .ok (.iaload, 1) := by decide +kernel
theorem dX11_bed_122 : decode cX11_bed 122 = .ok (.ireturn, 1) := by decide +kernel
theorem dX11_bed_123 : decode cX11_bed 123 = .ok (.aload 4, 2) := by decide +kernel
theorem dX11_bed_125 : decode cX11_bed 125 = .ok (.getfield 172, 3) := by decide +kernel
theorem dX11_bed_128 : decode cX11_bed 128 = .ok (.iload_n 1, 1) := by decide +kernel
theorem dX11_bed_129 : decode cX11_bed 129 = .ok (.iaload, 1) := by decide +kernel
theorem dX11_bed_130 : decode cX11_bed 130 = .ok (.ireturn, 1) := by decide +kernel
theorem dX11_owl_0 : decode cX11_owl 0 = .ok (.aload_n 0, 1) := by decide +kernel
theorem dX11_owl_1 : decode cX11_owl 1 = .ok (.getfield 30, 3) := by decide +kernel
theorem dX11_owl_4 : decode cX11_owl 4 = .ok (.getfield 144, 3) := by decide +kernel
theorem dX11_owl_7 : decode cX11_owl 7 = .ok (.astore_n 3, 1) := by decide +kernel
theorem dX11_owl_8 : decode cX11_owl 8 = .ok (.aload_n 0, 1) := by decide +kernel
theorem dX11_owl_9 : decode cX11_owl 9 = .ok (.getfield 30, 3) := by decide +kernel
theorem dX11_owl_12 : decode cX11_owl 12 = .ok (.getfield 147, 3) := by decide +kernel
theorem dX11_owl_15 : decode cX11_owl 15 = .ok (.astore 4, 2) := by decide +kernel
theorem dX11_owl_17 : decode cX11_owl 17 = .ok (.aload_n 3, 1) := by decide +kernel
theorem dX11_owl_18 : decode cX11_owl 18 = .ok (.iload_n 1, 1) := by decide +kernel
theorem dX11_owl_19 : decode cX11_owl 19 = .ok (.invokevirtual 175, 3) := by decide +kernel
theorem dX11_owl_22 : decode cX11_owl 22 = .ok (.ifCond .eq 12, 3) := by decide +kernel
theorem dX11_owl_25 : decode cX11_owl 25 = .ok (.iload_n 2, 1) := by decide +kernel
theorem dX11_owl_26 : decode cX11_owl 26 = .ok (.ifCond .lt 8, 3) := by decide +kernel
theorem dX11_owl_29 : decode cX11_owl 29 = .ok (.iload_n 2, 1) := by decide +kernel
theorem dX11_owl_30 : decode cX11_owl 30 = .ok (.iconst 5, 1) := by decide +kernel
theorem dX11_owl_31 : decode cX11_owl 31 = .ok (.if_icmp .le 13, 3) := by decide +kernel
theorem dX11_owl_34 : decode cX11_owl 34 = .ok (.new 154, 3) := by decide +kernel
theorem dX11_owl_37 : decode cX11_owl 37 = .ok (.dup, 1) := by decide +kernel
theorem dX11_owl_38 : decode cX11_owl 38 = .ok (.ldc 178, 2) := by decide +kernel
theorem dX11_owl_40 : decode cX11_owl 40 = .ok (.invokespecial 158, 3) := by decide +kernel
theorem dX11_owl_43 : decode cX11_owl 43 = .ok (.athrow, 1) := by decide +kernel
theorem dX11_owl_44 : decode cX11_owl 44 = .ok (.iload_n 2, 1) := by decide +kernel
theorem dX11_owl_45 : decode cX11_owl 45 = .ok (.ifCond .ne 11, 3) := by decide +kernel
theorem dX11_owl_48 : decode cX11_owl 48 = .ok (.aload 4, 2) := by decide +kernel
theorem dX11_owl_50 : decode cX11_owl 50 = .ok (.getfield 180, 3) := by decide +kernel
theorem dX11_owl_53 : decode cX11_owl 53 = .ok (.iload_n 1, 1) := by decide +kernel
theorem dX11_owl_54 : decode cX11_owl 54 = .ok (.iaload, 1) := by decide +kernel
theorem dX11_owl_55 : decode cX11_owl 55 = .ok (.ireturn, 1) := by decide +kernel
theorem dX11_owl_56 : decode cX11_owl 56 = .ok (.iload_n 2, 1) := by decide +kernel
theorem dX11_owl_57 : decode cX11_owl 57 = .ok (.iconst 3, 1) := by decide +kernel
theorem dX11_owl_58 : decode cX11_owl 58 = .ok (.if_icmp .gt 12, 3) := by decide +kernel
theorem dX11_owl_61 : decode cX11_owl 61 = .ok (.aload_n 3, 1) := by decide +kernel
theorem dX11_owl_62 : decode cX11_owl 62 = .ok (.getfield 183, 3) := by decide +kernel
theorem dX11_owl_65 : decode cX11_owl 65 = .ok (.iload_n 1, 1) := by decide +kernel
theorem dX11_owl_66 : decode cX11_owl 66 = .ok (.aaload, 1) := by decide +kernel
theorem dX11_owl_67 : decode cX11_owl 67 = .ok (.iload_n 2, 1) := by decide +kernel
theorem dX11_owl_68 : decode cX11_owl 68 = .ok (.iaload, 1) := by decide +kernel
theorem dX11_owl_69 : decode cX11_owl 69 = .ok (.ireturn, 1) := by decide +kernel
theorem dX11_owl_70 : decode cX11_owl 70 = .ok (.aload 4, 2) := by decide +kernel
theorem dX11_owl_72 : decode cX11_owl 72 = .ok (.aload_n 3, 1) := by decide +kernel
theorem dX11_owl_73 : decode cX11_owl 73 = .ok (.iload_n 1, 1) := by decide +kernel
theorem dX11_owl_74 : decode cX11_owl 74 = .ok (.aload 4, 2) := by decide +kernel
theorem dX11_owl_76 : decode cX11_owl 76 = .ok (.getfield 180, 3) := by decide +kernel
theorem dX11_owl_79 : decode cX11_owl 79 = .ok (.iload_n 1, 1) := by decide +kernel
theorem dX11_owl_80 : decode cX11_owl 80 = .ok (.iaload, 1) := by decide +kernel
theorem dX11_owl_81 : decode cX11_owl 81 = .ok (.iconst 0, 1) := by decide +kernel
theorem dX11_owl_82 : decode cX11_owl 82 = .ok (.invokevirtual 186, 3) := by decide +kernel
theorem dX11_owl_85 : decode cX11_owl 85 = .ok (.istore 5, 2) := by decide +kernel
theorem dX11_owl_87 : decode cX11_owl 87 = .ok (.iload_n 2, 1) := by decide +kernel
theorem dX11_owl_88 : decode cX11_owl 88 = .ok (.iconst 5, 1) := by decide +kernel
theorem dX11_owl_89 : decode cX11_owl 89 = .ok (.if_icmp .ne 8, 3) := by decide +kernel
theorem dX11_owl_92 : decode cX11_owl 92 = .ok (.iload 5, 2) := by decide +kernel
theorem dX11_owl_94 : decode cX11_owl 94 = .ok (.goto 18, 3) := by decide +kernel
theorem dX11_owl_97 : decode cX11_owl 97 = .ok (.aload 4, 2) := by decide +kernel
theorem dX11_owl_99 : decode cX11_owl 99 = .ok (.aload_n 3, 1) := by decide +kernel
theorem dX11_owl_100 : decode cX11_owl 100 = .ok (.aload 4, 2) := by decide +kernel
theorem dX11_owl_102 : decode cX11_owl 102 = .ok (.getfield 180, 3) := by decide +kernel
theorem dX11_owl_105 : decode cX11_owl 105 = .ok (.iload_n 1, 1) := by decide +kernel
theorem dX11_owl_106 : decode cX11_owl 106 = .ok (.iaload, 1) := by decide +kernel
theorem dX11_owl_107 : decode cX11_owl 107 = .ok (.iload 5, 2) := by decide +kernel
theorem dX11_owl_109 : decode cX11_owl 109 = .ok (.invokevirtual 190, 3) := by decide +kernel
theorem dX11_owl_112 : decode cX11_owl 112 = .ok (.ireturn, 1) := by decide +kernel
theorem dX11_sound_0 : decode cX11_sound 0 = .ok (.aload_n 0, 1) := by decide +kernel
theorem dX11_sound_1 : decode cX11_sound 1 = .ok (.getfield 30, 3) := by decide +kernel
theorem dX11_sound_4 : decode cX11_sound 4 = .ok (.getfield 144, 3) := by decide +kernel
theorem dX11_sound_7 : decode cX11_sound 7 = .ok (.astore_n 3, 1) := by decide +kernel
theorem dX11_sound_8 : decode cX11_sound 8 = .ok (.aload_n 3, 1) := by decide +kernel
theorem dX11_sound_9 : decode cX11_sound 9 = .ok (.iload_n 1, 1) := by decide +kernel
theorem dX11_sound_10 : decode cX11_sound 10 = .ok (.invokevirtual 194, 3) := by decide +kernel
theorem dX11_sound_13 : decode cX11_sound 13 = .ok (.ifCond .eq 12, 3) := by decide +kernel
theorem dX11_sound_16 : decode cX11_sound 16 = .ok (.iload_n 2, 1) := by decide +kernel
theorem dX11_sound_17 : decode cX11_sound 17 = .ok (.ifCond .lt 8, 3) := by decide +kernel
theorem dX11_sound_20 : decode cX11_sound 20 = .ok (.iload_n 2, 1) := by decide +kernel
theorem dX11_sound_21 : decode cX11_sound 21 = .ok (.iconst 5, 1) := by decide +kernel
theorem dX11_sound_22 : decode cX11_sound 22 = .ok (.if_icmp .le 5, 3) := by decide +kernel
theorem dX11_sound_25 : decode cX11_sound 25 = .ok (.iconst (-1), 1) := by decide +kernel
theorem dX11_sound_26 : decode cX11_sound 26 = .ok (.ireturn, 1) := by decide +kernel
theorem dX11_sound_27 : decode cX11_sound 27 = .ok (.iload_n 2, 1) := by decide +kernel
theorem dX11_sound_28 : decode cX11_sound 28 = .ok (.iconst 3, 1) := by decide +kernel
theorem dX11_sound_29 : decode cX11_sound 29 = .ok (.if_icmp .gt 12, 3) := by decide +kernel
theorem dX11_sound_32 : decode cX11_sound 32 = .ok (.aload_n 3, 1) := by decide +kernel
theorem dX11_sound_33 : decode cX11_sound 33 = .ok (.getfield 197, 3) := by decide +kernel
theorem dX11_sound_36 : decode cX11_sound 36 = .ok (.iload_n 1, 1) := by decide +kernel
theorem dX11_sound_37 : decode cX11_sound 37 = .ok (.aaload, 1) := by decide +kernel
theorem dX11_sound_38 : decode cX11_sound 38 = .ok (.iload_n 2, 1) := by decide +kernel
theorem dX11_sound_39 : decode cX11_sound 39 = .ok (.iaload, 1) := by decide +kernel
theorem dX11_sound_40 : decode cX11_sound 40 = .ok (.ireturn, 1) := by decide +kernel
theorem dX11_sound_41 : decode cX11_sound 41 = .ok (.iload_n 2, 1) := by decide +kernel
theorem dX11_sound_42 : decode cX11_sound 42 = .ok (.iconst 4, 1) := by decide +kernel
theorem dX11_sound_43 : decode cX11_sound 43 = .ok (.if_icmp .ne 18, 3) := by decide +kernel
theorem dX11_sound_46 : decode cX11_sound 46 = .ok (.aload_n 0, 1) := by decide +kernel
theorem dX11_sound_47 : decode cX11_sound 47 = .ok (.getfield 30, 3) := by decide +kernel
theorem dX11_sound_50 : decode cX11_sound 50 = .ok (.getfield 147, 3) := by decide +kernel
theorem dX11_sound_53 : decode cX11_sound 53 = .ok (.aload_n 3, 1) := by decide +kernel
theorem dX11_sound_54 : decode cX11_sound 54 = .ok (.iconst 0, 1) := by decide +kernel
theorem dX11_sound_55 : decode cX11_sound 55 = .ok (.invokevirtual 200, 3) := by decide +kernel
theorem dX11_sound_58 : decode cX11_sound 58 = .ok (.goto 13, 3) := by decide +kernel
theorem dX11_sound_61 : decode cX11_sound 61 = .ok (.aload_n 0, 1) := by decide +kernel
theorem dX11_sound_62 : decode cX11_sound 62 = .ok (.getfield 30, 3) := by decide +kernel
theorem dX11_sound_65 : decode cX11_sound 65 = .ok (.getfield 147, 3) := by decide +kernel
theorem dX11_sound_68 : decode cX11_sound 68 = .ok (.getfield 203, 3) := by decide +kernel
theorem dX11_sound_71 : decode cX11_sound 71 = .ok (.istore 4, 2) := by decide +kernel
theorem dX11_sound_73 : decode cX11_sound 73 = .ok (.iload 4, 2) := by decide +kernel
theorem dX11_sound_75 : decode cX11_sound 75 = .ok (.iload_n 1, 1) := by decide +kernel
theorem dX11_sound_76 : decode cX11_sound 76 = .ok (.ishr, 1) := by decide +kernel
theorem dX11_sound_77 : decode cX11_sound 77 = .ok (.iconst 1, 1) := by decide +kernel
theorem dX11_sound_78 : decode cX11_sound 78 = .ok (.iand, 1) := by decide +kernel
theorem dX11_sound_79 : decode cX11_sound 79 = .ok (.ireturn, 1) := by decide +kernel
theorem dX11_now_0 : decode cX11_now 0 = .ok (.aload_n 0, 1) := by decide +kernel
theorem dX11_now_1 : decode cX11_now 1 = .ok (.getfield 30, 3) := by decide +kernel
theorem dX11_now_4 : decode cX11_now 4 = .ok (.getfield 144, 3) := by decide +kernel
theorem dX11_now_7 : decode cX11_now 7 = .ok (.astore_n 2, 1) := by decide +kernel
theorem dX11_now_8 : decode cX11_now 8 = .ok (.aload_n 0, 1) := by decide +kernel
theorem dX11_now_9 : decode cX11_now 9 = .ok (.getfield 30, 3) := by decide +kernel
theorem dX11_now_12 : decode cX11_now 12 = .ok (.getfield 147, 3) := by decide +kernel
theorem dX11_now_15 : decode cX11_now 15 = .ok (.astore_n 3, 1) := by decide +kernel
theorem dX11_now_16 : decode cX11_now 16 = .ok (.iload_n 1, 1) := by decide +kernel
theorem dX11_now_17 : decode cX11_now 17 = .ok (.tableswitch 116 0 7 #[47, 52, 59, 64, 70, 87, 99, 111], 47) := by decide +kernel
theorem dX11_now_64 : decode cX11_now 64 = .ok (.aload_n 3, 1) := by decide +kernel
theorem dX11_now_65 : decode cX11_now 65 = .ok (.getfield 206, 3) := by decide +kernel
theorem dX11_now_68 : decode cX11_now 68 = .ok (.ireturn, 1) := by decide +kernel
theorem dX11_now_69 : decode cX11_now 69 = .ok (.aload_n 3, 1) := by decide +kernel
theorem dX11_now_70 : decode cX11_now 70 = .ok (.aload_n 2, 1) := by decide +kernel
theorem dX11_now_71 : decode cX11_now 71 = .ok (.iconst 0, 1) := by decide +kernel
theorem dX11_now_72 : decode cX11_now 72 = .ok (.invokevirtual 200, 3) := by decide +kernel
theorem dX11_now_75 : decode cX11_now 75 = .ok (.ireturn, 1) := by decide +kernel
theorem dX11_now_76 : decode cX11_now 76 = .ok (.aload_n 3, 1) := by decide +kernel
theorem dX11_now_77 : decode cX11_now 77 = .ok (.getfield 203, 3) := by decide +kernel
theorem dX11_now_80 : decode cX11_now 80 = .ok (.ireturn, 1) := by decide +kernel
theorem dX11_now_81 : decode cX11_now 81 = .ok (.aload_n 3, 1) := by decide +kernel
theorem dX11_now_82 : decode cX11_now 82 = .ok (.aload_n 2, 1) := by decide +kernel
theorem dX11_now_83 : decode cX11_now 83 = .ok (.invokevirtual 209, 3) := by decide +kernel
theorem dX11_now_86 : decode cX11_now 86 = .ok (.ireturn, 1) := by decide +kernel
theorem dX11_now_87 : decode cX11_now 87 = .ok (.aload_n 2, 1) := by decide +kernel
theorem dX11_now_88 : decode cX11_now 88 = .ok (.aload_n 3, 1) := by decide +kernel
theorem dX11_now_89 : decode cX11_now 89 = .ok (.getfield 206, 3) := by decide +kernel
theorem dX11_now_92 : decode cX11_now 92 = .ok (.invokevirtual 213, 3) := by decide +kernel
theorem dX11_now_95 : decode cX11_now 95 = .ok (.ifCond .eq 7, 3) := by decide +kernel
theorem dX11_now_98 : decode cX11_now 98 = .ok (.iconst 1, 1) := by decide +kernel
theorem dX11_now_99 : decode cX11_now 99 = .ok (.goto 4, 3) := by decide +kernel
theorem dX11_now_102 : decode cX11_now 102 = .ok (.iconst 0, 1) := by decide +kernel
theorem dX11_now_103 : decode cX11_now 103 = .ok (.ireturn, 1) := by decide +kernel
theorem dX11_now_104 : decode cX11_now 104 = .ok (.aload_n 3, 1) := by decide +kernel
theorem dX11_now_105 : decode cX11_now 105 = .ok (.getfield 169, 3) := by decide +kernel
theorem dX11_now_108 : decode cX11_now 108 = .ok (.aload_n 2, 1) := by decide +kernel
theorem dX11_now_109 : decode cX11_now 109 = .ok (.getfield 216, 3) := by decide +kernel
theorem dX11_now_112 : decode cX11_now 112 = .ok (.invokestatic 219, 3) := by decide +kernel
theorem dX11_now_115 : decode cX11_now 115 = .ok (.ireturn, 1) := by decide +kernel
theorem dX11_now_116 : decode cX11_now 116 = .ok (.aload_n 3, 1) := by decide +kernel
theorem dX11_now_117 : decode cX11_now 117 = .ok (.getfield 172, 3) := by decide +kernel
theorem dX11_now_120 : decode cX11_now 120 = .ok (.aload_n 2, 1) := by decide +kernel
theorem dX11_now_121 : decode cX11_now 121 = .ok (.getfield 216, 3) := by decide +kernel
theorem dX11_now_124 : decode cX11_now 124 = .ok (.invokestatic 219, 3) := by decide +kernel
theorem dX11_now_127 : decode cX11_now 127 = .ok (.ireturn, 1) := by decide +kernel
theorem dX11_now_128 : decode cX11_now 128 = .ok (.aload_n 3, 1) := by decide +kernel
theorem dX11_now_129 : decode cX11_now 129 = .ok (.getfield 223, 3) := by decide +kernel
theorem dX11_now_132 : decode cX11_now 132 = .ok (.ireturn, 1) := by decide +kernel
theorem dX11_now_133 : decode cX11_now 133 = .ok (.iconst (-1), 1) := by decide +kernel
theorem dX11_now_134 : decode cX11_now 134 = .ok (.ireturn, 1) := by decide +kernel
theorem dX11_count_0 : decode cX11_count 0 = .ok (.aload_n 0, 1) := by decide +kernel
theorem dX11_count_1 : decode cX11_count 1 = .ok (.getfield 30, 3) := by decide +kernel
theorem dX11_count_4 : decode cX11_count 4 = .ok (.getfield 144, 3) := by decide +kernel
theorem dX11_count_7 : decode cX11_count 7 = .ok (.astore_n 2, 1) := by decide +kernel
theorem dX11_count_8 : decode cX11_count 8 = .ok (.iload_n 1, 1) := by decide +kernel
theorem dX11_count_9 : decode cX11_count 9 = .ok (.tableswitch 72 0 5 #[39, 44, 49, 54, 59, 64], 39) := by decide +kernel
theorem dX11_count_48 : decode cX11_count 48 = .ok (.aload_n 2, 1) := by decide +kernel
theorem dX11_count_49 : decode cX11_count 49 = .ok (.getfield 216, 3) := by decide +kernel
theorem dX11_count_52 : decode cX11_count 52 = .ok (.ireturn, 1) := by decide +kernel
theorem dX11_count_53 : decode cX11_count 53 = .ok (.aload_n 2, 1) := by decide +kernel
theorem dX11_count_54 : decode cX11_count 54 = .ok (.getfield 226, 3) := by decide +kernel
theorem dX11_count_57 : decode cX11_count 57 = .ok (.ireturn, 1) := by decide +kernel
theorem dX11_count_58 : decode cX11_count 58 = .ok (.aload_n 2, 1) := by decide +kernel
theorem dX11_count_59 : decode cX11_count 59 = .ok (.getfield 229, 3) := by decide +kernel
theorem dX11_count_62 : decode cX11_count 62 = .ok (.ireturn, 1) := by decide +kernel
theorem dX11_count_63 : decode cX11_count 63 = .ok (.aload_n 2, 1) := by decide +kernel
theorem dX11_count_64 : decode cX11_count 64 = .ok (.getfield 232, 3) := by decide +kernel
theorem dX11_count_67 : decode cX11_count 67 = .ok (.ireturn, 1) := by decide +kernel
theorem dX11_count_68 : decode cX11_count 68 = .ok (.aload_n 2, 1) := by decide +kernel
theorem dX11_count_69 : decode cX11_count 69 = .ok (.getfield 235, 3) := by decide +kernel
theorem dX11_count_72 : decode cX11_count 72 = .ok (.ireturn, 1) := by decide +kernel
theorem dX11_count_73 : decode cX11_count 73 = .ok (.aload_n 0, 1) := by decide +kernel
theorem dX11_count_74 : decode cX11_count 74 = .ok (.getfield 14, 3) := by decide +kernel
theorem dX11_count_77 : decode cX11_count 77 = .ok (.getfield 113, 3) := by decide +kernel
theorem dX11_count_80 : decode cX11_count 80 = .ok (.ireturn, 1) := by decide +kernel
theorem dX11_count_81 : decode cX11_count 81 = .ok (.iconst (-1), 1) := by decide +kernel
theorem dX11_count_82 : decode cX11_count 82 = .ok (.ireturn, 1) := by decide +kernel
theorem dX11_lend_0 : decode cX11_lend 0 = .ok (.aload_n 0, 1) := by decide +kernel
theorem dX11_lend_1 : decode cX11_lend 1 = .ok (.getfield 30, 3) := by decide +kernel
theorem dX11_lend_4 : decode cX11_lend 4 = .ok (.getfield 144, 3) := by decide +kernel
theorem dX11_lend_7 : decode cX11_lend 7 = .ok (.astore_n 3, 1) := by decide +kernel
theorem dX11_lend_8 : decode cX11_lend 8 = .ok (.aload_n 3, 1) := by decide +kernel
theorem dX11_lend_9 : decode cX11_lend 9 = .ok (.iload_n 1, 1) := by decide +kernel
theorem dX11_lend_10 : decode cX11_lend 10 = .ok (.invokevirtual 175, 3) := by decide +kernel
theorem dX11_lend_13 : decode cX11_lend 13 = .ok (.ifCond .eq 11, 3) := by decide +kernel
theorem dX11_lend_16 : decode cX11_lend 16 = .ok (.aload_n 3, 1) := by decide +kernel
theorem dX11_lend_17 : decode cX11_lend 17 = .ok (.iload_n 2, 1) := by decide +kernel
theorem dX11_lend_18 : decode cX11_lend 18 = .ok (.invokevirtual 150, 3) := by decide +kernel
theorem dX11_lend_21 : decode cX11_lend 21 = .ok (.ifCond .ne 5, 3) := by decide +kernel
theorem dX11_lend_24 : decode cX11_lend 24 = .ok (.iconst (-1), 1) := by decide +kernel
theorem dX11_lend_25 : decode cX11_lend 25 = .ok (.ireturn, 1) := by decide +kernel
theorem dX11_lend_26 : decode cX11_lend 26 = .ok (.aload_n 0, 1) := by decide +kernel
theorem dX11_lend_27 : decode cX11_lend 27 = .ok (.getfield 62, 3) := by decide +kernel
theorem dX11_lend_30 : decode cX11_lend 30 = .ok (.aload_n 0, 1) := by decide +kernel
theorem dX11_lend_31 : decode cX11_lend 31 = .ok (.getfield 30, 3) := by decide +kernel
theorem dX11_lend_34 : decode cX11_lend 34 = .ok (.getfield 147, 3) := by decide +kernel
theorem dX11_lend_37 : decode cX11_lend 37 = .ok (.invokevirtual 238, 3) := by decide +kernel
theorem dX11_lend_40 : decode cX11_lend 40 = .ok (.aload_n 0, 1) := by decide +kernel
theorem dX11_lend_41 : decode cX11_lend 41 = .ok (.aload_n 0, 1) := by decide +kernel
theorem dX11_lend_42 : decode cX11_lend 42 = .ok (.getfield 62, 3) := by decide +kernel
theorem dX11_lend_45 : decode cX11_lend 45 = .ok (.aload_n 3, 1) := by decide +kernel
theorem dX11_lend_46 : decode cX11_lend 46 = .ok (.iload_n 1, 1) := by decide +kernel
theorem dX11_lend_47 : decode cX11_lend 47 = .ok (.iload_n 2, 1) := by decide +kernel
theorem dX11_lend_48 : decode cX11_lend 48 = .ok (.invokevirtual 242, 3) := by decide +kernel
theorem dX11_lend_51 : decode cX11_lend 51 = .ok (.invokevirtual 245, 3) := by decide +kernel
theorem dX11_lend_54 : decode cX11_lend 54 = .ok (.ireturn, 1) := by decide +kernel
theorem dX11_hush_0 : decode cX11_hush 0 = .ok (.aload_n 0, 1) := by decide +kernel
theorem dX11_hush_1 : decode cX11_hush 1 = .ok (.getfield 30, 3) := by decide +kernel
theorem dX11_hush_4 : decode cX11_hush 4 = .ok (.getfield 144, 3) := by decide +kernel
theorem dX11_hush_7 : decode cX11_hush 7 = .ok (.iload_n 1, 1) := by decide +kernel
theorem dX11_hush_8 : decode cX11_hush 8 = .ok (.invokevirtual 194, 3) := by decide +kernel
theorem dX11_hush_11 : decode cX11_hush 11 = .ok (.ifCond .ne 5, 3) := by decide +kernel
theorem dX11_hush_14 : decode cX11_hush 14 = .ok (.iconst (-1), 1) := by decide +kernel
theorem dX11_hush_15 : decode cX11_hush 15 = .ok (.ireturn, 1) := by decide +kernel
theorem dX11_hush_16 : decode cX11_hush 16 = .ok (.aload_n 0, 1) := by decide +kernel
theorem dX11_hush_17 : decode cX11_hush 17 = .ok (.getfield 62, 3) := by decide +kernel
theorem dX11_hush_20 : decode cX11_hush 20 = .ok (.aload_n 0, 1) := by decide +kernel
theorem dX11_hush_21 : decode cX11_hush 21 = .ok (.getfield 30, 3) := by decide +kernel
theorem dX11_hush_24 : decode cX11_hush 24 = .ok (.getfield 147, 3) := by decide +kernel
theorem dX11_hush_27 : decode cX11_hush 27 = .ok (.invokevirtual 238, 3) := by decide +kernel
theorem dX11_hush_30 : decode cX11_hush 30 = .ok (.aload_n 0, 1) := by decide +kernel
theorem dX11_hush_31 : decode cX11_hush 31 = .ok (.aload_n 0, 1) := by decide +kernel
theorem dX11_hush_32 : decode cX11_hush 32 = .ok (.getfield 62, 3) := by decide +kernel
theorem dX11_hush_35 : decode cX11_hush 35 = .ok (.iload_n 1, 1) := by decide +kernel
theorem dX11_hush_36 : decode cX11_hush 36 = .ok (.invokevirtual 249, 3) := by decide +kernel
theorem dX11_hush_39 : decode cX11_hush 39 = .ok (.invokevirtual 245, 3) := by decide +kernel
theorem dX11_hush_42 : decode cX11_hush 42 = .ok (.ireturn, 1) := by decide +kernel
theorem dX11_let_0 : decode cX11_let 0 = .ok (.aload_n 0, 1) := by decide +kernel
theorem dX11_let_1 : decode cX11_let 1 = .ok (.getfield 30, 3) := by decide +kernel
theorem dX11_let_4 : decode cX11_let 4 = .ok (.getfield 144, 3) := by decide +kernel
theorem dX11_let_7 : decode cX11_let 7 = .ok (.iload_n 1, 1) := by decide +kernel
theorem dX11_let_8 : decode cX11_let 8 = .ok (.invokevirtual 194, 3) := by decide +kernel
theorem dX11_let_11 : decode cX11_let 11 = .ok (.ifCond .ne 5, 3) := by decide +kernel
theorem dX11_let_14 : decode cX11_let 14 = .ok (.iconst (-1), 1) := by decide +kernel
theorem dX11_let_15 : decode cX11_let 15 = .ok (.ireturn, 1) := by decide +kernel
theorem dX11_let_16 : decode cX11_let 16 = .ok (.aload_n 0, 1) := by decide +kernel
theorem dX11_let_17 : decode cX11_let 17 = .ok (.getfield 62, 3) := by decide +kernel
theorem dX11_let_20 : decode cX11_let 20 = .ok (.aload_n 0, 1) := by decide +kernel
theorem dX11_let_21 : decode cX11_let 21 = .ok (.getfield 30, 3) := by decide +kernel
theorem dX11_let_24 : decode cX11_let 24 = .ok (.getfield 147, 3) := by decide +kernel
theorem dX11_let_27 : decode cX11_let 27 = .ok (.invokevirtual 238, 3) := by decide +kernel
theorem dX11_let_30 : decode cX11_let 30 = .ok (.aload_n 0, 1) := by decide +kernel
theorem dX11_let_31 : decode cX11_let 31 = .ok (.aload_n 0, 1) := by decide +kernel
theorem dX11_let_32 : decode cX11_let 32 = .ok (.getfield 62, 3) := by decide +kernel
theorem dX11_let_35 : decode cX11_let 35 = .ok (.iload_n 1, 1) := by decide +kernel
theorem dX11_let_36 : decode cX11_let 36 = .ok (.invokevirtual 252, 3) := by decide +kernel
theorem dX11_let_39 : decode cX11_let 39 = .ok (.invokevirtual 245, 3) := by decide +kernel
theorem dX11_let_42 : decode cX11_let 42 = .ok (.ireturn, 1) := by decide +kernel
theorem dX11_shout_0 : decode cX11_shout 0 = .ok (.aload_n 0, 1) := by decide +kernel
theorem dX11_shout_1 : decode cX11_shout 1 = .ok (.getfield 30, 3) := by decide +kernel
theorem dX11_shout_4 : decode cX11_shout 4 = .ok (.getfield 144, 3) := by decide +kernel
theorem dX11_shout_7 : decode cX11_shout 7 = .ok (.iload_n 1, 1) := by decide +kernel
theorem dX11_shout_8 : decode cX11_shout 8 = .ok (.iload_n 2, 1) := by decide +kernel
theorem dX11_shout_9 : decode cX11_shout 9 = .ok (.invokevirtual 255, 3) := by decide +kernel
theorem dX11_shout_12 : decode cX11_shout 12 = .ok (.ifCond .eq 14, 3) := by decide +kernel
theorem dX11_shout_15 : decode cX11_shout 15 = .ok (.iload_n 3, 1) := by decide +kernel
theorem dX11_shout_16 : decode cX11_shout 16 = .ok (.iconst 1, 1) := by decide +kernel
theorem dX11_shout_17 : decode cX11_shout 17 = .ok (.if_icmp .lt 9, 3) := by decide +kernel
theorem dX11_shout_20 : decode cX11_shout 20 = .ok (.iload_n 3, 1) := by decide +kernel
theorem dX11_shout_21 : decode cX11_shout 21 = .ok (.bipush 30, 2) := by decide +kernel
theorem dX11_shout_23 : decode cX11_shout 23 = .ok (.if_icmp .le 5, 3) := by decide +kernel
theorem dX11_shout_26 : decode cX11_shout 26 = .ok (.iconst (-1), 1) := by decide +kernel
theorem dX11_shout_27 : decode cX11_shout 27 = .ok (.ireturn, 1) := by decide +kernel
theorem dX11_shout_28 : decode cX11_shout 28 = .ok (.aload_n 0, 1) := by decide +kernel
theorem dX11_shout_29 : decode cX11_shout 29 = .ok (.getfield 62, 3) := by decide +kernel
theorem dX11_shout_32 : decode cX11_shout 32 = .ok (.aload_n 0, 1) := by decide +kernel
theorem dX11_shout_33 : decode cX11_shout 33 = .ok (.getfield 30, 3) := by decide +kernel
theorem dX11_shout_36 : decode cX11_shout 36 = .ok (.getfield 147, 3) := by decide +kernel
theorem dX11_shout_39 : decode cX11_shout 39 = .ok (.invokevirtual 238, 3) := by decide +kernel
theorem dX11_shout_42 : decode cX11_shout 42 = .ok (.aload_n 0, 1) := by decide +kernel
theorem dX11_shout_43 : decode cX11_shout 43 = .ok (.aload_n 0, 1) := by decide +kernel
theorem dX11_shout_44 : decode cX11_shout 44 = .ok (.getfield 62, 3) := by decide +kernel
theorem dX11_shout_47 : decode cX11_shout 47 = .ok (.iload_n 1, 1) := by decide +kernel
theorem dX11_shout_48 : decode cX11_shout 48 = .ok (.iload_n 2, 1) := by decide +kernel
theorem dX11_shout_49 : decode cX11_shout 49 = .ok (.iload_n 3, 1) := by decide +kernel
theorem dX11_shout_50 : decode cX11_shout 50 = .ok (.invokevirtual 259, 3) := by decide +kernel
theorem dX11_shout_53 : decode cX11_shout 53 = .ok (.invokevirtual 245, 3) := by decide +kernel
theorem dX11_shout_56 : decode cX11_shout 56 = .ok (.ireturn, 1) := by decide +kernel
theorem dX11_hours_0 : decode cX11_hours 0 = .ok (.iload_n 1, 1) := by decide +kernel
theorem dX11_hours_1 : decode cX11_hours 1 = .ok (.iconst 1, 1) := by decide +kernel
theorem dX11_hours_2 : decode cX11_hours 2 = .ok (.if_icmp .lt 9, 3) := by decide +kernel
theorem dX11_hours_5 : decode cX11_hours 5 = .ok (.iload_n 1, 1) := by decide +kernel
theorem dX11_hours_6 : decode cX11_hours 6 = .ok (.bipush 60, 2) := by decide +kernel
theorem dX11_hours_8 : decode cX11_hours 8 = .ok (.if_icmp .le 5, 3) := by decide +kernel
theorem dX11_hours_11 : decode cX11_hours 11 = .ok (.iconst (-1), 1) := by decide +kernel
theorem dX11_hours_12 : decode cX11_hours 12 = .ok (.ireturn, 1) := by decide +kernel
theorem dX11_hours_13 : decode cX11_hours 13 = .ok (.iload_n 1, 1) := by decide +kernel
theorem dX11_hours_14 : decode cX11_hours 14 = .ok (.sipush 400, 3) := by decide +kernel
theorem dX11_hours_17 : decode cX11_hours 17 = .ok (.aload_n 0, 1) := by decide +kernel
theorem dX11_hours_18 : decode cX11_hours 18 = .ok (.getfield 30, 3) := by decide +kernel
theorem dX11_hours_21 : decode cX11_hours 21 = .ok (.getfield 147, 3) := by decide +kernel
theorem dX11_hours_24 : decode cX11_hours 24 = .ok (.getfield 206, 3) := by decide +kernel
theorem dX11_hours_27 : decode cX11_hours 27 = .ok (.isub, 1) := by decide +kernel
theorem dX11_hours_28 : decode cX11_hours 28 = .ok (.invokestatic 263, 3) := by decide +kernel
theorem dX11_hours_31 : decode cX11_hours 31 = .ok (.istore_n 2, 1) := by decide +kernel
theorem dX11_hours_32 : decode cX11_hours 32 = .ok (.aload_n 0, 1) := by decide +kernel
theorem dX11_hours_33 : decode cX11_hours 33 = .ok (.getfield 62, 3) := by decide +kernel
theorem dX11_hours_36 : decode cX11_hours 36 = .ok (.aload_n 0, 1) := by decide +kernel
theorem dX11_hours_37 : decode cX11_hours 37 = .ok (.getfield 30, 3) := by decide +kernel
theorem dX11_hours_40 : decode cX11_hours 40 = .ok (.getfield 147, 3) := by decide +kernel
theorem dX11_hours_43 : decode cX11_hours 43 = .ok (.invokevirtual 238, 3) := by decide +kernel
theorem dX11_hours_46 : decode cX11_hours 46 = .ok (.iconst 0, 1) := by decide +kernel
theorem dX11_hours_47 : decode cX11_hours 47 = .ok (.istore_n 3, 1) := by decide +kernel
theorem dX11_hours_48 : decode cX11_hours 48 = .ok (.iload_n 3, 1) := by decide +kernel
theorem dX11_hours_49 : decode cX11_hours 49 = .ok (.iload_n 2, 1) := by decide +kernel
theorem dX11_hours_50 : decode cX11_hours 50 = .ok (.if_icmp .ge 23, 3) := by decide +kernel
theorem dX11_hours_53 : decode cX11_hours 53 = .ok (.aload_n 0, 1) := by decide +kernel
theorem dX11_hours_54 : decode cX11_hours 54 = .ok (.getfield 62, 3) := by decide +kernel
theorem dX11_hours_57 : decode cX11_hours 57 = .ok (.aload_n 0, 1) := by decide +kernel
theorem dX11_hours_58 : decode cX11_hours 58 = .ok (.getfield 30, 3) := by decide +kernel
theorem dX11_hours_61 : decode cX11_hours 61 = .ok (.getfield 144, 3) := by decide +kernel
theorem dX11_hours_64 : decode cX11_hours 64 = .ok (.invokevirtual 269, 3) := by decide +kernel
theorem dX11_hours_67 : decode cX11_hours 67 = .ok (.iinc 3 1, 3) := by decide +kernel
theorem dX11_hours_70 : decode cX11_hours 70 = .ok (.goto (-22), 3) := by decide +kernel
theorem dX11_hours_73 : decode cX11_hours 73 = .ok (.iload_n 2, 1) := by decide +kernel
theorem dX11_hours_74 : decode cX11_hours 74 = .ok (.ifCond .le 7, 3) := by decide +kernel
theorem dX11_hours_77 : decode cX11_hours 77 = .ok (.aload_n 0, 1) := by decide +kernel
theorem dX11_hours_78 : decode cX11_hours 78 = .ok (.invokevirtual 272, 3) := by decide +kernel
theorem dX11_hours_81 : decode cX11_hours 81 = .ok (.iload_n 2, 1) := by decide +kernel
theorem dX11_hours_82 : decode cX11_hours 82 = .ok (.ireturn, 1) := by decide +kernel
theorem dX11_drawn_0 : decode cX11_drawn 0 = .ok (.iload_n 1, 1) := by decide +kernel
theorem dX11_drawn_1 : decode cX11_drawn 1 = .ok (.iconst 1, 1) := by decide +kernel
theorem dX11_drawn_2 : decode cX11_drawn 2 = .ok (.if_icmp .lt 9, 3) := by decide +kernel
theorem dX11_drawn_5 : decode cX11_drawn 5 = .ok (.iload_n 1, 1) := by decide +kernel
theorem dX11_drawn_6 : decode cX11_drawn 6 = .ok (.bipush 60, 2) := by decide +kernel
theorem dX11_drawn_8 : decode cX11_drawn 8 = .ok (.if_icmp .le 5, 3) := by decide +kernel
theorem dX11_drawn_11 : decode cX11_drawn 11 = .ok (.iconst (-1), 1) := by decide +kernel
theorem dX11_drawn_12 : decode cX11_drawn 12 = .ok (.ireturn, 1) := by decide +kernel
theorem dX11_drawn_13 : decode cX11_drawn 13 = .ok (.iload_n 1, 1) := by decide +kernel
theorem dX11_drawn_14 : decode cX11_drawn 14 = .ok (.sipush 400, 3) := by decide +kernel
theorem dX11_drawn_17 : decode cX11_drawn 17 = .ok (.aload_n 0, 1) := by decide +kernel
theorem dX11_drawn_18 : decode cX11_drawn 18 = .ok (.getfield 30, 3) := by decide +kernel
theorem dX11_drawn_21 : decode cX11_drawn 21 = .ok (.getfield 147, 3) := by decide +kernel
theorem dX11_drawn_24 : decode cX11_drawn 24 = .ok (.getfield 206, 3) := by decide +kernel
theorem dX11_drawn_27 : decode cX11_drawn 27 = .ok (.isub, 1) := by decide +kernel
theorem dX11_drawn_28 : decode cX11_drawn 28 = .ok (.invokestatic 263, 3) := by decide +kernel
theorem dX11_drawn_31 : decode cX11_drawn 31 = .ok (.istore_n 3, 1) := by decide +kernel
theorem dX11_drawn_32 : decode cX11_drawn 32 = .ok (.aload_n 0, 1) := by decide +kernel
theorem dX11_drawn_33 : decode cX11_drawn 33 = .ok (.getfield 62, 3) := by decide +kernel
theorem dX11_drawn_36 : decode cX11_drawn 36 = .ok (.aload_n 0, 1) := by decide +kernel
theorem dX11_drawn_37 : decode cX11_drawn 37 = .ok (.getfield 30, 3) := by decide +kernel
theorem dX11_drawn_40 : decode cX11_drawn 40 = .ok (.getfield 147, 3) := by decide +kernel
theorem dX11_drawn_43 : decode cX11_drawn 43 = .ok (.invokevirtual 238, 3) := by decide +kernel
theorem dX11_drawn_46 : decode cX11_drawn 46 = .ok (.aload_n 0, 1) := by decide +kernel
theorem dX11_drawn_47 : decode cX11_drawn 47 = .ok (.getfield 62, 3) := by decide +kernel
theorem dX11_drawn_50 : decode cX11_drawn 50 = .ok (.aload_n 0, 1) := by decide +kernel
theorem dX11_drawn_51 : decode cX11_drawn 51 = .ok (.getfield 30, 3) := by decide +kernel
theorem dX11_drawn_54 : decode cX11_drawn 54 = .ok (.getfield 144, 3) := by decide +kernel
theorem dX11_drawn_57 : decode cX11_drawn 57 = .ok (.iload_n 3, 1) := by decide +kernel
theorem dX11_drawn_58 : decode cX11_drawn 58 = .ok (.iload_n 2, 1) := by decide +kernel
theorem dX11_drawn_59 : decode cX11_drawn 59 = .ok (.invokevirtual 275, 3) := by decide +kernel
theorem dX11_drawn_62 : decode cX11_drawn 62 = .ok (.iload_n 3, 1) := by decide +kernel
theorem dX11_drawn_63 : decode cX11_drawn 63 = .ok (.ifCond .le 7, 3) := by decide +kernel
theorem dX11_drawn_66 : decode cX11_drawn 66 = .ok (.aload_n 0, 1) := by decide +kernel
theorem dX11_drawn_67 : decode cX11_drawn 67 = .ok (.invokevirtual 272, 3) := by decide +kernel
theorem dX11_drawn_70 : decode cX11_drawn 70 = .ok (.iload_n 3, 1) := by decide +kernel
theorem dX11_drawn_71 : decode cX11_drawn 71 = .ok (.ireturn, 1) := by decide +kernel
theorem dX11_undo_0 : decode cX11_undo 0 = .ok (.aload_n 0, 1) := by decide +kernel
theorem dX11_undo_1 : decode cX11_undo 1 = .ok (.getfield 69, 3) := by decide +kernel
theorem dX11_undo_4 : decode cX11_undo 4 = .ok (.aload_n 0, 1) := by decide +kernel
theorem dX11_undo_5 : decode cX11_undo 5 = .ok (.getfield 30, 3) := by decide +kernel
theorem dX11_undo_8 : decode cX11_undo 8 = .ok (.getfield 147, 3) := by decide +kernel
theorem dX11_undo_11 : decode cX11_undo 11 = .ok (.invokevirtual 279, 3) := by decide +kernel
theorem dX11_undo_14 : decode cX11_undo 14 = .ok (.ireturn, 1) := by decide +kernel
theorem dX11_keepDone_0 : decode cX11_keepDone 0 = .ok (.iload_n 1, 1) := by decide +kernel
theorem dX11_keepDone_1 : decode cX11_keepDone 1 = .ok (.ifCond .ne 7, 3) := by decide +kernel
theorem dX11_keepDone_4 : decode cX11_keepDone 4 = .ok (.aload_n 0, 1) := by decide +kernel
theorem dX11_keepDone_5 : decode cX11_keepDone 5 = .ok (.invokevirtual 272, 3) := by decide +kernel
theorem dX11_keepDone_8 : decode cX11_keepDone 8 = .ok (.iload_n 1, 1) := by decide +kernel
theorem dX11_keepDone_9 : decode cX11_keepDone 9 = .ok (.ireturn, 1) := by decide +kernel
theorem dX11_keepTrial_0 : decode cX11_keepTrial 0 = .ok (.aload_n 0, 1) := by decide +kernel
theorem dX11_keepTrial_1 : decode cX11_keepTrial 1 = .ok (.getfield 69, 3) := by decide +kernel
theorem dX11_keepTrial_4 : decode cX11_keepTrial 4 = .ok (.aload_n 0, 1) := by decide +kernel
theorem dX11_keepTrial_5 : decode cX11_keepTrial 5 = .ok (.getfield 30, 3) := by decide +kernel
theorem dX11_keepTrial_8 : decode cX11_keepTrial 8 = .ok (.getfield 147, 3) := by decide +kernel
theorem dX11_keepTrial_11 : decode cX11_keepTrial 11 = .ok (.invokevirtual 283, 3) := by decide +kernel
theorem dX11_keepTrial_14 : decode cX11_keepTrial 14 = .ok (.aload_n 0, 1) := by decide +kernel
theorem dX11_keepTrial_15 : decode cX11_keepTrial 15 = .ok (.getfield 30, 3) := by decide +kernel
theorem dX11_keepTrial_18 : decode cX11_keepTrial 18 = .ok (.getfield 147, 3) := by decide +kernel
theorem dX11_keepTrial_21 : decode cX11_keepTrial 21 = .ok (.aload_n 0, 1) := by decide +kernel
theorem dX11_keepTrial_22 : decode cX11_keepTrial 22 = .ok (.getfield 62, 3) := by decide +kernel
theorem dX11_keepTrial_25 : decode cX11_keepTrial 25 = .ok (.invokevirtual 238, 3) := by decide +kernel
theorem dX11_keepTrial_28 : decode cX11_keepTrial 28 = .ok (.return_, 1) := by decide +kernel
theorem dX11_hears_0 : decode cX11_hears 0 = .ok (.aload_n 0, 1) := by decide +kernel
theorem dX11_hears_1 : decode cX11_hears 1 = .ok (.getfield 30, 3) := by decide +kernel
theorem dX11_hears_4 : decode cX11_hears 4 = .ok (.getfield 144, 3) := by decide +kernel
theorem dX11_hears_7 : decode cX11_hears 7 = .ok (.astore_n 2, 1) := by decide +kernel
theorem dX11_hears_8 : decode cX11_hears 8 = .ok (.aload_n 0, 1) := by decide +kernel
theorem dX11_hears_9 : decode cX11_hears 9 = .ok (.getfield 30, 3) := by decide +kernel
theorem dX11_hears_12 : decode cX11_hears 12 = .ok (.getfield 147, 3) := by decide +kernel
theorem dX11_hears_15 : decode cX11_hears 15 = .ok (.astore_n 3, 1) := by decide +kernel
theorem dX11_hears_16 : decode cX11_hears 16 = .ok (.aload_n 2, 1) := by decide +kernel
theorem dX11_hears_17 : decode cX11_hears 17 = .ok (.iload_n 1, 1) := by decide +kernel
theorem dX11_hears_18 : decode cX11_hears 18 = .ok (.invokevirtual 175, 3) := by decide +kernel
theorem dX11_hears_21 : decode cX11_hears 21 = .ok (.ifCond .eq 18, 3) := by decide +kernel
theorem dX11_hears_24 : decode cX11_hears 24 = .ok (.aload_n 3, 1) := by decide +kernel
theorem dX11_hears_25 : decode cX11_hears 25 = .ok (.aload_n 2, 1) := by decide +kernel
theorem dX11_hears_26 : decode cX11_hears 26 = .ok (.iload_n 1, 1) := by decide +kernel
theorem dX11_hears_27 : decode cX11_hears 27 = .ok (.aload_n 3, 1) := by decide +kernel
theorem dX11_hears_28 : decode cX11_hears 28 = .ok (.getfield 180, 3) := by decide +kernel
theorem dX11_hears_31 : decode cX11_hears 31 = .ok (.iload_n 1, 1) := by decide +kernel
theorem dX11_hears_32 : decode cX11_hears 32 = .ok (.iaload, 1) := by decide +kernel
theorem dX11_hears_33 : decode cX11_hears 33 = .ok (.invokevirtual 286, 3) := by decide +kernel
theorem dX11_hears_36 : decode cX11_hears 36 = .ok (.goto 4, 3) := by decide +kernel
theorem dX11_hears_39 : decode cX11_hears 39 = .ok (.iconst (-1), 1) := by decide +kernel
theorem dX11_hears_40 : decode cX11_hears 40 = .ok (.ireturn, 1) := by decide +kernel
theorem dX11_would_0 : decode cX11_would 0 = .ok (.aload_n 0, 1) := by decide +kernel
theorem dX11_would_1 : decode cX11_would 1 = .ok (.getfield 30, 3) := by decide +kernel
theorem dX11_would_4 : decode cX11_would 4 = .ok (.getfield 144, 3) := by decide +kernel
theorem dX11_would_7 : decode cX11_would 7 = .ok (.astore_n 3, 1) := by decide +kernel
theorem dX11_would_8 : decode cX11_would 8 = .ok (.aload_n 0, 1) := by decide +kernel
theorem dX11_would_9 : decode cX11_would 9 = .ok (.getfield 30, 3) := by decide +kernel
theorem dX11_would_12 : decode cX11_would 12 = .ok (.getfield 147, 3) := by decide +kernel
theorem dX11_would_15 : decode cX11_would 15 = .ok (.astore 4, 2) := by decide +kernel
theorem dX11_would_17 : decode cX11_would 17 = .ok (.aload_n 3, 1) := by decide +kernel
theorem dX11_would_18 : decode cX11_would 18 = .ok (.iload_n 1, 1) := by decide +kernel
theorem dX11_would_19 : decode cX11_would 19 = .ok (.invokevirtual 175, 3) := by decide +kernel
theorem dX11_would_22 : decode cX11_would 22 = .ok (.ifCond .eq 11, 3) := by decide +kernel
theorem dX11_would_25 : decode cX11_would 25 = .ok (.aload_n 3, 1) := by decide +kernel
theorem dX11_would_26 : decode cX11_would 26 = .ok (.iload_n 2, 1) := by decide +kernel
theorem dX11_would_27 : decode cX11_would 27 = .ok (.invokevirtual 150, 3) := by decide +kernel
theorem dX11_would_30 : decode cX11_would 30 = .ok (.ifCond .ne 5, 3) := by decide +kernel
theorem dX11_would_33 : decode cX11_would 33 = .ok (.iconst (-1), 1) := by decide +kernel
theorem dX11_would_34 : decode cX11_would 34 = .ok (.ireturn, 1) := by decide +kernel
theorem dX11_would_35 : decode cX11_would 35 = .ok (.aload 4, 2) := by decide +kernel
theorem dX11_would_37 : decode cX11_would 37 = .ok (.aload_n 3, 1) := by decide +kernel
theorem dX11_would_38 : decode cX11_would 38 = .ok (.iload_n 2, 1) := by decide +kernel
theorem dX11_would_39 : decode cX11_would 39 = .ok (.aload 4, 2) := by decide +kernel
theorem dX11_would_41 : decode cX11_would 41 = .ok (.aload_n 3, 1) := by decide +kernel
theorem dX11_would_42 : decode cX11_would 42 = .ok (.iload_n 1, 1) := by decide +kernel
theorem dX11_would_43 : decode cX11_would 43 = .ok (.iload_n 2, 1) := by decide +kernel
theorem dX11_would_44 : decode cX11_would 44 = .ok (.iconst 0, 1) := by decide +kernel
theorem dX11_would_45 : decode cX11_would 45 = .ok (.invokevirtual 186, 3) := by decide +kernel
theorem dX11_would_48 : decode cX11_would 48 = .ok (.invokevirtual 190, 3) := by decide +kernel
theorem dX11_would_51 : decode cX11_would 51 = .ok (.ireturn, 1) := by decide +kernel
theorem dX11_when_0 : decode cX11_when 0 = .ok (.aload_n 0, 1) := by decide +kernel
theorem dX11_when_1 : decode cX11_when 1 = .ok (.getfield 30, 3) := by decide +kernel
theorem dX11_when_4 : decode cX11_when 4 = .ok (.getfield 144, 3) := by decide +kernel
theorem dX11_when_7 : decode cX11_when 7 = .ok (.astore_n 3, 1) := by decide +kernel
theorem dX11_when_8 : decode cX11_when 8 = .ok (.aload_n 0, 1) := by decide +kernel
theorem dX11_when_9 : decode cX11_when 9 = .ok (.getfield 30, 3) := by decide +kernel
theorem dX11_when_12 : decode cX11_when 12 = .ok (.getfield 147, 3) := by decide +kernel
theorem dX11_when_15 : decode cX11_when 15 = .ok (.astore 4, 2) := by decide +kernel
theorem dX11_when_17 : decode cX11_when 17 = .ok (.aload_n 3, 1) := by decide +kernel
theorem dX11_when_18 : decode cX11_when 18 = .ok (.iload_n 1, 1) := by decide +kernel
theorem dX11_when_19 : decode cX11_when 19 = .ok (.invokevirtual 175, 3) := by decide +kernel
theorem dX11_when_22 : decode cX11_when 22 = .ok (.ifCond .eq 12, 3) := by decide +kernel
theorem dX11_when_25 : decode cX11_when 25 = .ok (.iload_n 2, 1) := by decide +kernel
theorem dX11_when_26 : decode cX11_when 26 = .ok (.ifCond .lt 8, 3) := by decide +kernel
theorem dX11_when_29 : decode cX11_when 29 = .ok (.iload_n 2, 1) := by decide +kernel
theorem dX11_when_30 : decode cX11_when 30 = .ok (.iconst 4, 1) := by decide +kernel
theorem dX11_when_31 : decode cX11_when 31 = .ok (.if_icmp .le 5, 3) := by decide +kernel
theorem dX11_when_34 : decode cX11_when 34 = .ok (.iconst (-1), 1) := by decide +kernel
theorem dX11_when_35 : decode cX11_when 35 = .ok (.ireturn, 1) := by decide +kernel
theorem dX11_when_36 : decode cX11_when 36 = .ok (.aload 4, 2) := by decide +kernel
theorem dX11_when_38 : decode cX11_when 38 = .ok (.getfield 180, 3) := by decide +kernel
theorem dX11_when_41 : decode cX11_when 41 = .ok (.iload_n 1, 1) := by decide +kernel
theorem dX11_when_42 : decode cX11_when 42 = .ok (.iaload, 1) := by decide +kernel
theorem dX11_when_43 : decode cX11_when 43 = .ok (.istore 5, 2) := by decide +kernel
theorem dX11_when_45 : decode cX11_when 45 = .ok (.bipush 48, 2) := by decide +kernel
theorem dX11_when_47 : decode cX11_when 47 = .ok (.sipush 400, 3) := by decide +kernel
theorem dX11_when_50 : decode cX11_when 50 = .ok (.aload 4, 2) := by decide +kernel
theorem dX11_when_52 : decode cX11_when 52 = .ok (.getfield 206, 3) := by decide +kernel
theorem dX11_when_55 : decode cX11_when 55 = .ok (.isub, 1) := by decide +kernel
theorem dX11_when_56 : decode cX11_when 56 = .ok (.invokestatic 263, 3) := by decide +kernel
theorem dX11_when_59 : decode cX11_when 59 = .ok (.istore 6, 2) := by decide +kernel
theorem dX11_when_61 : decode cX11_when 61 = .ok (.iconst 0, 1) := by decide +kernel
theorem dX11_when_62 : decode cX11_when 62 = .ok (.istore 7, 2) := by decide +kernel
theorem dX11_when_64 : decode cX11_when 64 = .ok (.iload 7, 2) := by decide +kernel
theorem dX11_when_66 : decode cX11_when 66 = .ok (.iload 6, 2) := by decide +kernel
theorem dX11_when_68 : decode cX11_when 68 = .ok (.if_icmp .gt 35, 3) := by decide +kernel
theorem dX11_when_71 : decode cX11_when 71 = .ok (.aload 4, 2) := by decide +kernel
theorem dX11_when_73 : decode cX11_when 73 = .ok (.aload_n 3, 1) := by decide +kernel
theorem dX11_when_74 : decode cX11_when 74 = .ok (.iload 5, 2) := by decide +kernel
theorem dX11_when_76 : decode cX11_when 76 = .ok (.aload 4, 2) := by decide +kernel
theorem dX11_when_78 : decode cX11_when 78 = .ok (.aload_n 3, 1) := by decide +kernel
theorem dX11_when_79 : decode cX11_when 79 = .ok (.iload_n 1, 1) := by decide +kernel
theorem dX11_when_80 : decode cX11_when 80 = .ok (.iload 5, 2) := by decide +kernel
theorem dX11_when_82 : decode cX11_when 82 = .ok (.iload 7, 2) := by decide +kernel
theorem dX11_when_84 : decode cX11_when 84 = .ok (.invokevirtual 186, 3) := by decide +kernel
theorem dX11_when_87 : decode cX11_when 87 = .ok (.invokevirtual 190, 3) := by decide +kernel
theorem dX11_when_90 : decode cX11_when 90 = .ok (.iload_n 2, 1) := by decide +kernel
theorem dX11_when_91 : decode cX11_when 91 = .ok (.if_icmp .ne 6, 3) := by decide +kernel
theorem dX11_when_94 : decode cX11_when 94 = .ok (.iload 7, 2) := by decide +kernel
theorem dX11_when_96 : decode cX11_when 96 = .ok (.ireturn, 1) := by decide +kernel
theorem dX11_when_97 : decode cX11_when 97 = .ok (.iinc 7 1, 3) := by decide +kernel
theorem dX11_when_100 : decode cX11_when 100 = .ok (.goto (-36), 3) := by decide +kernel
theorem dX11_when_103 : decode cX11_when 103 = .ok (.iconst (-1), 1) := by decide +kernel
theorem dX11_when_104 : decode cX11_when 104 = .ok (.ireturn, 1) := by decide +kernel
theorem dX11_loud_0 : decode cX11_loud 0 = .ok (.aload_n 0, 1) := by decide +kernel
theorem dX11_loud_1 : decode cX11_loud 1 = .ok (.getfield 30, 3) := by decide +kernel
theorem dX11_loud_4 : decode cX11_loud 4 = .ok (.getfield 144, 3) := by decide +kernel
theorem dX11_loud_7 : decode cX11_loud 7 = .ok (.astore_n 3, 1) := by decide +kernel
theorem dX11_loud_8 : decode cX11_loud 8 = .ok (.aload_n 3, 1) := by decide +kernel
theorem dX11_loud_9 : decode cX11_loud 9 = .ok (.iload_n 1, 1) := by decide +kernel
theorem dX11_loud_10 : decode cX11_loud 10 = .ok (.invokevirtual 194, 3) := by decide +kernel
theorem dX11_loud_13 : decode cX11_loud 13 = .ok (.ifCond .eq 11, 3) := by decide +kernel
theorem dX11_loud_16 : decode cX11_loud 16 = .ok (.aload_n 3, 1) := by decide +kernel
theorem dX11_loud_17 : decode cX11_loud 17 = .ok (.iload_n 2, 1) := by decide +kernel
theorem dX11_loud_18 : decode cX11_loud 18 = .ok (.invokevirtual 150, 3) := by decide +kernel
theorem dX11_loud_21 : decode cX11_loud 21 = .ok (.ifCond .ne 14, 3) := by decide +kernel
theorem dX11_loud_24 : decode cX11_loud 24 = .ok (.new 154, 3) := by decide +kernel
theorem dX11_loud_27 : decode cX11_loud 27 = .ok (.dup, 1) := by decide +kernel
theorem dX11_loud_28 : decode cX11_loud 28 = .ok (.ldc_w 289, 3) := by decide +kernel
theorem dX11_loud_31 : decode cX11_loud 31 = .ok (.invokespecial 158, 3) := by decide +kernel
theorem dX11_loud_34 : decode cX11_loud 34 = .ok (.athrow, 1) := by decide +kernel
theorem dX11_loud_35 : decode cX11_loud 35 = .ok (.aload_n 3, 1) := by decide +kernel
theorem dX11_loud_36 : decode cX11_loud 36 = .ok (.iload_n 2, 1) := by decide +kernel
theorem dX11_loud_37 : decode cX11_loud 37 = .ok (.aload_n 3, 1) := by decide +kernel
theorem dX11_loud_38 : decode cX11_loud 38 = .ok (.getfield 197, 3) := by decide +kernel
theorem dX11_loud_41 : decode cX11_loud 41 = .ok (.iload_n 1, 1) := by decide +kernel
theorem dX11_loud_42 : decode cX11_loud 42 = .ok (.aaload, 1) := by decide +kernel
theorem dX11_loud_43 : decode cX11_loud 43 = .ok (.invokevirtual 291, 3) := by decide +kernel
theorem dX11_loud_46 : decode cX11_loud 46 = .ok (.ireturn, 1) := by decide +kernel
theorem dX11_worth_0 : decode cX11_worth 0 = .ok (.aload_n 0, 1) := by decide +kernel
theorem dX11_worth_1 : decode cX11_worth 1 = .ok (.getfield 30, 3) := by decide +kernel
theorem dX11_worth_4 : decode cX11_worth 4 = .ok (.getfield 144, 3) := by decide +kernel
theorem dX11_worth_7 : decode cX11_worth 7 = .ok (.astore_n 3, 1) := by decide +kernel
theorem dX11_worth_8 : decode cX11_worth 8 = .ok (.aload_n 0, 1) := by decide +kernel
theorem dX11_worth_9 : decode cX11_worth 9 = .ok (.getfield 30, 3) := by decide +kernel
theorem dX11_worth_12 : decode cX11_worth 12 = .ok (.getfield 147, 3) := by decide +kernel
theorem dX11_worth_15 : decode cX11_worth 15 = .ok (.astore 4, 2) := by decide +kernel
theorem dX11_worth_17 : decode cX11_worth 17 = .ok (.aload_n 3, 1) := by decide +kernel
theorem dX11_worth_18 : decode cX11_worth 18 = .ok (.iload_n 1, 1) := by decide +kernel
theorem dX11_worth_19 : decode cX11_worth 19 = .ok (.invokevirtual 150, 3) := by decide +kernel
theorem dX11_worth_22 : decode cX11_worth 22 = .ok (.ifCond .eq 13, 3) := by decide +kernel
theorem dX11_worth_25 : decode cX11_worth 25 = .ok (.aload 4, 2) := by decide +kernel
theorem dX11_worth_27 : decode cX11_worth 27 = .ok (.aload_n 3, 1) := by decide +kernel
theorem dX11_worth_28 : decode cX11_worth 28 = .ok (.iload_n 1, 1) := by decide +kernel
theorem dX11_worth_29 : decode cX11_worth 29 = .ok (.invokevirtual 165, 3) := by decide +kernel
theorem dX11_worth_32 : decode cX11_worth 32 = .ok (.goto 4, 3) := by decide +kernel
theorem dX11_worth_35 : decode cX11_worth 35 = .ok (.iconst (-1), 1) := by decide +kernel
theorem dX11_worth_36 : decode cX11_worth 36 = .ok (.istore 5, 2) := by decide +kernel
theorem dX11_worth_38 : decode cX11_worth 38 = .ok (.iload 5, 2) := by decide +kernel
theorem dX11_worth_40 : decode cX11_worth 40 = .ok (.iconst (-1), 1) := by decide +kernel
theorem dX11_worth_41 : decode cX11_worth 41 = .ok (.if_icmp .eq 14, 3) := by decide +kernel
theorem dX11_worth_44 : decode cX11_worth 44 = .ok (.iload_n 2, 1) := by decide +kernel
theorem dX11_worth_45 : decode cX11_worth 45 = .ok (.iconst 1, 1) := by decide +kernel
theorem dX11_worth_46 : decode cX11_worth 46 = .ok (.if_icmp .lt 9, 3) := by decide +kernel
theorem dX11_worth_49 : decode cX11_worth 49 = .ok (.iload_n 2, 1) := by decide +kernel
theorem dX11_worth_50 : decode cX11_worth 50 = .ok (.bipush 60, 2) := by decide +kernel
theorem dX11_worth_52 : decode cX11_worth 52 = .ok (.if_icmp .le 5, 3) := by decide +kernel
theorem dX11_worth_55 : decode cX11_worth 55 = .ok (.iconst (-1), 1) := by decide +kernel
theorem dX11_worth_56 : decode cX11_worth 56 = .ok (.ireturn, 1) := by decide +kernel
theorem dX11_worth_57 : decode cX11_worth 57 = .ok (.iload_n 2, 1) := by decide +kernel
theorem dX11_worth_58 : decode cX11_worth 58 = .ok (.sipush 400, 3) := by decide +kernel
theorem dX11_worth_61 : decode cX11_worth 61 = .ok (.aload 4, 2) := by decide +kernel
theorem dX11_worth_63 : decode cX11_worth 63 = .ok (.getfield 206, 3) := by decide +kernel
theorem dX11_worth_66 : decode cX11_worth 66 = .ok (.isub, 1) := by decide +kernel
theorem dX11_worth_67 : decode cX11_worth 67 = .ok (.invokestatic 263, 3) := by decide +kernel
theorem dX11_worth_70 : decode cX11_worth 70 = .ok (.istore 6, 2) := by decide +kernel
theorem dX11_worth_72 : decode cX11_worth 72 = .ok (.iconst 0, 1) := by decide +kernel
theorem dX11_worth_73 : decode cX11_worth 73 = .ok (.istore 7, 2) := by decide +kernel
theorem dX11_worth_75 : decode cX11_worth 75 = .ok (.iconst 0, 1) := by decide +kernel
theorem dX11_worth_76 : decode cX11_worth 76 = .ok (.istore 8, 2) := by decide +kernel
theorem dX11_worth_78 : decode cX11_worth 78 = .ok (.iload 8, 2) := by decide +kernel
theorem dX11_worth_80 : decode cX11_worth 80 = .ok (.iload 6, 2) := by decide +kernel
theorem dX11_worth_82 : decode cX11_worth 82 = .ok (.if_icmp .ge 48, 3) := by decide +kernel
theorem dX11_worth_85 : decode cX11_worth 85 = .ok (.aload 4, 2) := by decide +kernel
theorem dX11_worth_87 : decode cX11_worth 87 = .ok (.aload_n 3, 1) := by decide +kernel
theorem dX11_worth_88 : decode cX11_worth 88 = .ok (.iload 5, 2) := by decide +kernel
theorem dX11_worth_90 : decode cX11_worth 90 = .ok (.iload_n 1, 1) := by decide +kernel
theorem dX11_worth_91 : decode cX11_worth 91 = .ok (.iload 8, 2) := by decide +kernel
theorem dX11_worth_93 : decode cX11_worth 93 = .ok (.invokevirtual 186, 3) := by decide +kernel
theorem dX11_worth_96 : decode cX11_worth 96 = .ok (.istore 9, 2) := by decide +kernel
theorem dX11_worth_98 : decode cX11_worth 98 = .ok (.iload 9, 2) := by decide +kernel
theorem dX11_worth_100 : decode cX11_worth 100 = .ok (.iconst (-1), 1) := by decide +kernel
theorem dX11_worth_101 : decode cX11_worth 101 = .ok (.if_icmp .eq 23, 3) := by decide +kernel
theorem dX11_worth_104 : decode cX11_worth 104 = .ok (.aload_n 3, 1) := by decide +kernel
theorem dX11_worth_105 : decode cX11_worth 105 = .ok (.iload_n 1, 1) := by decide +kernel
theorem dX11_worth_106 : decode cX11_worth 106 = .ok (.aload 4, 2) := by decide +kernel
theorem dX11_worth_108 : decode cX11_worth 108 = .ok (.aload_n 3, 1) := by decide +kernel
theorem dX11_worth_109 : decode cX11_worth 109 = .ok (.iload 9, 2) := by decide +kernel
theorem dX11_worth_111 : decode cX11_worth 111 = .ok (.invokevirtual 295, 3) := by decide +kernel
theorem dX11_worth_114 : decode cX11_worth 114 = .ok (.invokevirtual 291, 3) := by decide +kernel
theorem dX11_worth_117 : decode cX11_worth 117 = .ok (.iconst 5, 1) := by decide +kernel
theorem dX11_worth_118 : decode cX11_worth 118 = .ok (.if_icmp .lt 6, 3) := by decide +kernel
theorem dX11_worth_121 : decode cX11_worth 121 = .ok (.iinc 7 1, 3) := by decide +kernel
theorem dX11_worth_124 : decode cX11_worth 124 = .ok (.iinc 8 1, 3) := by decide +kernel
theorem dX11_worth_127 : decode cX11_worth 127 = .ok (.goto (-49), 3) := by decide +kernel
theorem dX11_worth_130 : decode cX11_worth 130 = .ok (.iload 7, 2) := by decide +kernel
theorem dX11_worth_132 : decode cX11_worth 132 = .ok (.ireturn, 1) := by decide +kernel
theorem dX11_spots_0 : decode cX11_spots 0 = .ok (.aload_n 0, 1) := by decide +kernel
theorem dX11_spots_1 : decode cX11_spots 1 = .ok (.getfield 76, 3) := by decide +kernel
theorem dX11_spots_4 : decode cX11_spots 4 = .ok (.aload_n 0, 1) := by decide +kernel
theorem dX11_spots_5 : decode cX11_spots 5 = .ok (.getfield 14, 3) := by decide +kernel
theorem dX11_spots_8 : decode cX11_spots 8 = .ok (.aload_n 0, 1) := by decide +kernel
theorem dX11_spots_9 : decode cX11_spots 9 = .ok (.getfield 30, 3) := by decide +kernel
theorem dX11_spots_12 : decode cX11_spots 12 = .ok (.getfield 144, 3) := by decide +kernel
theorem dX11_spots_15 : decode cX11_spots 15 = .ok (.aload_n 0, 1) := by decide +kernel
theorem dX11_spots_16 : decode cX11_spots 16 = .ok (.getfield 30, 3) := by decide +kernel
theorem dX11_spots_19 : decode cX11_spots 19 = .ok (.getfield 147, 3) := by decide +kernel
theorem dX11_spots_22 : decode cX11_spots 22 = .ok (.invokevirtual 299, 3) := by decide +kernel
theorem dX11_spots_25 : decode cX11_spots 25 = .ok (.istore_n 1, 1) := by decide +kernel
theorem dX11_spots_26 : decode cX11_spots 26 = .ok (.aload_n 0, 1) := by decide +kernel
theorem dX11_spots_27 : decode cX11_spots 27 = .ok (.getfield 14, 3) := by decide +kernel
theorem dX11_spots_30 : decode cX11_spots 30 = .ok (.iconst 0, 1) := by decide +kernel
theorem dX11_spots_31 : decode cX11_spots 31 = .ok (.putfield 113, 3) := by decide +kernel
theorem dX11_spots_34 : decode cX11_spots 34 = .ok (.iload_n 1, 1) := by decide +kernel
theorem dX11_spots_35 : decode cX11_spots 35 = .ok (.ireturn, 1) := by decide +kernel
theorem dX11_spotAt_0 : decode cX11_spotAt 0 = .ok (.iload_n 1, 1) := by decide +kernel
theorem dX11_spotAt_1 : decode cX11_spotAt 1 = .ok (.ifCond .lt 26, 3) := by decide +kernel
theorem dX11_spotAt_4 : decode cX11_spotAt 4 = .ok (.iload_n 1, 1) := by decide +kernel
theorem dX11_spotAt_5 : decode cX11_spotAt 5 = .ok (.aload_n 0, 1) := by decide +kernel
theorem dX11_spotAt_6 : decode cX11_spotAt 6 = .ok (.getfield 76, 3) := by decide +kernel
theorem dX11_spotAt_9 : decode cX11_spotAt 9 = .ok (.getfield 303, 3) := by decide +kernel
theorem dX11_spotAt_12 : decode cX11_spotAt 12 = .ok (.if_icmp .ge 15, 3) := by decide +kernel
theorem dX11_spotAt_15 : decode cX11_spotAt 15 = .ok (.aload_n 0, 1) := by decide +kernel
theorem dX11_spotAt_16 : decode cX11_spotAt 16 = .ok (.getfield 76, 3) := by decide +kernel
theorem dX11_spotAt_19 : decode cX11_spotAt 19 = .ok (.getfield 306, 3) := by decide +kernel
theorem dX11_spotAt_22 : decode cX11_spotAt 22 = .ok (.iload_n 1, 1) := by decide +kernel
theorem dX11_spotAt_23 : decode cX11_spotAt 23 = .ok (.iaload, 1) := by decide +kernel
theorem dX11_spotAt_24 : decode cX11_spotAt 24 = .ok (.goto 4, 3) := by decide +kernel
theorem dX11_spotAt_27 : decode cX11_spotAt 27 = .ok (.iconst (-1), 1) := by decide +kernel
theorem dX11_spotAt_28 : decode cX11_spotAt 28 = .ok (.ireturn, 1) := by decide +kernel
theorem dX11_next_0 : decode cX11_next 0 = .ok (.aload_n 0, 1) := by decide +kernel
theorem dX11_next_1 : decode cX11_next 1 = .ok (.getfield 76, 3) := by decide +kernel
theorem dX11_next_4 : decode cX11_next 4 = .ok (.getfield 309, 3) := by decide +kernel
theorem dX11_next_7 : decode cX11_next 7 = .ok (.ireturn, 1) := by decide +kernel
theorem dX11_keen_0 : decode cX11_keen 0 = .ok (.aload_n 0, 1) := by decide +kernel
theorem dX11_keen_1 : decode cX11_keen 1 = .ok (.getfield 14, 3) := by decide +kernel
theorem dX11_keen_4 : decode cX11_keen 4 = .ok (.getfield 113, 3) := by decide +kernel
theorem dX11_keen_7 : decode cX11_keen 7 = .ok (.istore_n 1, 1) := by decide +kernel
theorem dX11_keen_8 : decode cX11_keen 8 = .ok (.aload_n 0, 1) := by decide +kernel
theorem dX11_keen_9 : decode cX11_keen 9 = .ok (.getfield 14, 3) := by decide +kernel
theorem dX11_keen_12 : decode cX11_keen 12 = .ok (.iconst 0, 1) := by decide +kernel
theorem dX11_keen_13 : decode cX11_keen 13 = .ok (.putfield 113, 3) := by decide +kernel
theorem dX11_keen_16 : decode cX11_keen 16 = .ok (.iload_n 1, 1) := by decide +kernel
theorem dX11_keen_17 : decode cX11_keen 17 = .ok (.iconst 3, 1) := by decide +kernel
theorem dX11_keen_18 : decode cX11_keen 18 = .ok (.if_icmp .lt 15, 3) := by decide +kernel
theorem dX11_keen_21 : decode cX11_keen 21 = .ok (.iload_n 1, 1) := by decide +kernel
theorem dX11_keen_22 : decode cX11_keen 22 = .ok (.bipush 18, 2) := by decide +kernel
theorem dX11_keen_24 : decode cX11_keen 24 = .ok (.if_icmp .gt 9, 3) := by decide +kernel
theorem dX11_keen_27 : decode cX11_keen 27 = .ok (.iload_n 1, 1) := by decide +kernel
theorem dX11_keen_28 : decode cX11_keen 28 = .ok (.iconst 3, 1) := by decide +kernel
theorem dX11_keen_29 : decode cX11_keen 29 = .ok (.irem, 1) := by decide +kernel
theorem dX11_keen_30 : decode cX11_keen 30 = .ok (.ifCond .eq 5, 3) := by decide +kernel
theorem dX11_keen_33 : decode cX11_keen 33 = .ok (.iconst (-1), 1) := by decide +kernel
theorem dX11_keen_34 : decode cX11_keen 34 = .ok (.ireturn, 1) := by decide +kernel
theorem dX11_keen_35 : decode cX11_keen 35 = .ok (.iconst 1, 1) := by decide +kernel
theorem dX11_keen_36 : decode cX11_keen 36 = .ok (.istore_n 2, 1) := by decide +kernel
theorem dX11_keen_37 : decode cX11_keen 37 = .ok (.bipush 20, 2) := by decide +kernel
theorem dX11_keen_39 : decode cX11_keen 39 = .ok (.istore_n 3, 1) := by decide +kernel
theorem dX11_keen_40 : decode cX11_keen 40 = .ok (.iconst 0, 1) := by decide +kernel
theorem dX11_keen_41 : decode cX11_keen 41 = .ok (.istore 4, 2) := by decide +kernel
theorem dX11_keen_43 : decode cX11_keen 43 = .ok (.iload 4, 2) := by decide +kernel
theorem dX11_keen_45 : decode cX11_keen 45 = .ok (.iconst 2, 1) := by decide +kernel
theorem dX11_keen_46 : decode cX11_keen 46 = .ok (.iadd, 1) := by decide +kernel
theorem dX11_keen_47 : decode cX11_keen 47 = .ok (.iload_n 1, 1) := by decide +kernel
theorem dX11_keen_48 : decode cX11_keen 48 = .ok (.if_icmp .ge 78, 3) := by decide +kernel
theorem dX11_keen_51 : decode cX11_keen 51 = .ok (.aload_n 0, 1) := by decide +kernel
theorem dX11_keen_52 : decode cX11_keen 52 = .ok (.getfield 14, 3) := by decide +kernel
theorem dX11_keen_55 : decode cX11_keen 55 = .ok (.iload 4, 2) := by decide +kernel
theorem dX11_keen_57 : decode cX11_keen 57 = .ok (.invokevirtual 312, 3) := by decide +kernel
theorem dX11_keen_60 : decode cX11_keen 60 = .ok (.aload_n 0, 1) := by decide +kernel
theorem dX11_keen_61 : decode cX11_keen 61 = .ok (.getfield 14, 3) := by decide +kernel
theorem dX11_keen_64 : decode cX11_keen 64 = .ok (.iload 4, 2) := by decide +kernel
theorem dX11_keen_66 : decode cX11_keen 66 = .ok (.iconst 1, 1) := by decide +kernel
theorem dX11_keen_67 : decode cX11_keen 67 = .ok (.iadd, 1) := by decide +kernel
theorem dX11_keen_68 : decode cX11_keen 68 = .ok (.invokevirtual 312, 3) := by decide +kernel
theorem dX11_keen_71 : decode cX11_keen 71 = .ok (.isub, 1) := by decide +kernel
theorem dX11_keen_72 : decode cX11_keen 72 = .ok (.istore 5, 2) := by decide +kernel
theorem dX11_keen_74 : decode cX11_keen 74 = .ok (.aload_n 0, 1) := by decide +kernel
theorem dX11_keen_75 : decode cX11_keen 75 = .ok (.getfield 14, 3) := by decide +kernel
theorem dX11_keen_78 : decode cX11_keen 78 = .ok (.iload 4, 2) := by decide +kernel
theorem dX11_keen_80 : decode cX11_keen 80 = .ok (.iconst 2, 1) := by decide +kernel
theorem dX11_keen_81 : decode cX11_keen 81 = .ok (.iadd, 1) := by decide +kernel
theorem dX11_keen_82 : decode cX11_keen 82 = .ok (.invokevirtual 312, 3) := by decide +kernel
theorem dX11_keen_85 : decode cX11_keen 85 = .ok (.istore 6, 2) := by decide +kernel
theorem dX11_keen_87 : decode cX11_keen 87 = .ok (.iload 6, 2) := by decide +kernel
theorem dX11_keen_89 : decode cX11_keen 89 = .ok (.iconst 1, 1) := by decide +kernel
theorem dX11_keen_90 : decode cX11_keen 90 = .ok (.if_icmp .le 5, 3) := by decide +kernel
theorem dX11_keen_93 : decode cX11_keen 93 = .ok (.iconst (-1), 1) := by decide +kernel
theorem dX11_keen_94 : decode cX11_keen 94 = .ok (.ireturn, 1) := by decide +kernel
theorem dX11_keen_95 : decode cX11_keen 95 = .ok (.iload 6, 2) := by decide +kernel
theorem dX11_keen_97 : decode cX11_keen 97 = .ok (.iconst 1, 1) := by decide +kernel
theorem dX11_keen_98 : decode cX11_keen 98 = .ok (.if_icmp .ne 13, 3) := by decide +kernel
theorem dX11_keen_101 : decode cX11_keen 101 = .ok (.iload_n 3, 1) := by decide +kernel
theorem dX11_keen_102 : decode cX11_keen 102 = .ok (.iload 5, 2) := by decide +kernel
theorem dX11_keen_104 : decode cX11_keen 104 = .ok (.invokestatic 263, 3) := by decide +kernel
theorem dX11_keen_107 : decode cX11_keen 107 = .ok (.istore_n 3, 1) := by decide +kernel
theorem dX11_keen_108 : decode cX11_keen 108 = .ok (.goto 12, 3) := by decide +kernel
theorem dX11_keen_111 : decode cX11_keen 111 = .ok (.iload_n 2, 1) := by decide +kernel
theorem dX11_keen_112 : decode cX11_keen 112 = .ok (.iload 5, 2) := by decide +kernel
theorem dX11_keen_114 : decode cX11_keen 114 = .ok (.iconst 1, 1) := by decide +kernel
theorem dX11_keen_115 : decode cX11_keen 115 = .ok (.iadd, 1) := by decide +kernel
theorem dX11_keen_116 : decode cX11_keen 116 = .ok (.invokestatic 315, 3) := by decide +kernel
theorem dX11_keen_119 : decode cX11_keen 119 = .ok (.istore_n 2, 1) := by decide +kernel
theorem dX11_keen_120 : decode cX11_keen 120 = .ok (.iinc 4 3, 3) := by decide +kernel
theorem dX11_keen_123 : decode cX11_keen 123 = .ok (.goto (-80), 3) := by decide +kernel
theorem dX11_keen_126 : decode cX11_keen 126 = .ok (.iload_n 3, 1) := by decide +kernel
theorem dX11_keen_127 : decode cX11_keen 127 = .ok (.iload_n 2, 1) := by decide +kernel
theorem dX11_keen_128 : decode cX11_keen 128 = .ok (.if_icmp .ge 5, 3) := by decide +kernel
theorem dX11_keen_131 : decode cX11_keen 131 = .ok (.iconst 0, 1) := by decide +kernel
theorem dX11_keen_132 : decode cX11_keen 132 = .ok (.ireturn, 1) := by decide +kernel
theorem dX11_keen_133 : decode cX11_keen 133 = .ok (.aload_n 0, 1) := by decide +kernel
theorem dX11_keen_134 : decode cX11_keen 134 = .ok (.iload_n 2, 1) := by decide +kernel
theorem dX11_keen_135 : decode cX11_keen 135 = .ok (.putfield 101, 3) := by decide +kernel
theorem dX11_keen_138 : decode cX11_keen 138 = .ok (.aload_n 0, 1) := by decide +kernel
theorem dX11_keen_139 : decode cX11_keen 139 = .ok (.iload_n 3, 1) := by decide +kernel
theorem dX11_keen_140 : decode cX11_keen 140 = .ok (.putfield 104, 3) := by decide +kernel
theorem dX11_keen_143 : decode cX11_keen 143 = .ok (.iload_n 3, 1) := by decide +kernel
theorem dX11_keen_144 : decode cX11_keen 144 = .ok (.iload_n 2, 1) := by decide +kernel
theorem dX11_keen_145 : decode cX11_keen 145 = .ok (.isub, 1) := by decide +kernel
theorem dX11_keen_146 : decode cX11_keen 146 = .ok (.iconst 1, 1) := by decide +kernel
theorem dX11_keen_147 : decode cX11_keen 147 = .ok (.iadd, 1) := by decide +kernel
theorem dX11_keen_148 : decode cX11_keen 148 = .ok (.ireturn, 1) := by decide +kernel
theorem dX11_keenLeast_0 : decode cX11_keenLeast 0 = .ok (.aload_n 0, 1) := by decide +kernel
theorem dX11_keenLeast_1 : decode cX11_keenLeast 1 = .ok (.getfield 101, 3) := by decide +kernel
theorem dX11_keenLeast_4 : decode cX11_keenLeast 4 = .ok (.ireturn, 1) := by decide +kernel
theorem dX11_keenMost_0 : decode cX11_keenMost 0 = .ok (.aload_n 0, 1) := by decide +kernel
theorem dX11_keenMost_1 : decode cX11_keenMost 1 = .ok (.getfield 104, 3) := by decide +kernel
theorem dX11_keenMost_4 : decode cX11_keenMost 4 = .ok (.ireturn, 1) := by decide +kernel
theorem dX11_best_0 : decode cX11_best 0 = .ok (.aload_n 0, 1) := by decide +kernel
theorem dX11_best_1 : decode cX11_best 1 = .ok (.getfield 83, 3) := by decide +kernel
theorem dX11_best_4 : decode cX11_best 4 = .ok (.aload_n 0, 1) := by decide +kernel
theorem dX11_best_5 : decode cX11_best 5 = .ok (.getfield 30, 3) := by decide +kernel
theorem dX11_best_8 : decode cX11_best 8 = .ok (.getfield 144, 3) := by decide +kernel
theorem dX11_best_11 : decode cX11_best 11 = .ok (.aload_n 0, 1) := by decide +kernel
theorem dX11_best_12 : decode cX11_best 12 = .ok (.getfield 30, 3) := by decide +kernel
theorem dX11_best_15 : decode cX11_best 15 = .ok (.getfield 147, 3) := by decide +kernel
theorem dX11_best_18 : decode cX11_best 18 = .ok (.invokevirtual 318, 3) := by decide +kernel
theorem dX11_best_21 : decode cX11_best 21 = .ok (.ireturn, 1) := by decide +kernel
theorem dX11_bestAt_0 : decode cX11_bestAt 0 = .ok (.iload_n 1, 1) := by decide +kernel
theorem dX11_bestAt_1 : decode cX11_bestAt 1 = .ok (.ifCond .lt 26, 3) := by decide +kernel
theorem dX11_bestAt_4 : decode cX11_bestAt 4 = .ok (.iload_n 1, 1) := by decide +kernel
theorem dX11_bestAt_5 : decode cX11_bestAt 5 = .ok (.aload_n 0, 1) := by decide +kernel
theorem dX11_bestAt_6 : decode cX11_bestAt 6 = .ok (.getfield 83, 3) := by decide +kernel
theorem dX11_bestAt_9 : decode cX11_bestAt 9 = .ok (.getfield 321, 3) := by decide +kernel
theorem dX11_bestAt_12 : decode cX11_bestAt 12 = .ok (.if_icmp .ge 15, 3) := by decide +kernel
theorem dX11_bestAt_15 : decode cX11_bestAt 15 = .ok (.aload_n 0, 1) := by decide +kernel
theorem dX11_bestAt_16 : decode cX11_bestAt 16 = .ok (.getfield 83, 3) := by decide +kernel
theorem dX11_bestAt_19 : decode cX11_bestAt 19 = .ok (.getfield 322, 3) := by decide +kernel
theorem dX11_bestAt_22 : decode cX11_bestAt 22 = .ok (.iload_n 1, 1) := by decide +kernel
theorem dX11_bestAt_23 : decode cX11_bestAt 23 = .ok (.iaload, 1) := by decide +kernel
theorem dX11_bestAt_24 : decode cX11_bestAt 24 = .ok (.goto 4, 3) := by decide +kernel
theorem dX11_bestAt_27 : decode cX11_bestAt 27 = .ok (.iconst (-1), 1) := by decide +kernel
theorem dX11_bestAt_28 : decode cX11_bestAt 28 = .ok (.ireturn, 1) := by decide +kernel
theorem dX11_code_0 : decode cX11_code 0 = .ok (.aload_n 0, 1) := by decide +kernel
theorem dX11_code_1 : decode cX11_code 1 = .ok (.getfield 14, 3) := by decide +kernel
theorem dX11_code_4 : decode cX11_code 4 = .ok (.getfield 113, 3) := by decide +kernel
theorem dX11_code_7 : decode cX11_code 7 = .ok (.istore_n 2, 1) := by decide +kernel
theorem dX11_code_8 : decode cX11_code 8 = .ok (.aload_n 0, 1) := by decide +kernel
theorem dX11_code_9 : decode cX11_code 9 = .ok (.getfield 14, 3) := by decide +kernel
theorem dX11_code_12 : decode cX11_code 12 = .ok (.iconst 0, 1) := by decide +kernel
theorem dX11_code_13 : decode cX11_code 13 = .ok (.putfield 113, 3) := by decide +kernel
theorem dX11_code_16 : decode cX11_code 16 = .ok (.aload_n 0, 1) := by decide +kernel
theorem dX11_code_17 : decode cX11_code 17 = .ok (.getfield 30, 3) := by decide +kernel
theorem dX11_code_20 : decode cX11_code 20 = .ok (.getfield 144, 3) := by decide +kernel
theorem dX11_code_23 : decode cX11_code 23 = .ok (.iload_n 1, 1) := by decide +kernel
theorem dX11_code_24 : decode cX11_code 24 = .ok (.invokevirtual 175, 3) := by decide +kernel
theorem dX11_code_27 : decode cX11_code 27 = .ok (.ifCond .eq 17, 3) := by decide +kernel
theorem dX11_code_30 : decode cX11_code 30 = .ok (.iload_n 2, 1) := by decide +kernel
theorem dX11_code_31 : decode cX11_code 31 = .ok (.iconst 1, 1) := by decide +kernel
theorem dX11_code_32 : decode cX11_code 32 = .ok (.if_icmp .lt 12, 3) := by decide +kernel
theorem dX11_code_35 : decode cX11_code 35 = .ok (.iload_n 2, 1) := by decide +kernel
theorem dX11_code_36 : decode cX11_code 36 = .ok (.aload_n 0, 1) := by decide +kernel
theorem dX11_code_37 : decode cX11_code 37 = .ok (.getfield 94, 3) := by decide +kernel
theorem dX11_code_40 : decode cX11_code 40 = .ok (.arraylength, 1) := by decide +kernel
theorem dX11_code_41 : decode cX11_code 41 = .ok (.if_icmp .le 5, 3) := by decide +kernel
theorem dX11_code_44 : decode cX11_code 44 = .ok (.iconst (-1), 1) := by decide +kernel
theorem dX11_code_45 : decode cX11_code 45 = .ok (.ireturn, 1) := by decide +kernel
theorem dX11_code_46 : decode cX11_code 46 = .ok (.iconst 0, 1) := by decide +kernel
theorem dX11_code_47 : decode cX11_code 47 = .ok (.istore_n 3, 1) := by decide +kernel
theorem dX11_code_48 : decode cX11_code 48 = .ok (.iload_n 3, 1) := by decide +kernel
theorem dX11_code_49 : decode cX11_code 49 = .ok (.iload_n 2, 1) := by decide +kernel
theorem dX11_code_50 : decode cX11_code 50 = .ok (.if_icmp .ge 23, 3) := by decide +kernel
theorem dX11_code_53 : decode cX11_code 53 = .ok (.aload_n 0, 1) := by decide +kernel
theorem dX11_code_54 : decode cX11_code 54 = .ok (.getfield 14, 3) := by decide +kernel
theorem dX11_code_57 : decode cX11_code 57 = .ok (.iload_n 3, 1) := by decide +kernel
theorem dX11_code_58 : decode cX11_code 58 = .ok (.invokevirtual 312, 3) := by decide +kernel
theorem dX11_code_61 : decode cX11_code 61 = .ok (.iconst 4, 1) := by decide +kernel
theorem dX11_code_62 : decode cX11_code 62 = .ok (.if_icmp .le 5, 3) := by decide +kernel
theorem dX11_code_65 : decode cX11_code 65 = .ok (.iconst (-1), 1) := by decide +kernel
theorem dX11_code_66 : decode cX11_code 66 = .ok (.ireturn, 1) := by decide +kernel
theorem dX11_code_67 : decode cX11_code 67 = .ok (.iinc 3 1, 3) := by decide +kernel
theorem dX11_code_70 : decode cX11_code 70 = .ok (.goto (-22), 3) := by decide +kernel
theorem dX11_code_73 : decode cX11_code 73 = .ok (.iconst 0, 1) := by decide +kernel
theorem dX11_code_74 : decode cX11_code 74 = .ok (.istore_n 3, 1) := by decide +kernel
theorem dX11_code_75 : decode cX11_code 75 = .ok (.iload_n 3, 1) := by decide +kernel
theorem dX11_code_76 : decode cX11_code 76 = .ok (.iload_n 2, 1) := by decide +kernel
theorem dX11_code_77 : decode cX11_code 77 = .ok (.if_icmp .ge 43, 3) := by decide +kernel
theorem dX11_code_80 : decode cX11_code 80 = .ok (.aload_n 0, 1) := by decide +kernel
theorem dX11_code_81 : decode cX11_code 81 = .ok (.getfield 94, 3) := by decide +kernel
theorem dX11_code_84 : decode cX11_code 84 = .ok (.iload_n 3, 1) := by decide +kernel
theorem dX11_code_85 : decode cX11_code 85 = .ok (.aload_n 0, 1) := by decide +kernel
theorem dX11_code_86 : decode cX11_code 86 = .ok (.iload_n 1, 1) := by decide +kernel
theorem dX11_code_87 : decode cX11_code 87 = .ok (.aload_n 0, 1) := by decide +kernel
theorem dX11_code_88 : decode cX11_code 88 = .ok (.getfield 14, 3) := by decide +kernel
theorem dX11_code_91 : decode cX11_code 91 = .ok (.iload_n 3, 1) := by decide +kernel
theorem dX11_code_92 : decode cX11_code 92 = .ok (.invokevirtual 312, 3) := by decide +kernel
theorem dX11_code_95 : decode cX11_code 95 = .ok (.invokevirtual 325, 3) := by decide +kernel
theorem dX11_code_98 : decode cX11_code 98 = .ok (.iastore, 1) := by decide +kernel
theorem dX11_code_99 : decode cX11_code 99 = .ok (.aload_n 0, 1) := by decide +kernel
theorem dX11_code_100 : decode cX11_code 100 = .ok (.getfield 94, 3) := by decide +kernel
theorem dX11_code_103 : decode cX11_code 103 = .ok (.iload_n 3, 1) := by decide +kernel
theorem dX11_code_104 : decode cX11_code 104 = .ok (.iaload, 1) := by decide +kernel
theorem dX11_code_105 : decode cX11_code 105 = .ok (.iconst (-1), 1) := by decide +kernel
theorem dX11_code_106 : decode cX11_code 106 = .ok (.if_icmp .ne 8, 3) := by decide +kernel
theorem dX11_code_109 : decode cX11_code 109 = .ok (.bipush (-2), 2) := by decide +kernel
theorem dX11_code_111 : decode cX11_code 111 = .ok (.iload_n 3, 1) := by decide +kernel
theorem dX11_code_112 : decode cX11_code 112 = .ok (.isub, 1) := by decide +kernel
theorem dX11_code_113 : decode cX11_code 113 = .ok (.ireturn, 1) := by decide +kernel
theorem dX11_code_114 : decode cX11_code 114 = .ok (.iinc 3 1, 3) := by decide +kernel
theorem dX11_code_117 : decode cX11_code 117 = .ok (.goto (-42), 3) := by decide +kernel
theorem dX11_code_120 : decode cX11_code 120 = .ok (.aload_n 0, 1) := by decide +kernel
theorem dX11_code_121 : decode cX11_code 121 = .ok (.getfield 94, 3) := by decide +kernel
theorem dX11_code_124 : decode cX11_code 124 = .ok (.iconst 0, 1) := by decide +kernel
theorem dX11_code_125 : decode cX11_code 125 = .ok (.aload_n 0, 1) := by decide +kernel
theorem dX11_code_126 : decode cX11_code 126 = .ok (.getfield 90, 3) := by decide +kernel
theorem dX11_code_129 : decode cX11_code 129 = .ok (.iconst 0, 1) := by decide +kernel
theorem dX11_code_130 : decode cX11_code 130 = .ok (.iload_n 2, 1) := by decide +kernel
theorem dX11_code_131 : decode cX11_code 131 = .ok (.invokestatic 328, 3) := by decide +kernel
theorem dX11_code_134 : decode cX11_code 134 = .ok (.aload_n 0, 1) := by decide +kernel
theorem dX11_code_135 : decode cX11_code 135 = .ok (.iload_n 2, 1) := by decide +kernel
theorem dX11_code_136 : decode cX11_code 136 = .ok (.putfield 97, 3) := by decide +kernel
theorem dX11_code_139 : decode cX11_code 139 = .ok (.iload_n 2, 1) := by decide +kernel
theorem dX11_code_140 : decode cX11_code 140 = .ok (.ireturn, 1) := by decide +kernel
theorem dX11_codeAt_0 : decode cX11_codeAt 0 = .ok (.iload_n 1, 1) := by decide +kernel
theorem dX11_codeAt_1 : decode cX11_codeAt 1 = .ok (.ifCond .lt 20, 3) := by decide +kernel
theorem dX11_codeAt_4 : decode cX11_codeAt 4 = .ok (.iload_n 1, 1) := by decide +kernel
theorem dX11_codeAt_5 : decode cX11_codeAt 5 = .ok (.aload_n 0, 1) := by decide +kernel
theorem dX11_codeAt_6 : decode cX11_codeAt 6 = .ok (.getfield 97, 3) := by decide +kernel
theorem dX11_codeAt_9 : decode cX11_codeAt 9 = .ok (.if_icmp .ge 12, 3) := by decide +kernel
theorem dX11_codeAt_12 : decode cX11_codeAt 12 = .ok (.aload_n 0, 1) := by decide +kernel
theorem dX11_codeAt_13 : decode cX11_codeAt 13 = .ok (.getfield 90, 3) := by decide +kernel
theorem dX11_codeAt_16 : decode cX11_codeAt 16 = .ok (.iload_n 1, 1) := by decide +kernel
theorem dX11_codeAt_17 : decode cX11_codeAt 17 = .ok (.iaload, 1) := by decide +kernel
theorem dX11_codeAt_18 : decode cX11_codeAt 18 = .ok (.goto 4, 3) := by decide +kernel
theorem dX11_codeAt_21 : decode cX11_codeAt 21 = .ok (.iconst (-1), 1) := by decide +kernel
theorem dX11_codeAt_22 : decode cX11_codeAt 22 = .ok (.ireturn, 1) := by decide +kernel
theorem dX11_soundOnSide_0 : decode cX11_soundOnSide 0 = .ok (.aload_n 0, 1) := by decide +kernel
theorem dX11_soundOnSide_1 : decode cX11_soundOnSide 1 = .ok (.getfield 30, 3) := by decide +kernel
theorem dX11_soundOnSide_4 : decode cX11_soundOnSide 4 = .ok (.getfield 144, 3) := by decide +kernel
theorem dX11_soundOnSide_7 : decode cX11_soundOnSide 7 = .ok (.astore_n 3, 1) := by decide +kernel
theorem dX11_soundOnSide_8 : decode cX11_soundOnSide 8 = .ok (.aload_n 0, 1) := by decide +kernel
theorem dX11_soundOnSide_9 : decode cX11_soundOnSide 9 = .ok (.getfield 30, 3) := by decide +kernel
theorem dX11_soundOnSide_12 : decode cX11_soundOnSide 12 = .ok (.getfield 147, 3) := by decide +kernel
theorem dX11_soundOnSide_15 : decode cX11_soundOnSide 15 = .ok (.getfield 180, 3) := by decide +kernel
theorem dX11_soundOnSide_18 : decode cX11_soundOnSide 18 = .ok (.iload_n 1, 1) := by decide +kernel
theorem dX11_soundOnSide_19 : decode cX11_soundOnSide 19 = .ok (.iaload, 1) := by decide +kernel
theorem dX11_soundOnSide_20 : decode cX11_soundOnSide 20 = .ok (.istore 4, 2) := by decide +kernel
theorem dX11_soundOnSide_22 : decode cX11_soundOnSide 22 = .ok (.iconst 0, 1) := by decide +kernel
theorem dX11_soundOnSide_23 : decode cX11_soundOnSide 23 = .ok (.istore 5, 2) := by decide +kernel
theorem dX11_soundOnSide_25 : decode cX11_soundOnSide 25 = .ok (.iload 5, 2) := by decide +kernel
theorem dX11_soundOnSide_27 : decode cX11_soundOnSide 27 = .ok (.aload_n 3, 1) := by decide +kernel
theorem dX11_soundOnSide_28 : decode cX11_soundOnSide 28 = .ok (.getfield 229, 3) := by decide +kernel
theorem dX11_soundOnSide_31 : decode cX11_soundOnSide 31 = .ok (.if_icmp .ge 30, 3) := by decide +kernel
theorem dX11_soundOnSide_34 : decode cX11_soundOnSide 34 = .ok (.aload_n 3, 1) := by decide +kernel
theorem dX11_soundOnSide_35 : decode cX11_soundOnSide 35 = .ok (.iload_n 1, 1) := by decide +kernel
theorem dX11_soundOnSide_36 : decode cX11_soundOnSide 36 = .ok (.iload 4, 2) := by decide +kernel
theorem dX11_soundOnSide_38 : decode cX11_soundOnSide 38 = .ok (.aload_n 3, 1) := by decide +kernel
theorem dX11_soundOnSide_39 : decode cX11_soundOnSide 39 = .ok (.getfield 197, 3) := by decide +kernel
theorem dX11_soundOnSide_42 : decode cX11_soundOnSide 42 = .ok (.iload 5, 2) := by decide +kernel
theorem dX11_soundOnSide_44 : decode cX11_soundOnSide 44 = .ok (.aaload, 1) := by decide +kernel
theorem dX11_soundOnSide_45 : decode cX11_soundOnSide 45 = .ok (.invokevirtual 334, 3) := by decide +kernel
theorem dX11_soundOnSide_48 : decode cX11_soundOnSide 48 = .ok (.iload_n 2, 1) := by decide +kernel
theorem dX11_soundOnSide_49 : decode cX11_soundOnSide 49 = .ok (.if_icmp .ne 6, 3) := by decide +kernel
theorem dX11_soundOnSide_52 : decode cX11_soundOnSide 52 = .ok (.iload 5, 2) := by decide +kernel
theorem dX11_soundOnSide_54 : decode cX11_soundOnSide 54 = .ok (.ireturn, 1) := by decide +kernel
theorem dX11_soundOnSide_55 : decode cX11_soundOnSide 55 = .ok (.iinc 5 1, 3) := by decide +kernel
theorem dX11_soundOnSide_58 : decode cX11_soundOnSide 58 = .ok (.goto (-33), 3) := by decide +kernel
theorem dX11_soundOnSide_61 : decode cX11_soundOnSide 61 = .ok (.iconst (-1), 1) := by decide +kernel
theorem dX11_soundOnSide_62 : decode cX11_soundOnSide 62 = .ok (.ireturn, 1) := by decide +kernel
theorem dX11_duel_0 : decode cX11_duel 0 = .ok (.aload_n 0, 1) := by decide +kernel
theorem dX11_duel_1 : decode cX11_duel 1 = .ok (.getfield 30, 3) := by decide +kernel
theorem dX11_duel_4 : decode cX11_duel 4 = .ok (.getfield 144, 3) := by decide +kernel
theorem dX11_duel_7 : decode cX11_duel 7 = .ok (.astore 4, 2) := by decide +kernel
theorem dX11_duel_9 : decode cX11_duel 9 = .ok (.aload_n 0, 1) := by decide +kernel
theorem dX11_duel_10 : decode cX11_duel 10 = .ok (.getfield 30, 3) := by decide +kernel
theorem dX11_duel_13 : decode cX11_duel 13 = .ok (.getfield 147, 3) := by decide +kernel
theorem dX11_duel_16 : decode cX11_duel 16 = .ok (.astore 5, 2) := by decide +kernel
theorem dX11_duel_18 : decode cX11_duel 18 = .ok (.aload 4, 2) := by decide +kernel
theorem dX11_duel_20 : decode cX11_duel 20 = .ok (.iload_n 1, 1) := by decide +kernel
theorem dX11_duel_21 : decode cX11_duel 21 = .ok (.invokevirtual 175, 3) := by decide +kernel
theorem dX11_duel_24 : decode cX11_duel 24 = .ok (.ifCond .eq 22, 3) := by decide +kernel
theorem dX11_duel_27 : decode cX11_duel 27 = .ok (.iload_n 2, 1) := by decide +kernel
theorem dX11_duel_28 : decode cX11_duel 28 = .ok (.ifCond .lt 18, 3) := by decide +kernel
theorem dX11_duel_31 : decode cX11_duel 31 = .ok (.iload_n 2, 1) := by decide +kernel
theorem dX11_duel_32 : decode cX11_duel 32 = .ok (.iconst 4, 1) := by decide +kernel
theorem dX11_duel_33 : decode cX11_duel 33 = .ok (.if_icmp .gt 13, 3) := by decide +kernel
theorem dX11_duel_36 : decode cX11_duel 36 = .ok (.iload_n 3, 1) := by decide +kernel
theorem dX11_duel_37 : decode cX11_duel 37 = .ok (.iconst 1, 1) := by decide +kernel
theorem dX11_duel_38 : decode cX11_duel 38 = .ok (.if_icmp .lt 8, 3) := by decide +kernel
theorem dX11_duel_41 : decode cX11_duel 41 = .ok (.iload_n 3, 1) := by decide +kernel
theorem dX11_duel_42 : decode cX11_duel 42 = .ok (.iconst 4, 1) := by decide +kernel
theorem dX11_duel_43 : decode cX11_duel 43 = .ok (.if_icmp .le 5, 3) := by decide +kernel
theorem dX11_duel_46 : decode cX11_duel 46 = .ok (.iconst (-1), 1) := by decide +kernel
theorem dX11_duel_47 : decode cX11_duel 47 = .ok (.ireturn, 1) := by decide +kernel
theorem dX11_duel_48 : decode cX11_duel 48 = .ok (.aload_n 0, 1) := by decide +kernel
theorem dX11_duel_49 : decode cX11_duel 49 = .ok (.iconst (-1), 1) := by decide +kernel
theorem dX11_duel_50 : decode cX11_duel 50 = .ok (.putfield 107, 3) := by decide +kernel
theorem dX11_duel_53 : decode cX11_duel 53 = .ok (.aload 5, 2) := by decide +kernel
theorem dX11_duel_55 : decode cX11_duel 55 = .ok (.aload 4, 2) := by decide +kernel
theorem dX11_duel_57 : decode cX11_duel 57 = .ok (.iload_n 1, 1) := by decide +kernel
theorem dX11_duel_58 : decode cX11_duel 58 = .ok (.aload 5, 2) := by decide +kernel
theorem dX11_duel_60 : decode cX11_duel 60 = .ok (.getfield 180, 3) := by decide +kernel
theorem dX11_duel_63 : decode cX11_duel 63 = .ok (.iload_n 1, 1) := by decide +kernel
theorem dX11_duel_64 : decode cX11_duel 64 = .ok (.iaload, 1) := by decide +kernel
theorem dX11_duel_65 : decode cX11_duel 65 = .ok (.invokevirtual 286, 3) := by decide +kernel
theorem dX11_duel_68 : decode cX11_duel 68 = .ok (.istore 6, 2) := by decide +kernel
theorem dX11_duel_70 : decode cX11_duel 70 = .ok (.iconst 1, 1) := by decide +kernel
theorem dX11_duel_71 : decode cX11_duel 71 = .ok (.aload 4, 2) := by decide +kernel
theorem dX11_duel_73 : decode cX11_duel 73 = .ok (.getfield 229, 3) := by decide +kernel
theorem dX11_duel_76 : decode cX11_duel 76 = .ok (.ishl, 1) := by decide +kernel
theorem dX11_duel_77 : decode cX11_duel 77 = .ok (.iconst 1, 1) := by decide +kernel
theorem dX11_duel_78 : decode cX11_duel 78 = .ok (.isub, 1) := by decide +kernel
theorem dX11_duel_79 : decode cX11_duel 79 = .ok (.aload 5, 2) := by decide +kernel
theorem dX11_duel_81 : decode cX11_duel 81 = .ok (.getfield 203, 3) := by decide +kernel
theorem dX11_duel_84 : decode cX11_duel 84 = .ok (.iconst (-1), 1) := by decide +kernel
theorem dX11_duel_85 : decode cX11_duel 85 = .ok (.ixor, 1) := by decide +kernel
theorem dX11_duel_86 : decode cX11_duel 86 = .ok (.iand, 1) := by decide +kernel
theorem dX11_duel_87 : decode cX11_duel 87 = .ok (.istore 7, 2) := by decide +kernel
theorem dX11_duel_89 : decode cX11_duel 89 = .ok (.aload_n 0, 1) := by decide +kernel
theorem dX11_duel_90 : decode cX11_duel 90 = .ok (.getfield 30, 3) := by decide +kernel
theorem dX11_duel_93 : decode cX11_duel 93 = .ok (.iload_n 1, 1) := by decide +kernel
theorem dX11_duel_94 : decode cX11_duel 94 = .ok (.iload_n 2, 1) := by decide +kernel
theorem dX11_duel_95 : decode cX11_duel 95 = .ok (.iload_n 3, 1) := by decide +kernel
theorem dX11_duel_96 : decode cX11_duel 96 = .ok (.iconst 1, 1) := by decide +kernel
theorem dX11_duel_97 : decode cX11_duel 97 = .ok (.isub, 1) := by decide +kernel
theorem dX11_duel_98 : decode cX11_duel 98 = .ok (.iload 6, 2) := by decide +kernel
theorem dX11_duel_100 : decode cX11_duel 100 = .ok (.iload 7, 2) := by decide +kernel
theorem dX11_duel_102 : decode cX11_duel 102 = .ok (.iconst 0, 1) := by decide +kernel
theorem dX11_duel_103 : decode cX11_duel 103 = .ok (.invokestatic 338, 3) := by decide +kernel
theorem dX11_duel_106 : decode cX11_duel 106 = .ok (.ifCond .eq 5, 3) := by decide +kernel
theorem dX11_duel_109 : decode cX11_duel 109 = .ok (.iconst 1, 1) := by decide +kernel
theorem dX11_duel_110 : decode cX11_duel 110 = .ok (.ireturn, 1) := by decide +kernel
theorem dX11_duel_111 : decode cX11_duel 111 = .ok (.iconst 0, 1) := by decide +kernel
theorem dX11_duel_112 : decode cX11_duel 112 = .ok (.istore 8, 2) := by decide +kernel
theorem dX11_duel_114 : decode cX11_duel 114 = .ok (.iload 8, 2) := by decide +kernel
theorem dX11_duel_116 : decode cX11_duel 116 = .ok (.aload 4, 2) := by decide +kernel
theorem dX11_duel_118 : decode cX11_duel 118 = .ok (.getfield 229, 3) := by decide +kernel
theorem dX11_duel_121 : decode cX11_duel 121 = .ok (.if_icmp .ge 62, 3) := by decide +kernel
theorem dX11_duel_124 : decode cX11_duel 124 = .ok (.iconst 1, 1) := by decide +kernel
theorem dX11_duel_125 : decode cX11_duel 125 = .ok (.iload 8, 2) := by decide +kernel
theorem dX11_duel_127 : decode cX11_duel 127 = .ok (.ishl, 1) := by decide +kernel
theorem dX11_duel_128 : decode cX11_duel 128 = .ok (.iconst (-1), 1) := by decide +kernel
theorem dX11_duel_129 : decode cX11_duel 129 = .ok (.ixor, 1) := by decide +kernel
theorem dX11_duel_130 : decode cX11_duel 130 = .ok (.istore 9, 2) := by decide +kernel
theorem dX11_duel_132 : decode cX11_duel 132 = .ok (.iload 7, 2) := by decide +kernel
theorem dX11_duel_134 : decode cX11_duel 134 = .ok (.iload 8, 2) := by decide +kernel
theorem dX11_duel_136 : decode cX11_duel 136 = .ok (.ishr, 1) := by decide +kernel
theorem dX11_duel_137 : decode cX11_duel 137 = .ok (.iconst 1, 1) := by decide +kernel
theorem dX11_duel_138 : decode cX11_duel 138 = .ok (.iand, 1) := by decide +kernel
theorem dX11_duel_139 : decode cX11_duel 139 = .ok (.iconst 1, 1) := by decide +kernel
theorem dX11_duel_140 : decode cX11_duel 140 = .ok (.if_icmp .ne 37, 3) := by decide +kernel
theorem dX11_duel_143 : decode cX11_duel 143 = .ok (.aload_n 0, 1) := by decide +kernel
theorem dX11_duel_144 : decode cX11_duel 144 = .ok (.getfield 30, 3) := by decide +kernel
theorem dX11_duel_147 : decode cX11_duel 147 = .ok (.iload_n 1, 1) := by decide +kernel
theorem dX11_duel_148 : decode cX11_duel 148 = .ok (.iload_n 2, 1) := by decide +kernel
theorem dX11_duel_149 : decode cX11_duel 149 = .ok (.iload_n 3, 1) := by decide +kernel
theorem dX11_duel_150 : decode cX11_duel 150 = .ok (.iconst 1, 1) := by decide +kernel
theorem dX11_duel_151 : decode cX11_duel 151 = .ok (.isub, 1) := by decide +kernel
theorem dX11_duel_152 : decode cX11_duel 152 = .ok (.iload 6, 2) := by decide +kernel
theorem dX11_duel_154 : decode cX11_duel 154 = .ok (.iload 9, 2) := by decide +kernel
theorem dX11_duel_156 : decode cX11_duel 156 = .ok (.iand, 1) := by decide +kernel
theorem dX11_duel_157 : decode cX11_duel 157 = .ok (.iload 7, 2) := by decide +kernel
theorem dX11_duel_159 : decode cX11_duel 159 = .ok (.iload 9, 2) := by decide +kernel
theorem dX11_duel_161 : decode cX11_duel 161 = .ok (.iand, 1) := by decide +kernel
theorem dX11_duel_162 : decode cX11_duel 162 = .ok (.iconst 0, 1) := by decide +kernel
theorem dX11_duel_163 : decode cX11_duel 163 = .ok (.invokestatic 338, 3) := by decide +kernel
theorem dX11_duel_166 : decode cX11_duel 166 = .ok (.ifCond .eq 11, 3) := by decide +kernel
theorem dX11_duel_169 : decode cX11_duel 169 = .ok (.aload_n 0, 1) := by decide +kernel
theorem dX11_duel_170 : decode cX11_duel 170 = .ok (.iload 8, 2) := by decide +kernel
theorem dX11_duel_172 : decode cX11_duel 172 = .ok (.putfield 107, 3) := by decide +kernel
theorem dX11_duel_175 : decode cX11_duel 175 = .ok (.iconst 1, 1) := by decide +kernel
theorem dX11_duel_176 : decode cX11_duel 176 = .ok (.ireturn, 1) := by decide +kernel
theorem dX11_duel_177 : decode cX11_duel 177 = .ok (.iinc 8 1, 3) := by decide +kernel
theorem dX11_duel_180 : decode cX11_duel 180 = .ok (.goto (-66), 3) := by decide +kernel
theorem dX11_duel_183 : decode cX11_duel 183 = .ok (.iconst 0, 1) := by decide +kernel
theorem dX11_duel_184 : decode cX11_duel 184 = .ok (.ireturn, 1) := by decide +kernel
theorem dX11_endsOn_0 : decode cX11_endsOn 0 = .ok (.aload_n 0, 1) := by decide +kernel
theorem dX11_endsOn_1 : decode cX11_endsOn 1 = .ok (.getfield 144, 3) := by decide +kernel
theorem dX11_endsOn_4 : decode cX11_endsOn 4 = .ok (.astore 7, 2) := by decide +kernel
theorem dX11_endsOn_6 : decode cX11_endsOn 6 = .ok (.iload_n 3, 1) := by decide +kernel
theorem dX11_endsOn_7 : decode cX11_endsOn 7 = .ok (.ifCond .gt 48, 3) := by decide +kernel
theorem dX11_endsOn_10 : decode cX11_endsOn 10 = .ok (.aload_n 0, 1) := by decide +kernel
theorem dX11_endsOn_11 : decode cX11_endsOn 11 = .ok (.getfield 147, 3) := by decide +kernel
theorem dX11_endsOn_14 : decode cX11_endsOn 14 = .ok (.getfield 180, 3) := by decide +kernel
theorem dX11_endsOn_17 : decode cX11_endsOn 17 = .ok (.iload_n 1, 1) := by decide +kernel
theorem dX11_endsOn_18 : decode cX11_endsOn 18 = .ok (.iaload, 1) := by decide +kernel
theorem dX11_endsOn_19 : decode cX11_endsOn 19 = .ok (.istore 8, 2) := by decide +kernel
theorem dX11_endsOn_21 : decode cX11_endsOn 21 = .ok (.aload_n 0, 1) := by decide +kernel
theorem dX11_endsOn_22 : decode cX11_endsOn 22 = .ok (.getfield 147, 3) := by decide +kernel
theorem dX11_endsOn_25 : decode cX11_endsOn 25 = .ok (.aload 7, 2) := by decide +kernel
theorem dX11_endsOn_27 : decode cX11_endsOn 27 = .ok (.iload 8, 2) := by decide +kernel
theorem dX11_endsOn_29 : decode cX11_endsOn 29 = .ok (.aload_n 0, 1) := by decide +kernel
theorem dX11_endsOn_30 : decode cX11_endsOn 30 = .ok (.getfield 147, 3) := by decide +kernel
theorem dX11_endsOn_33 : decode cX11_endsOn 33 = .ok (.aload 7, 2) := by decide +kernel
theorem dX11_endsOn_35 : decode cX11_endsOn 35 = .ok (.iload 8, 2) := by decide +kernel
theorem dX11_endsOn_37 : decode cX11_endsOn 37 = .ok (.iload 4, 2) := by decide +kernel
theorem dX11_endsOn_39 : decode cX11_endsOn 39 = .ok (.invokevirtual 342, 3) := by decide +kernel
theorem dX11_endsOn_42 : decode cX11_endsOn 42 = .ok (.invokevirtual 190, 3) := by decide +kernel
theorem dX11_endsOn_45 : decode cX11_endsOn 45 = .ok (.iload_n 2, 1) := by decide +kernel
theorem dX11_endsOn_46 : decode cX11_endsOn 46 = .ok (.if_icmp .ne 7, 3) := by decide +kernel
theorem dX11_endsOn_49 : decode cX11_endsOn 49 = .ok (.iconst 1, 1) := by decide +kernel
theorem dX11_endsOn_50 : decode cX11_endsOn 50 = .ok (.goto 4, 3) := by decide +kernel
theorem dX11_endsOn_53 : decode cX11_endsOn 53 = .ok (.iconst 0, 1) := by decide +kernel
theorem dX11_endsOn_54 : decode cX11_endsOn 54 = .ok (.ireturn, 1) := by decide +kernel
theorem dX11_endsOn_55 : decode cX11_endsOn 55 = .ok (.aload_n 0, 1) := by decide +kernel
theorem dX11_endsOn_56 : decode cX11_endsOn 56 = .ok (.iload_n 1, 1) := by decide +kernel
theorem dX11_endsOn_57 : decode cX11_endsOn 57 = .ok (.iload_n 2, 1) := by decide +kernel
theorem dX11_endsOn_58 : decode cX11_endsOn 58 = .ok (.iload_n 3, 1) := by decide +kernel
theorem dX11_endsOn_59 : decode cX11_endsOn 59 = .ok (.iconst 1, 1) := by decide +kernel
theorem dX11_endsOn_60 : decode cX11_endsOn 60 = .ok (.isub, 1) := by decide +kernel
theorem dX11_endsOn_61 : decode cX11_endsOn 61 = .ok (.iload 4, 2) := by decide +kernel
theorem dX11_endsOn_63 : decode cX11_endsOn 63 = .ok (.iload 5, 2) := by decide +kernel
theorem dX11_endsOn_65 : decode cX11_endsOn 65 = .ok (.iload 6, 2) := by decide +kernel
theorem dX11_endsOn_67 : decode cX11_endsOn 67 = .ok (.ifCond .ne 7, 3) := by decide +kernel
theorem dX11_endsOn_70 : decode cX11_endsOn 70 = .ok (.iconst 1, 1) := by decide +kernel
theorem dX11_endsOn_71 : decode cX11_endsOn 71 = .ok (.goto 4, 3) := by decide +kernel
theorem dX11_endsOn_74 : decode cX11_endsOn 74 = .ok (.iconst 0, 1) := by decide +kernel
theorem dX11_endsOn_75 : decode cX11_endsOn 75 = .ok (.invokestatic 338, 3) := by decide +kernel
theorem dX11_endsOn_78 : decode cX11_endsOn 78 = .ok (.iload 6, 2) := by decide +kernel
theorem dX11_endsOn_80 : decode cX11_endsOn 80 = .ok (.if_icmp .ne 6, 3) := by decide +kernel
theorem dX11_endsOn_83 : decode cX11_endsOn 83 = .ok (.iload 6, 2) := by decide +kernel
theorem dX11_endsOn_85 : decode cX11_endsOn 85 = .ok (.ireturn, 1) := by decide +kernel
theorem dX11_endsOn_86 : decode cX11_endsOn 86 = .ok (.iconst 0, 1) := by decide +kernel
theorem dX11_endsOn_87 : decode cX11_endsOn 87 = .ok (.istore 8, 2) := by decide +kernel
theorem dX11_endsOn_89 : decode cX11_endsOn 89 = .ok (.iload 8, 2) := by decide +kernel
theorem dX11_endsOn_91 : decode cX11_endsOn 91 = .ok (.aload 7, 2) := by decide +kernel
theorem dX11_endsOn_93 : decode cX11_endsOn 93 = .ok (.getfield 229, 3) := by decide +kernel
theorem dX11_endsOn_96 : decode cX11_endsOn 96 = .ok (.if_icmp .ge 65, 3) := by decide +kernel
theorem dX11_endsOn_99 : decode cX11_endsOn 99 = .ok (.iconst 1, 1) := by decide +kernel
theorem dX11_endsOn_100 : decode cX11_endsOn 100 = .ok (.iload 8, 2) := by decide +kernel
theorem dX11_endsOn_102 : decode cX11_endsOn 102 = .ok (.ishl, 1) := by decide +kernel
theorem dX11_endsOn_103 : decode cX11_endsOn 103 = .ok (.iconst (-1), 1) := by decide +kernel
theorem dX11_endsOn_104 : decode cX11_endsOn 104 = .ok (.ixor, 1) := by decide +kernel
theorem dX11_endsOn_105 : decode cX11_endsOn 105 = .ok (.istore 9, 2) := by decide +kernel
theorem dX11_endsOn_107 : decode cX11_endsOn 107 = .ok (.iload 5, 2) := by decide +kernel
theorem dX11_endsOn_109 : decode cX11_endsOn 109 = .ok (.iload 8, 2) := by decide +kernel
theorem dX11_endsOn_111 : decode cX11_endsOn 111 = .ok (.ishr, 1) := by decide +kernel
theorem dX11_endsOn_112 : decode cX11_endsOn 112 = .ok (.iconst 1, 1) := by decide +kernel
theorem dX11_endsOn_113 : decode cX11_endsOn 113 = .ok (.iand, 1) := by decide +kernel
theorem dX11_endsOn_114 : decode cX11_endsOn 114 = .ok (.iconst 1, 1) := by decide +kernel
theorem dX11_endsOn_115 : decode cX11_endsOn 115 = .ok (.if_icmp .ne 40, 3) := by decide +kernel
theorem dX11_endsOn_118 : decode cX11_endsOn 118 = .ok (.aload_n 0, 1) := by decide +kernel
theorem dX11_endsOn_119 : decode cX11_endsOn 119 = .ok (.iload_n 1, 1) := by decide +kernel
theorem dX11_endsOn_120 : decode cX11_endsOn 120 = .ok (.iload_n 2, 1) := by decide +kernel
theorem dX11_endsOn_121 : decode cX11_endsOn 121 = .ok (.iload_n 3, 1) := by decide +kernel
theorem dX11_endsOn_122 : decode cX11_endsOn 122 = .ok (.iconst 1, 1) := by decide +kernel
theorem dX11_endsOn_123 : decode cX11_endsOn 123 = .ok (.isub, 1) := by decide +kernel
theorem dX11_endsOn_124 : decode cX11_endsOn 124 = .ok (.iload 4, 2) := by decide +kernel
theorem dX11_endsOn_126 : decode cX11_endsOn 126 = .ok (.iload 9, 2) := by decide +kernel
theorem dX11_endsOn_128 : decode cX11_endsOn 128 = .ok (.iand, 1) := by decide +kernel
theorem dX11_endsOn_129 : decode cX11_endsOn 129 = .ok (.iload 5, 2) := by decide +kernel
theorem dX11_endsOn_131 : decode cX11_endsOn 131 = .ok (.iload 9, 2) := by decide +kernel
theorem dX11_endsOn_133 : decode cX11_endsOn 133 = .ok (.iand, 1) := by decide +kernel
theorem dX11_endsOn_134 : decode cX11_endsOn 134 = .ok (.iload 6, 2) := by decide +kernel
theorem dX11_endsOn_136 : decode cX11_endsOn 136 = .ok (.ifCond .ne 7, 3) := by decide +kernel
theorem dX11_endsOn_139 : decode cX11_endsOn 139 = .ok (.iconst 1, 1) := by decide +kernel
theorem dX11_endsOn_140 : decode cX11_endsOn 140 = .ok (.goto 4, 3) := by decide +kernel
theorem dX11_endsOn_143 : decode cX11_endsOn 143 = .ok (.iconst 0, 1) := by decide +kernel
theorem dX11_endsOn_144 : decode cX11_endsOn 144 = .ok (.invokestatic 338, 3) := by decide +kernel
theorem dX11_endsOn_147 : decode cX11_endsOn 147 = .ok (.iload 6, 2) := by decide +kernel
theorem dX11_endsOn_149 : decode cX11_endsOn 149 = .ok (.if_icmp .ne 6, 3) := by decide +kernel
theorem dX11_endsOn_152 : decode cX11_endsOn 152 = .ok (.iload 6, 2) := by decide +kernel
theorem dX11_endsOn_154 : decode cX11_endsOn 154 = .ok (.ireturn, 1) := by decide +kernel
theorem dX11_endsOn_155 : decode cX11_endsOn 155 = .ok (.iinc 8 1, 3) := by decide +kernel
theorem dX11_endsOn_158 : decode cX11_endsOn 158 = .ok (.goto (-69), 3) := by decide +kernel
theorem dX11_endsOn_161 : decode cX11_endsOn 161 = .ok (.iload 6, 2) := by decide +kernel
theorem dX11_endsOn_163 : decode cX11_endsOn 163 = .ok (.ifCond .ne 7, 3) := by decide +kernel
theorem dX11_endsOn_166 : decode cX11_endsOn 166 = .ok (.iconst 1, 1) := by decide +kernel
theorem dX11_endsOn_167 : decode cX11_endsOn 167 = .ok (.goto 4, 3) := by decide +kernel
theorem dX11_endsOn_170 : decode cX11_endsOn 170 = .ok (.iconst 0, 1) := by decide +kernel
theorem dX11_endsOn_171 : decode cX11_endsOn 171 = .ok (.ireturn, 1) := by decide +kernel
theorem dX11_duelAt_0 : decode cX11_duelAt 0 = .ok (.aload_n 0, 1) := by decide +kernel
theorem dX11_duelAt_1 : decode cX11_duelAt 1 = .ok (.getfield 107, 3) := by decide +kernel
theorem dX11_duelAt_4 : decode cX11_duelAt 4 = .ok (.ireturn, 1) := by decide +kernel
theorem dX11_odds_0 : decode cX11_odds 0 = .ok (.aload_n 0, 1) := by decide +kernel
theorem dX11_odds_1 : decode cX11_odds 1 = .ok (.getfield 30, 3) := by decide +kernel
theorem dX11_odds_4 : decode cX11_odds 4 = .ok (.getfield 144, 3) := by decide +kernel
theorem dX11_odds_7 : decode cX11_odds 7 = .ok (.iload_n 1, 1) := by decide +kernel
theorem dX11_odds_8 : decode cX11_odds 8 = .ok (.invokevirtual 150, 3) := by decide +kernel
theorem dX11_odds_11 : decode cX11_odds 11 = .ok (.ifCond .eq 14, 3) := by decide +kernel
theorem dX11_odds_14 : decode cX11_odds 14 = .ok (.iload_n 2, 1) := by decide +kernel
theorem dX11_odds_15 : decode cX11_odds 15 = .ok (.iconst 1, 1) := by decide +kernel
theorem dX11_odds_16 : decode cX11_odds 16 = .ok (.if_icmp .lt 9, 3) := by decide +kernel
theorem dX11_odds_19 : decode cX11_odds 19 = .ok (.iload_n 2, 1) := by decide +kernel
theorem dX11_odds_20 : decode cX11_odds 20 = .ok (.bipush 30, 2) := by decide +kernel
theorem dX11_odds_22 : decode cX11_odds 22 = .ok (.if_icmp .le 5, 3) := by decide +kernel
theorem dX11_odds_25 : decode cX11_odds 25 = .ok (.iconst (-1), 1) := by decide +kernel
theorem dX11_odds_26 : decode cX11_odds 26 = .ok (.ireturn, 1) := by decide +kernel
theorem dX11_odds_27 : decode cX11_odds 27 = .ok (.bipush 12, 2) := by decide +kernel
theorem dX11_odds_29 : decode cX11_odds 29 = .ok (.sipush 400, 3) := by decide +kernel
theorem dX11_odds_32 : decode cX11_odds 32 = .ok (.aload_n 0, 1) := by decide +kernel
theorem dX11_odds_33 : decode cX11_odds 33 = .ok (.getfield 30, 3) := by decide +kernel
theorem dX11_odds_36 : decode cX11_odds 36 = .ok (.getfield 147, 3) := by decide +kernel
theorem dX11_odds_39 : decode cX11_odds 39 = .ok (.getfield 206, 3) := by decide +kernel
theorem dX11_odds_42 : decode cX11_odds 42 = .ok (.isub, 1) := by decide +kernel
theorem dX11_odds_43 : decode cX11_odds 43 = .ok (.invokestatic 263, 3) := by decide +kernel
theorem dX11_odds_46 : decode cX11_odds 46 = .ok (.istore 4, 2) := by decide +kernel
theorem dX11_odds_48 : decode cX11_odds 48 = .ok (.iconst 0, 1) := by decide +kernel
theorem dX11_odds_49 : decode cX11_odds 49 = .ok (.istore 5, 2) := by decide +kernel
theorem dX11_odds_51 : decode cX11_odds 51 = .ok (.iconst 0, 1) := by decide +kernel
theorem dX11_odds_52 : decode cX11_odds 52 = .ok (.istore 6, 2) := by decide +kernel
theorem dX11_odds_54 : decode cX11_odds 54 = .ok (.iload 6, 2) := by decide +kernel
theorem dX11_odds_56 : decode cX11_odds 56 = .ok (.iload_n 2, 1) := by decide +kernel
theorem dX11_odds_57 : decode cX11_odds 57 = .ok (.if_icmp .ge 70, 3) := by decide +kernel
theorem dX11_odds_60 : decode cX11_odds 60 = .ok (.aload_n 0, 1) := by decide +kernel
theorem dX11_odds_61 : decode cX11_odds 61 = .ok (.getfield 62, 3) := by decide +kernel
theorem dX11_odds_64 : decode cX11_odds 64 = .ok (.aload_n 0, 1) := by decide +kernel
theorem dX11_odds_65 : decode cX11_odds 65 = .ok (.getfield 30, 3) := by decide +kernel
theorem dX11_odds_68 : decode cX11_odds 68 = .ok (.getfield 147, 3) := by decide +kernel
theorem dX11_odds_71 : decode cX11_odds 71 = .ok (.invokevirtual 238, 3) := by decide +kernel
theorem dX11_odds_74 : decode cX11_odds 74 = .ok (.aload_n 0, 1) := by decide +kernel
theorem dX11_odds_75 : decode cX11_odds 75 = .ok (.getfield 62, 3) := by decide +kernel
theorem dX11_odds_78 : decode cX11_odds 78 = .ok (.aload_n 0, 1) := by decide +kernel
theorem dX11_odds_79 : decode cX11_odds 79 = .ok (.getfield 30, 3) := by decide +kernel
theorem dX11_odds_82 : decode cX11_odds 82 = .ok (.getfield 144, 3) := by decide +kernel
theorem dX11_odds_85 : decode cX11_odds 85 = .ok (.iload 4, 2) := by decide +kernel
theorem dX11_odds_87 : decode cX11_odds 87 = .ok (.iload_n 3, 1) := by decide +kernel
theorem dX11_odds_88 : decode cX11_odds 88 = .ok (.iload 6, 2) := by decide +kernel
theorem dX11_odds_90 : decode cX11_odds 90 = .ok (.iadd, 1) := by decide +kernel
theorem dX11_odds_91 : decode cX11_odds 91 = .ok (.invokevirtual 275, 3) := by decide +kernel
theorem dX11_odds_94 : decode cX11_odds 94 = .ok (.aload_n 0, 1) := by decide +kernel
theorem dX11_odds_95 : decode cX11_odds 95 = .ok (.getfield 62, 3) := by decide +kernel
theorem dX11_odds_98 : decode cX11_odds 98 = .ok (.getfield 172, 3) := by decide +kernel
theorem dX11_odds_101 : decode cX11_odds 101 = .ok (.iload_n 1, 1) := by decide +kernel
theorem dX11_odds_102 : decode cX11_odds 102 = .ok (.iaload, 1) := by decide +kernel
theorem dX11_odds_103 : decode cX11_odds 103 = .ok (.aload_n 0, 1) := by decide +kernel
theorem dX11_odds_104 : decode cX11_odds 104 = .ok (.getfield 30, 3) := by decide +kernel
theorem dX11_odds_107 : decode cX11_odds 107 = .ok (.getfield 147, 3) := by decide +kernel
theorem dX11_odds_110 : decode cX11_odds 110 = .ok (.getfield 172, 3) := by decide +kernel
theorem dX11_odds_113 : decode cX11_odds 113 = .ok (.iload_n 1, 1) := by decide +kernel
theorem dX11_odds_114 : decode cX11_odds 114 = .ok (.iaload, 1) := by decide +kernel
theorem dX11_odds_115 : decode cX11_odds 115 = .ok (.if_icmp .ne 6, 3) := by decide +kernel
theorem dX11_odds_118 : decode cX11_odds 118 = .ok (.iinc 5 1, 3) := by decide +kernel
theorem dX11_odds_121 : decode cX11_odds 121 = .ok (.iinc 6 1, 3) := by decide +kernel
theorem dX11_odds_124 : decode cX11_odds 124 = .ok (.goto (-70), 3) := by decide +kernel
theorem dX11_odds_127 : decode cX11_odds 127 = .ok (.iload 5, 2) := by decide +kernel
theorem dX11_odds_129 : decode cX11_odds 129 = .ok (.ireturn, 1) := by decide +kernel
theorem dX11_note_0 : decode cX11_note 0 = .ok (.aload_n 0, 1) := by decide +kernel
theorem dX11_note_1 : decode cX11_note 1 = .ok (.getfield 30, 3) := by decide +kernel
theorem dX11_note_4 : decode cX11_note 4 = .ok (.getfield 144, 3) := by decide +kernel
theorem dX11_note_7 : decode cX11_note 7 = .ok (.astore_n 2, 1) := by decide +kernel
theorem dX11_note_8 : decode cX11_note 8 = .ok (.aload_n 0, 1) := by decide +kernel
theorem dX11_note_9 : decode cX11_note 9 = .ok (.getfield 30, 3) := by decide +kernel
theorem dX11_note_12 : decode cX11_note 12 = .ok (.getfield 147, 3) := by decide +kernel
theorem dX11_note_15 : decode cX11_note 15 = .ok (.astore_n 3, 1) := by decide +kernel
theorem dX11_note_16 : decode cX11_note 16 = .ok (.aload_n 2, 1) := by decide +kernel
theorem dX11_note_17 : decode cX11_note 17 = .ok (.iload_n 1, 1) := by decide +kernel
theorem dX11_note_18 : decode cX11_note 18 = .ok (.invokevirtual 150, 3) := by decide +kernel
theorem dX11_note_21 : decode cX11_note 21 = .ok (.ifCond .ne 5, 3) := by decide +kernel
theorem dX11_note_24 : decode cX11_note 24 = .ok (.iconst (-1), 1) := by decide +kernel
theorem dX11_note_25 : decode cX11_note 25 = .ok (.ireturn, 1) := by decide +kernel
theorem dX11_note_26 : decode cX11_note 26 = .ok (.aload_n 3, 1) := by decide +kernel
theorem dX11_note_27 : decode cX11_note 27 = .ok (.aload_n 2, 1) := by decide +kernel
theorem dX11_note_28 : decode cX11_note 28 = .ok (.iload_n 1, 1) := by decide +kernel
theorem dX11_note_29 : decode cX11_note 29 = .ok (.invokevirtual 165, 3) := by decide +kernel
theorem dX11_note_32 : decode cX11_note 32 = .ok (.istore 4, 2) := by decide +kernel
theorem dX11_note_34 : decode cX11_note 34 = .ok (.aload_n 0, 1) := by decide +kernel
theorem dX11_note_35 : decode cX11_note 35 = .ok (.getfield 87, 3) := by decide +kernel
theorem dX11_note_38 : decode cX11_note 38 = .ok (.iconst 0, 1) := by decide +kernel
theorem dX11_note_39 : decode cX11_note 39 = .ok (.putfield 113, 3) := by decide +kernel
theorem dX11_note_42 : decode cX11_note 42 = .ok (.aload_n 0, 1) := by decide +kernel
theorem dX11_note_43 : decode cX11_note 43 = .ok (.getfield 87, 3) := by decide +kernel
theorem dX11_note_46 : decode cX11_note 46 = .ok (.aload_n 2, 1) := by decide +kernel
theorem dX11_note_47 : decode cX11_note 47 = .ok (.getfield 345, 3) := by decide +kernel
theorem dX11_note_50 : decode cX11_note 50 = .ok (.iload_n 1, 1) := by decide +kernel
theorem dX11_note_51 : decode cX11_note 51 = .ok (.laload, 1) := by decide +kernel
theorem dX11_note_52 : decode cX11_note 52 = .ok (.invokevirtual 349, 3) := by decide +kernel
theorem dX11_note_55 : decode cX11_note 55 = .ok (.iload 4, 2) := by decide +kernel
theorem dX11_note_57 : decode cX11_note 57 = .ok (.iconst (-1), 1) := by decide +kernel
theorem dX11_note_58 : decode cX11_note 58 = .ok (.if_icmp .ne 21, 3) := by decide +kernel
theorem dX11_note_61 : decode cX11_note 61 = .ok (.aload_n 0, 1) := by decide +kernel
theorem dX11_note_62 : decode cX11_note 62 = .ok (.getfield 87, 3) := by decide +kernel
theorem dX11_note_65 : decode cX11_note 65 = .ok (.ldc_w 353, 3) := by decide +kernel
theorem dX11_note_68 : decode cX11_note 68 = .ok (.invokevirtual 355, 3) := by decide +kernel
theorem dX11_note_71 : decode cX11_note 71 = .ok (.aload_n 0, 1) := by decide +kernel
theorem dX11_note_72 : decode cX11_note 72 = .ok (.getfield 87, 3) := by decide +kernel
theorem dX11_note_75 : decode cX11_note 75 = .ok (.getfield 113, 3) := by decide +kernel
theorem dX11_note_78 : decode cX11_note 78 = .ok (.ireturn, 1) := by decide +kernel
theorem dX11_note_79 : decode cX11_note 79 = .ok (.aload_n 0, 1) := by decide +kernel
theorem dX11_note_80 : decode cX11_note 80 = .ok (.getfield 87, 3) := by decide +kernel
theorem dX11_note_83 : decode cX11_note 83 = .ok (.ldc_w 358, 3) := by decide +kernel
theorem dX11_note_86 : decode cX11_note 86 = .ok (.invokevirtual 355, 3) := by decide +kernel
theorem dX11_note_89 : decode cX11_note 89 = .ok (.aload_n 0, 1) := by decide +kernel
theorem dX11_note_90 : decode cX11_note 90 = .ok (.getfield 87, 3) := by decide +kernel
theorem dX11_note_93 : decode cX11_note 93 = .ok (.aload_n 2, 1) := by decide +kernel
theorem dX11_note_94 : decode cX11_note 94 = .ok (.getfield 360, 3) := by decide +kernel
theorem dX11_note_97 : decode cX11_note 97 = .ok (.iload 4, 2) := by decide +kernel
theorem dX11_note_99 : decode cX11_note 99 = .ok (.laload, 1) := by decide +kernel
theorem dX11_note_100 : decode cX11_note 100 = .ok (.invokevirtual 349, 3) := by decide +kernel
theorem dX11_note_103 : decode cX11_note 103 = .ok (.aload_n 3, 1) := by decide +kernel
theorem dX11_note_104 : decode cX11_note 104 = .ok (.aload_n 2, 1) := by decide +kernel
theorem dX11_note_105 : decode cX11_note 105 = .ok (.iload_n 1, 1) := by decide +kernel
theorem dX11_note_106 : decode cX11_note 106 = .ok (.aload_n 3, 1) := by decide +kernel
theorem dX11_note_107 : decode cX11_note 107 = .ok (.aload_n 2, 1) := by decide +kernel
theorem dX11_note_108 : decode cX11_note 108 = .ok (.iload 4, 2) := by decide +kernel
theorem dX11_note_110 : decode cX11_note 110 = .ok (.iload_n 1, 1) := by decide +kernel
theorem dX11_note_111 : decode cX11_note 111 = .ok (.iconst 0, 1) := by decide +kernel
theorem dX11_note_112 : decode cX11_note 112 = .ok (.invokevirtual 186, 3) := by decide +kernel
theorem dX11_note_115 : decode cX11_note 115 = .ok (.invokevirtual 190, 3) := by decide +kernel
theorem dX11_note_118 : decode cX11_note 118 = .ok (.istore 5, 2) := by decide +kernel
theorem dX11_note_120 : decode cX11_note 120 = .ok (.aload_n 2, 1) := by decide +kernel
theorem dX11_note_121 : decode cX11_note 121 = .ok (.aload_n 3, 1) := by decide +kernel
theorem dX11_note_122 : decode cX11_note 122 = .ok (.getfield 206, 3) := by decide +kernel
theorem dX11_note_125 : decode cX11_note 125 = .ok (.invokevirtual 213, 3) := by decide +kernel
theorem dX11_note_128 : decode cX11_note 128 = .ok (.ifCond .eq 16, 3) := by decide +kernel
theorem dX11_note_131 : decode cX11_note 131 = .ok (.aload_n 0, 1) := by decide +kernel
theorem dX11_note_132 : decode cX11_note 132 = .ok (.getfield 87, 3) := by decide +kernel
theorem dX11_note_135 : decode cX11_note 135 = .ok (.ldc_w 363, 3) := by decide +kernel
theorem dX11_note_138 : decode cX11_note 138 = .ok (.invokevirtual 355, 3) := by decide +kernel
theorem dX11_note_141 : decode cX11_note 141 = .ok (.goto 71, 3) := by decide +kernel
theorem dX11_note_144 : decode cX11_note 144 = .ok (.iload 5, 2) := by decide +kernel
theorem dX11_note_146 : decode cX11_note 146 = .ok (.iconst (-1), 1) := by decide +kernel
theorem dX11_note_147 : decode cX11_note 147 = .ok (.if_icmp .ne 16, 3) := by decide +kernel
theorem dX11_note_150 : decode cX11_note 150 = .ok (.aload_n 0, 1) := by decide +kernel
theorem dX11_note_151 : decode cX11_note 151 = .ok (.getfield 87, 3) := by decide +kernel
theorem dX11_note_154 : decode cX11_note 154 = .ok (.ldc_w 365, 3) := by decide +kernel
theorem dX11_note_157 : decode cX11_note 157 = .ok (.invokevirtual 355, 3) := by decide +kernel
theorem dX11_note_160 : decode cX11_note 160 = .ok (.goto 52, 3) := by decide +kernel
theorem dX11_note_163 : decode cX11_note 163 = .ok (.iload 5, 2) := by decide +kernel
theorem dX11_note_165 : decode cX11_note 165 = .ok (.iconst 4, 1) := by decide +kernel
theorem dX11_note_166 : decode cX11_note 166 = .ok (.if_icmp .ne 16, 3) := by decide +kernel
theorem dX11_note_169 : decode cX11_note 169 = .ok (.aload_n 0, 1) := by decide +kernel
theorem dX11_note_170 : decode cX11_note 170 = .ok (.getfield 87, 3) := by decide +kernel
theorem dX11_note_173 : decode cX11_note 173 = .ok (.ldc_w 367, 3) := by decide +kernel
theorem dX11_note_176 : decode cX11_note 176 = .ok (.invokevirtual 355, 3) := by decide +kernel
theorem dX11_note_179 : decode cX11_note 179 = .ok (.goto 33, 3) := by decide +kernel
theorem dX11_note_182 : decode cX11_note 182 = .ok (.aload_n 0, 1) := by decide +kernel
theorem dX11_note_183 : decode cX11_note 183 = .ok (.getfield 87, 3) := by decide +kernel
theorem dX11_note_186 : decode cX11_note 186 = .ok (.ldc_w 369, 3) := by decide +kernel
theorem dX11_note_189 : decode cX11_note 189 = .ok (.invokevirtual 355, 3) := by decide +kernel
theorem dX11_note_192 : decode cX11_note 192 = .ok (.aload_n 0, 1) := by decide +kernel
theorem dX11_note_193 : decode cX11_note 193 = .ok (.getfield 87, 3) := by decide +kernel
theorem dX11_note_196 : decode cX11_note 196 = .ok (.aload_n 0, 1) := by decide +kernel
theorem dX11_note_197 : decode cX11_note 197 = .ok (.getfield 23, 3) := by decide +kernel
theorem dX11_note_200 : decode cX11_note 200 = .ok (.getfield 371, 3) := by decide +kernel
theorem dX11_note_203 : decode cX11_note 203 = .ok (.bipush 12, 2) := by decide +kernel
theorem dX11_note_205 : decode cX11_note 205 = .ok (.iload 5, 2) := by decide +kernel
theorem dX11_note_207 : decode cX11_note 207 = .ok (.iadd, 1) := by decide +kernel
theorem dX11_note_208 : decode cX11_note 208 = .ok (.laload, 1) := by decide +kernel
theorem dX11_note_209 : decode cX11_note 209 = .ok (.invokevirtual 349, 3) := by decide +kernel
theorem dX11_note_212 : decode cX11_note 212 = .ok (.aload_n 0, 1) := by decide +kernel
theorem dX11_note_213 : decode cX11_note 213 = .ok (.getfield 87, 3) := by decide +kernel
theorem dX11_note_216 : decode cX11_note 216 = .ok (.getfield 113, 3) := by decide +kernel
theorem dX11_note_219 : decode cX11_note 219 = .ok (.ireturn, 1) := by decide +kernel
theorem dX11_byteAt_0 : decode cX11_byteAt 0 = .ok (.iload_n 1, 1) := by decide +kernel
theorem dX11_byteAt_1 : decode cX11_byteAt 1 = .ok (.ifCond .lt 25, 3) := by decide +kernel
theorem dX11_byteAt_4 : decode cX11_byteAt 4 = .ok (.iload_n 1, 1) := by decide +kernel
theorem dX11_byteAt_5 : decode cX11_byteAt 5 = .ok (.aload_n 0, 1) := by decide +kernel
theorem dX11_byteAt_6 : decode cX11_byteAt 6 = .ok (.getfield 87, 3) := by decide +kernel
theorem dX11_byteAt_9 : decode cX11_byteAt 9 = .ok (.getfield 113, 3) := by decide +kernel
theorem dX11_byteAt_12 : decode cX11_byteAt 12 = .ok (.if_icmp .ge 14, 3) := by decide +kernel
theorem dX11_byteAt_15 : decode cX11_byteAt 15 = .ok (.aload_n 0, 1) := by decide +kernel
theorem dX11_byteAt_16 : decode cX11_byteAt 16 = .ok (.getfield 87, 3) := by decide +kernel
theorem dX11_byteAt_19 : decode cX11_byteAt 19 = .ok (.iload_n 1, 1) := by decide +kernel
theorem dX11_byteAt_20 : decode cX11_byteAt 20 = .ok (.invokevirtual 312, 3) := by decide +kernel
theorem dX11_byteAt_23 : decode cX11_byteAt 23 = .ok (.goto 4, 3) := by decide +kernel
theorem dX11_byteAt_26 : decode cX11_byteAt 26 = .ok (.iconst (-1), 1) := by decide +kernel
theorem dX11_byteAt_27 : decode cX11_byteAt 27 = .ok (.ireturn, 1) := by decide +kernel
theorem dX11_book_0 : decode cX11_book 0 = .ok (.iload_n 1, 1) := by decide +kernel
theorem dX11_book_1 : decode cX11_book 1 = .ok (.ifCond .eq 12, 3) := by decide +kernel
theorem dX11_book_4 : decode cX11_book 4 = .ok (.iload_n 1, 1) := by decide +kernel
theorem dX11_book_5 : decode cX11_book 5 = .ok (.iconst 1, 1) := by decide +kernel
theorem dX11_book_6 : decode cX11_book 6 = .ok (.if_icmp .eq 7, 3) := by decide +kernel
theorem dX11_book_9 : decode cX11_book 9 = .ok (.sipush (-1000), 3) := by decide +kernel
theorem dX11_book_12 : decode cX11_book 12 = .ok (.ireturn, 1) := by decide +kernel
theorem dX11_book_13 : decode cX11_book 13 = .ok (.aload_n 0, 1) := by decide +kernel
theorem dX11_book_14 : decode cX11_book 14 = .ok (.getfield 23, 3) := by decide +kernel
theorem dX11_book_17 : decode cX11_book 17 = .ok (.sipush 400, 3) := by decide +kernel
theorem dX11_book_20 : decode cX11_book 20 = .ok (.invokevirtual 121, 3) := by decide +kernel
theorem dX11_book_23 : decode cX11_book 23 = .ok (.aload_n 0, 1) := by decide +kernel
theorem dX11_book_24 : decode cX11_book 24 = .ok (.getfield 55, 3) := by decide +kernel
theorem dX11_book_27 : decode cX11_book 27 = .ok (.aload_n 0, 1) := by decide +kernel
theorem dX11_book_28 : decode cX11_book 28 = .ok (.getfield 23, 3) := by decide +kernel
theorem dX11_book_31 : decode cX11_book 31 = .ok (.aload_n 0, 1) := by decide +kernel
theorem dX11_book_32 : decode cX11_book 32 = .ok (.getfield 30, 3) := by decide +kernel
theorem dX11_book_35 : decode cX11_book 35 = .ok (.getfield 144, 3) := by decide +kernel
theorem dX11_book_38 : decode cX11_book 38 = .ok (.invokevirtual 374, 3) := by decide +kernel
theorem dX11_book_41 : decode cX11_book 41 = .ok (.pop, 1) := by decide +kernel
theorem dX11_book_42 : decode cX11_book 42 = .ok (.aload_n 0, 1) := by decide +kernel
theorem dX11_book_43 : decode cX11_book 43 = .ok (.invokevirtual 128, 3) := by decide +kernel
theorem dX11_book_46 : decode cX11_book 46 = .ok (.aload_n 0, 1) := by decide +kernel
theorem dX11_book_47 : decode cX11_book 47 = .ok (.getfield 110, 3) := by decide +kernel
theorem dX11_book_50 : decode cX11_book 50 = .ok (.ifCond .eq 14, 3) := by decide +kernel
theorem dX11_book_53 : decode cX11_book 53 = .ok (.bipush (-2), 2) := by decide +kernel
theorem dX11_book_55 : decode cX11_book 55 = .ok (.aload_n 0, 1) := by decide +kernel
theorem dX11_book_56 : decode cX11_book 56 = .ok (.getfield 23, 3) := by decide +kernel
theorem dX11_book_59 : decode cX11_book 59 = .ok (.getfield 131, 3) := by decide +kernel
theorem dX11_book_62 : decode cX11_book 62 = .ok (.isub, 1) := by decide +kernel
theorem dX11_book_63 : decode cX11_book 63 = .ok (.ireturn, 1) := by decide +kernel
theorem dX11_book_64 : decode cX11_book 64 = .ok (.aload_n 0, 1) := by decide +kernel
theorem dX11_book_65 : decode cX11_book 65 = .ok (.getfield 62, 3) := by decide +kernel
theorem dX11_book_68 : decode cX11_book 68 = .ok (.aload_n 0, 1) := by decide +kernel
theorem dX11_book_69 : decode cX11_book 69 = .ok (.getfield 30, 3) := by decide +kernel
theorem dX11_book_72 : decode cX11_book 72 = .ok (.getfield 147, 3) := by decide +kernel
theorem dX11_book_75 : decode cX11_book 75 = .ok (.invokevirtual 238, 3) := by decide +kernel
theorem dX11_book_78 : decode cX11_book 78 = .ok (.aload_n 0, 1) := by decide +kernel
theorem dX11_book_79 : decode cX11_book 79 = .ok (.getfield 55, 3) := by decide +kernel
theorem dX11_book_82 : decode cX11_book 82 = .ok (.aload_n 0, 1) := by decide +kernel
theorem dX11_book_83 : decode cX11_book 83 = .ok (.getfield 30, 3) := by decide +kernel
theorem dX11_book_86 : decode cX11_book 86 = .ok (.getfield 144, 3) := by decide +kernel
theorem dX11_book_89 : decode cX11_book 89 = .ok (.aload_n 0, 1) := by decide +kernel
theorem dX11_book_90 : decode cX11_book 90 = .ok (.getfield 62, 3) := by decide +kernel
theorem dX11_book_93 : decode cX11_book 93 = .ok (.invokevirtual 377, 3) := by decide +kernel
theorem dX11_book_96 : decode cX11_book 96 = .ok (.iload_n 1, 1) := by decide +kernel
theorem dX11_book_97 : decode cX11_book 97 = .ok (.iconst 1, 1) := by decide +kernel
theorem dX11_book_98 : decode cX11_book 98 = .ok (.if_icmp .ne 17, 3) := by decide +kernel
theorem dX11_book_101 : decode cX11_book 101 = .ok (.aload_n 0, 1) := by decide +kernel
theorem dX11_book_102 : decode cX11_book 102 = .ok (.getfield 55, 3) := by decide +kernel
theorem dX11_book_105 : decode cX11_book 105 = .ok (.getfield 381, 3) := by decide +kernel
theorem dX11_book_108 : decode cX11_book 108 = .ok (.ifCond .le 7, 3) := by decide +kernel
theorem dX11_book_111 : decode cX11_book 111 = .ok (.aload_n 0, 1) := by decide +kernel
theorem dX11_book_112 : decode cX11_book 112 = .ok (.invokevirtual 272, 3) := by decide +kernel
theorem dX11_book_115 : decode cX11_book 115 = .ok (.aload_n 0, 1) := by decide +kernel
theorem dX11_book_116 : decode cX11_book 116 = .ok (.getfield 55, 3) := by decide +kernel
theorem dX11_book_119 : decode cX11_book 119 = .ok (.getfield 384, 3) := by decide +kernel
theorem dX11_book_122 : decode cX11_book 122 = .ok (.ifCond .ne 7, 3) := by decide +kernel
theorem dX11_book_125 : decode cX11_book 125 = .ok (.iconst (-1), 1) := by decide +kernel
theorem dX11_book_126 : decode cX11_book 126 = .ok (.goto 10, 3) := by decide +kernel
theorem dX11_book_129 : decode cX11_book 129 = .ok (.aload_n 0, 1) := by decide +kernel
theorem dX11_book_130 : decode cX11_book 130 = .ok (.getfield 55, 3) := by decide +kernel
theorem dX11_book_133 : decode cX11_book 133 = .ok (.getfield 381, 3) := by decide +kernel
theorem dX11_book_136 : decode cX11_book 136 = .ok (.ireturn, 1) := by decide +kernel
theorem dX11_told_0 : decode cX11_told 0 = .ok (.aload_n 0, 1) := by decide +kernel
theorem dX11_told_1 : decode cX11_told 1 = .ok (.getfield 55, 3) := by decide +kernel
theorem dX11_told_4 : decode cX11_told 4 = .ok (.getfield 387, 3) := by decide +kernel
theorem dX11_told_7 : decode cX11_told 7 = .ok (.ifCond .ne 5, 3) := by decide +kernel
theorem dX11_told_10 : decode cX11_told 10 = .ok (.iconst (-1), 1) := by decide +kernel
theorem dX11_told_11 : decode cX11_told 11 = .ok (.ireturn, 1) := by decide +kernel
theorem dX11_told_12 : decode cX11_told 12 = .ok (.iload_n 1, 1) := by decide +kernel
theorem dX11_told_13 : decode cX11_told 13 = .ok (.tableswitch 63 0 3 #[31, 39, 47, 55], 31) := by decide +kernel
theorem dX11_told_44 : decode cX11_told 44 = .ok (.aload_n 0, 1) := by decide +kernel
theorem dX11_told_45 : decode cX11_told 45 = .ok (.getfield 55, 3) := by decide +kernel
theorem dX11_told_48 : decode cX11_told 48 = .ok (.getfield 384, 3) := by decide +kernel
theorem dX11_told_51 : decode cX11_told 51 = .ok (.ireturn, 1) := by decide +kernel
theorem dX11_told_52 : decode cX11_told 52 = .ok (.aload_n 0, 1) := by decide +kernel
theorem dX11_told_53 : decode cX11_told 53 = .ok (.getfield 55, 3) := by decide +kernel
theorem dX11_told_56 : decode cX11_told 56 = .ok (.getfield 381, 3) := by decide +kernel
theorem dX11_told_59 : decode cX11_told 59 = .ok (.ireturn, 1) := by decide +kernel
theorem dX11_told_60 : decode cX11_told 60 = .ok (.aload_n 0, 1) := by decide +kernel
theorem dX11_told_61 : decode cX11_told 61 = .ok (.getfield 55, 3) := by decide +kernel
theorem dX11_told_64 : decode cX11_told 64 = .ok (.getfield 391, 3) := by decide +kernel
theorem dX11_told_67 : decode cX11_told 67 = .ok (.ireturn, 1) := by decide +kernel
theorem dX11_told_68 : decode cX11_told 68 = .ok (.aload_n 0, 1) := by decide +kernel
theorem dX11_told_69 : decode cX11_told 69 = .ok (.getfield 55, 3) := by decide +kernel
theorem dX11_told_72 : decode cX11_told 72 = .ok (.getfield 394, 3) := by decide +kernel
theorem dX11_told_75 : decode cX11_told 75 = .ok (.ireturn, 1) := by decide +kernel
theorem dX11_told_76 : decode cX11_told 76 = .ok (.iconst (-1), 1) := by decide +kernel
theorem dX11_told_77 : decode cX11_told 77 = .ok (.ireturn, 1) := by decide +kernel
theorem dX11_sentence_0 : decode cX11_sentence 0 = .ok (.aload_n 0, 1) := by decide +kernel
theorem dX11_sentence_1 : decode cX11_sentence 1 = .ok (.getfield 23, 3) := by decide +kernel
theorem dX11_sentence_4 : decode cX11_sentence 4 = .ok (.sipush 200, 3) := by decide +kernel
theorem dX11_sentence_7 : decode cX11_sentence 7 = .ok (.invokevirtual 121, 3) := by decide +kernel
theorem dX11_sentence_10 : decode cX11_sentence 10 = .ok (.aload_n 0, 1) := by decide +kernel
theorem dX11_sentence_11 : decode cX11_sentence 11 = .ok (.getfield 48, 3) := by decide +kernel
theorem dX11_sentence_14 : decode cX11_sentence 14 = .ok (.aload_n 0, 1) := by decide +kernel
theorem dX11_sentence_15 : decode cX11_sentence 15 = .ok (.getfield 23, 3) := by decide +kernel
theorem dX11_sentence_18 : decode cX11_sentence 18 = .ok (.aload_n 0, 1) := by decide +kernel
theorem dX11_sentence_19 : decode cX11_sentence 19 = .ok (.getfield 30, 3) := by decide +kernel
theorem dX11_sentence_22 : decode cX11_sentence 22 = .ok (.getfield 144, 3) := by decide +kernel
theorem dX11_sentence_25 : decode cX11_sentence 25 = .ok (.invokevirtual 397, 3) := by decide +kernel
theorem dX11_sentence_28 : decode cX11_sentence 28 = .ok (.pop, 1) := by decide +kernel
theorem dX11_sentence_29 : decode cX11_sentence 29 = .ok (.aload_n 0, 1) := by decide +kernel
theorem dX11_sentence_30 : decode cX11_sentence 30 = .ok (.invokevirtual 128, 3) := by decide +kernel
theorem dX11_sentence_33 : decode cX11_sentence 33 = .ok (.aload_n 0, 1) := by decide +kernel
theorem dX11_sentence_34 : decode cX11_sentence 34 = .ok (.getfield 110, 3) := by decide +kernel
theorem dX11_sentence_37 : decode cX11_sentence 37 = .ok (.ifCond .eq 13, 3) := by decide +kernel
theorem dX11_sentence_40 : decode cX11_sentence 40 = .ok (.iconst (-1), 1) := by decide +kernel
theorem dX11_sentence_41 : decode cX11_sentence 41 = .ok (.aload_n 0, 1) := by decide +kernel
theorem dX11_sentence_42 : decode cX11_sentence 42 = .ok (.getfield 23, 3) := by decide +kernel
theorem dX11_sentence_45 : decode cX11_sentence 45 = .ok (.getfield 131, 3) := by decide +kernel
theorem dX11_sentence_48 : decode cX11_sentence 48 = .ok (.isub, 1) := by decide +kernel
theorem dX11_sentence_49 : decode cX11_sentence 49 = .ok (.ireturn, 1) := by decide +kernel
theorem dX11_sentence_50 : decode cX11_sentence 50 = .ok (.aload_n 0, 1) := by decide +kernel
theorem dX11_sentence_51 : decode cX11_sentence 51 = .ok (.getfield 30, 3) := by decide +kernel
theorem dX11_sentence_54 : decode cX11_sentence 54 = .ok (.getfield 398, 3) := by decide +kernel
theorem dX11_sentence_57 : decode cX11_sentence 57 = .ok (.aload_n 0, 1) := by decide +kernel
theorem dX11_sentence_58 : decode cX11_sentence 58 = .ok (.getfield 48, 3) := by decide +kernel
theorem dX11_sentence_61 : decode cX11_sentence 61 = .ok (.invokevirtual 401, 3) := by decide +kernel
theorem dX11_sentence_64 : decode cX11_sentence 64 = .ok (.aload_n 0, 1) := by decide +kernel
theorem dX11_sentence_65 : decode cX11_sentence 65 = .ok (.getfield 48, 3) := by decide +kernel
theorem dX11_sentence_68 : decode cX11_sentence 68 = .ok (.getfield 404, 3) := by decide +kernel
theorem dX11_sentence_71 : decode cX11_sentence 71 = .ok (.ireturn, 1) := by decide +kernel
theorem dX11_said_0 : decode cX11_said 0 = .ok (.aload_n 0, 1) := by decide +kernel
theorem dX11_said_1 : decode cX11_said 1 = .ok (.getfield 30, 3) := by decide +kernel
theorem dX11_said_4 : decode cX11_said 4 = .ok (.getfield 144, 3) := by decide +kernel
theorem dX11_said_7 : decode cX11_said 7 = .ok (.astore_n 2, 1) := by decide +kernel
theorem dX11_said_8 : decode cX11_said 8 = .ok (.aload_n 0, 1) := by decide +kernel
theorem dX11_said_9 : decode cX11_said 9 = .ok (.getfield 30, 3) := by decide +kernel
theorem dX11_said_12 : decode cX11_said 12 = .ok (.getfield 398, 3) := by decide +kernel
theorem dX11_said_15 : decode cX11_said 15 = .ok (.getfield 407, 3) := by decide +kernel
theorem dX11_said_18 : decode cX11_said 18 = .ok (.ifCond .eq 8, 3) := by decide +kernel
theorem dX11_said_21 : decode cX11_said 21 = .ok (.iload_n 1, 1) := by decide +kernel
theorem dX11_said_22 : decode cX11_said 22 = .ok (.iconst (-1), 1) := by decide +kernel
theorem dX11_said_23 : decode cX11_said 23 = .ok (.if_icmp .ge 5, 3) := by decide +kernel
theorem dX11_said_26 : decode cX11_said 26 = .ok (.iconst (-1), 1) := by decide +kernel
theorem dX11_said_27 : decode cX11_said 27 = .ok (.ireturn, 1) := by decide +kernel
theorem dX11_said_28 : decode cX11_said 28 = .ok (.iconst 0, 1) := by decide +kernel
theorem dX11_said_29 : decode cX11_said 29 = .ok (.istore_n 3, 1) := by decide +kernel
theorem dX11_said_30 : decode cX11_said 30 = .ok (.iconst 0, 1) := by decide +kernel
theorem dX11_said_31 : decode cX11_said 31 = .ok (.istore 4, 2) := by decide +kernel
theorem dX11_said_33 : decode cX11_said 33 = .ok (.iload 4, 2) := by decide +kernel
theorem dX11_said_35 : decode cX11_said 35 = .ok (.aload_n 2, 1) := by decide +kernel
theorem dX11_said_36 : decode cX11_said 36 = .ok (.getfield 216, 3) := by decide +kernel
theorem dX11_said_39 : decode cX11_said 39 = .ok (.if_icmp .ge 43, 3) := by decide +kernel
theorem dX11_said_42 : decode cX11_said 42 = .ok (.aload_n 0, 1) := by decide +kernel
theorem dX11_said_43 : decode cX11_said 43 = .ok (.getfield 30, 3) := by decide +kernel
theorem dX11_said_46 : decode cX11_said 46 = .ok (.getfield 398, 3) := by decide +kernel
theorem dX11_said_49 : decode cX11_said 49 = .ok (.aload_n 2, 1) := by decide +kernel
theorem dX11_said_50 : decode cX11_said 50 = .ok (.aload_n 0, 1) := by decide +kernel
theorem dX11_said_51 : decode cX11_said 51 = .ok (.getfield 30, 3) := by decide +kernel
theorem dX11_said_54 : decode cX11_said 54 = .ok (.getfield 147, 3) := by decide +kernel
theorem dX11_said_57 : decode cX11_said 57 = .ok (.iload 4, 2) := by decide +kernel
theorem dX11_said_59 : decode cX11_said 59 = .ok (.invokevirtual 410, 3) := by decide +kernel
theorem dX11_said_62 : decode cX11_said 62 = .ok (.ifCond .eq 14, 3) := by decide +kernel
theorem dX11_said_65 : decode cX11_said 65 = .ok (.iload_n 3, 1) := by decide +kernel
theorem dX11_said_66 : decode cX11_said 66 = .ok (.iload_n 1, 1) := by decide +kernel
theorem dX11_said_67 : decode cX11_said 67 = .ok (.if_icmp .ne 6, 3) := by decide +kernel
theorem dX11_said_70 : decode cX11_said 70 = .ok (.iload 4, 2) := by decide +kernel
theorem dX11_said_72 : decode cX11_said 72 = .ok (.ireturn, 1) := by decide +kernel
theorem dX11_said_73 : decode cX11_said 73 = .ok (.iinc 3 1, 3) := by decide +kernel
theorem dX11_said_76 : decode cX11_said 76 = .ok (.iinc 4 1, 3) := by decide +kernel
theorem dX11_said_79 : decode cX11_said 79 = .ok (.goto (-46), 3) := by decide +kernel
theorem dX11_said_82 : decode cX11_said 82 = .ok (.iload_n 1, 1) := by decide +kernel
theorem dX11_said_83 : decode cX11_said 83 = .ok (.iconst (-1), 1) := by decide +kernel
theorem dX11_said_84 : decode cX11_said 84 = .ok (.if_icmp .ne 7, 3) := by decide +kernel
theorem dX11_said_87 : decode cX11_said 87 = .ok (.iload_n 3, 1) := by decide +kernel
theorem dX11_said_88 : decode cX11_said 88 = .ok (.goto 4, 3) := by decide +kernel
theorem dX11_said_91 : decode cX11_said 91 = .ok (.iconst (-1), 1) := by decide +kernel
theorem dX11_said_92 : decode cX11_said 92 = .ok (.ireturn, 1) := by decide +kernel
theorem dX11_image_0 : decode cX11_image 0 = .ok (.iload_n 1, 1) := by decide +kernel
theorem dX11_image_1 : decode cX11_image 1 = .ok (.ifCond .lt 12, 3) := by decide +kernel
theorem dX11_image_4 : decode cX11_image 4 = .ok (.iload_n 1, 1) := by decide +kernel
theorem dX11_image_5 : decode cX11_image 5 = .ok (.aload_n 0, 1) := by decide +kernel
theorem dX11_image_6 : decode cX11_image 6 = .ok (.getfield 34, 3) := by decide +kernel
theorem dX11_image_9 : decode cX11_image 9 = .ok (.arraylength, 1) := by decide +kernel
theorem dX11_image_10 : decode cX11_image 10 = .ok (.if_icmp .lt 5, 3) := by decide +kernel
theorem dX11_image_13 : decode cX11_image 13 = .ok (.iconst 0, 1) := by decide +kernel
theorem dX11_image_14 : decode cX11_image 14 = .ok (.ireturn, 1) := by decide +kernel
theorem dX11_image_15 : decode cX11_image 15 = .ok (.aload_n 0, 1) := by decide +kernel
theorem dX11_image_16 : decode cX11_image 16 = .ok (.getfield 34, 3) := by decide +kernel
theorem dX11_image_19 : decode cX11_image 19 = .ok (.iload_n 1, 1) := by decide +kernel
theorem dX11_image_20 : decode cX11_image 20 = .ok (.aaload, 1) := by decide +kernel
theorem dX11_image_21 : decode cX11_image 21 = .ok (.aload_n 0, 1) := by decide +kernel
theorem dX11_image_22 : decode cX11_image 22 = .ok (.getfield 30, 3) := by decide +kernel
theorem dX11_image_25 : decode cX11_image 25 = .ok (.invokevirtual 414, 3) := by decide +kernel
theorem dX11_image_28 : decode cX11_image 28 = .ok (.iconst 1, 1) := by decide +kernel
theorem dX11_image_29 : decode cX11_image 29 = .ok (.ireturn, 1) := by decide +kernel
theorem dX11_restore_0 : decode cX11_restore 0 = .ok (.iload_n 1, 1) := by decide +kernel
theorem dX11_restore_1 : decode cX11_restore 1 = .ok (.ifCond .lt 24, 3) := by decide +kernel
theorem dX11_restore_4 : decode cX11_restore 4 = .ok (.iload_n 1, 1) := by decide +kernel
theorem dX11_restore_5 : decode cX11_restore 5 = .ok (.aload_n 0, 1) := by decide +kernel
theorem dX11_restore_6 : decode cX11_restore 6 = .ok (.getfield 34, 3) := by decide +kernel
theorem dX11_restore_9 : decode cX11_restore 9 = .ok (.arraylength, 1) := by decide +kernel
theorem dX11_restore_10 : decode cX11_restore 10 = .ok (.if_icmp .ge 15, 3) := by decide +kernel
theorem dX11_restore_13 : decode cX11_restore 13 = .ok (.aload_n 0, 1) := by decide +kernel
theorem dX11_restore_14 : decode cX11_restore 14 = .ok (.getfield 34, 3) := by decide +kernel
theorem dX11_restore_17 : decode cX11_restore 17 = .ok (.iload_n 1, 1) := by decide +kernel
theorem dX11_restore_18 : decode cX11_restore 18 = .ok (.aaload, 1) := by decide +kernel
theorem dX11_restore_19 : decode cX11_restore 19 = .ok (.getfield 417, 3) := by decide +kernel
theorem dX11_restore_22 : decode cX11_restore 22 = .ok (.ifCond .ne 5, 3) := by decide +kernel
theorem dX11_restore_25 : decode cX11_restore 25 = .ok (.iconst 0, 1) := by decide +kernel
theorem dX11_restore_26 : decode cX11_restore 26 = .ok (.ireturn, 1) := by decide +kernel
theorem dX11_restore_27 : decode cX11_restore 27 = .ok (.aload_n 0, 1) := by decide +kernel
theorem dX11_restore_28 : decode cX11_restore 28 = .ok (.getfield 30, 3) := by decide +kernel
theorem dX11_restore_31 : decode cX11_restore 31 = .ok (.aload_n 0, 1) := by decide +kernel
theorem dX11_restore_32 : decode cX11_restore 32 = .ok (.getfield 34, 3) := by decide +kernel
theorem dX11_restore_35 : decode cX11_restore 35 = .ok (.iload_n 1, 1) := by decide +kernel
theorem dX11_restore_36 : decode cX11_restore 36 = .ok (.aaload, 1) := by decide +kernel
theorem dX11_restore_37 : decode cX11_restore 37 = .ok (.invokevirtual 414, 3) := by decide +kernel
theorem dX11_restore_40 : decode cX11_restore 40 = .ok (.aload_n 0, 1) := by decide +kernel
theorem dX11_restore_41 : decode cX11_restore 41 = .ok (.getfield 69, 3) := by decide +kernel
theorem dX11_restore_44 : decode cX11_restore 44 = .ok (.invokevirtual 138, 3) := by decide +kernel
theorem dX11_restore_47 : decode cX11_restore 47 = .ok (.iconst 1, 1) := by decide +kernel
theorem dX11_restore_48 : decode cX11_restore 48 = .ok (.ireturn, 1) := by decide +kernel
