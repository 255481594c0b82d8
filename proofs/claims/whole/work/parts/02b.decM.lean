theorem dX12_thrown_0 : decode cX12_thrown 0 = .ok (.aload_n 0, 1) := by decide +kernel
theorem dX12_thrown_1 : decode cX12_thrown 1 = .ok (.getfield 1, 3) := by decide +kernel
theorem dX12_thrown_4 : decode cX12_thrown 4 = .ok (.ireturn, 1) := by decide +kernel
theorem dX12_throwsIf_0 : decode cX12_throwsIf 0 = .ok (.aload_n 0, 1) := by decide +kernel
theorem dX12_throwsIf_1 : decode cX12_throwsIf 1 = .ok (.iload_n 1, 1) := by decide +kernel
theorem dX12_throwsIf_2 : decode cX12_throwsIf 2 = .ok (.ifCond .eq 7, 3) := by decide +kernel
theorem dX12_throwsIf_5 : decode cX12_throwsIf 5 = .ok (.iconst 1, 1) := by decide +kernel
theorem dX12_throwsIf_6 : decode cX12_throwsIf 6 = .ok (.goto 4, 3) := by decide +kernel
theorem dX12_throwsIf_9 : decode cX12_throwsIf 9 = .ok (.iconst 0, 1) := by decide +kernel
theorem dX12_throwsIf_10 : decode cX12_throwsIf 10 = .ok (.putfield 1, 3) := by decide +kernel
theorem dX12_throwsIf_13 : decode cX12_throwsIf 13 = .ok (.iload_n 1, 1) := by decide +kernel
theorem dX12_throwsIf_14 : decode cX12_throwsIf 14 = .ok (.ireturn, 1) := by decide +kernel
theorem dX12_feed_0 : decode cX12_feed 0 = .ok (.aload_n 0, 1) := by decide +kernel
theorem dX12_feed_1 : decode cX12_feed 1 = .ok (.iconst 0, 1) := by decide +kernel
theorem dX12_feed_2 : decode cX12_feed 2 = .ok (.putfield 1, 3) := by decide +kernel
theorem dX12_feed_5 : decode cX12_feed 5 = .ok (.aload_n 0, 1) := by decide +kernel
theorem dX12_feed_6 : decode cX12_feed 6 = .ok (.getfield 7, 3) := by decide +kernel
theorem dX12_feed_9 : decode cX12_feed 9 = .ok (.bipush 20, 2) := by decide +kernel
theorem dX12_feed_11 : decode cX12_feed 11 = .ok (.iadd, 1) := by decide +kernel
theorem dX12_feed_12 : decode cX12_feed 12 = .ok (.sipush 940, 3) := by decide +kernel
theorem dX12_feed_15 : decode cX12_feed 15 = .ok (.if_icmp .le 5, 3) := by decide +kernel
theorem dX12_feed_18 : decode cX12_feed 18 = .ok (.iconst (-1), 1) := by decide +kernel
theorem dX12_feed_19 : decode cX12_feed 19 = .ok (.ireturn, 1) := by decide +kernel
theorem dX12_feed_20 : decode cX12_feed 20 = .ok (.aload_n 0, 1) := by decide +kernel
theorem dX12_feed_21 : decode cX12_feed 21 = .ok (.iload_n 1, 1) := by decide +kernel
theorem dX12_feed_22 : decode cX12_feed 22 = .ok (.invokevirtual 10, 3) := by decide +kernel
theorem dX12_feed_25 : decode cX12_feed 25 = .ok (.aload_n 0, 1) := by decide +kernel
theorem dX12_feed_26 : decode cX12_feed 26 = .ok (.iload_n 2, 1) := by decide +kernel
theorem dX12_feed_27 : decode cX12_feed 27 = .ok (.invokevirtual 10, 3) := by decide +kernel
theorem dX12_feed_30 : decode cX12_feed 30 = .ok (.aload_n 0, 1) := by decide +kernel
theorem dX12_feed_31 : decode cX12_feed 31 = .ok (.iload_n 3, 1) := by decide +kernel
theorem dX12_feed_32 : decode cX12_feed 32 = .ok (.invokevirtual 10, 3) := by decide +kernel
theorem dX12_feed_35 : decode cX12_feed 35 = .ok (.aload_n 0, 1) := by decide +kernel
theorem dX12_feed_36 : decode cX12_feed 36 = .ok (.iload 4, 2) := by decide +kernel
theorem dX12_feed_38 : decode cX12_feed 38 = .ok (.invokevirtual 10, 3) := by decide +kernel
theorem dX12_feed_41 : decode cX12_feed 41 = .ok (.aload_n 0, 1) := by decide +kernel
theorem dX12_feed_42 : decode cX12_feed 42 = .ok (.iload 5, 2) := by decide +kernel
theorem dX12_feed_44 : decode cX12_feed 44 = .ok (.invokevirtual 10, 3) := by decide +kernel
theorem dX12_feed_47 : decode cX12_feed 47 = .ok (.aload_n 0, 1) := by decide +kernel
theorem dX12_feed_48 : decode cX12_feed 48 = .ok (.getfield 7, 3) := by decide +kernel
theorem dX12_feed_51 : decode cX12_feed 51 = .ok (.ireturn, 1) := by decide +kernel
theorem dX12_four_0 : decode cX12_four 0 = .ok (.bipush 24, 2) := by decide +kernel
theorem dX12_four_2 : decode cX12_four 2 = .ok (.istore_n 2, 1) := by decide +kernel
theorem dX12_four_3 : decode cX12_four 3 = .ok (.iload_n 2, 1) := by decide +kernel
theorem dX12_four_4 : decode cX12_four 4 = .ok (.ifCond .lt 32, 3) := by decide +kernel
theorem dX12_four_7 : decode cX12_four 7 = .ok (.aload_n 0, 1) := by decide +kernel
theorem dX12_four_8 : decode cX12_four 8 = .ok (.getfield 14, 3) := by decide +kernel
theorem dX12_four_11 : decode cX12_four 11 = .ok (.aload_n 0, 1) := by decide +kernel
theorem dX12_four_12 : decode cX12_four 12 = .ok (.getfield 7, 3) := by decide +kernel
theorem dX12_four_15 : decode cX12_four 15 = .ok (.iload_n 1, 1) := by decide +kernel
theorem dX12_four_16 : decode cX12_four 16 = .ok (.iload_n 2, 1) := by decide +kernel
theorem dX12_four_17 : decode cX12_four 17 = .ok (.ishr, 1) := by decide +kernel
theorem dX12_four_18 : decode cX12_four 18 = .ok (.i2b, 1) := by decide +kernel
theorem dX12_four_19 : decode cX12_four 19 = .ok (.bastore, 1) := by decide +kernel
theorem dX12_four_20 : decode cX12_four 20 = .ok (.aload_n 0, 1) := by decide +kernel
theorem dX12_four_21 : decode cX12_four 21 = .ok (.dup, 1) := by decide +kernel
theorem dX12_four_22 : decode cX12_four 22 = .ok (.getfield 7, 3) := by decide +kernel
theorem dX12_four_25 : decode cX12_four 25 = .ok (.iconst 1, 1) := by decide +kernel
theorem dX12_four_26 : decode cX12_four 26 = .ok (.iadd, 1) := by decide +kernel
theorem dX12_four_27 : decode cX12_four 27 = .ok (.putfield 7, 3) := by decide +kernel
theorem dX12_four_30 : decode cX12_four 30 = .ok (.iinc 2 (-8), 3) := by decide +kernel
theorem dX12_four_33 : decode cX12_four 33 = .ok (.goto (-30), 3) := by decide +kernel
theorem dX12_four_36 : decode cX12_four 36 = .ok (.return_, 1) := by decide +kernel
theorem dX12_end_0 : decode cX12_end 0 = .ok (.aload_n 0, 1) := by decide +kernel
theorem dX12_end_1 : decode cX12_end 1 = .ok (.iconst 0, 1) := by decide +kernel
theorem dX12_end_2 : decode cX12_end 2 = .ok (.putfield 1, 3) := by decide +kernel
theorem dX12_end_5 : decode cX12_end 5 = .ok (.iload_n 1, 1) := by decide +kernel
theorem dX12_end_6 : decode cX12_end 6 = .ok (.ifCond .lt 11, 3) := by decide +kernel
theorem dX12_end_9 : decode cX12_end 9 = .ok (.iload_n 1, 1) := by decide +kernel
theorem dX12_end_10 : decode cX12_end 10 = .ok (.aload_n 0, 1) := by decide +kernel
theorem dX12_end_11 : decode cX12_end 11 = .ok (.getfield 7, 3) := by decide +kernel
theorem dX12_end_14 : decode cX12_end 14 = .ok (.if_icmp .le 5, 3) := by decide +kernel
theorem dX12_end_17 : decode cX12_end 17 = .ok (.iconst 0, 1) := by decide +kernel
theorem dX12_end_18 : decode cX12_end 18 = .ok (.ireturn, 1) := by decide +kernel
theorem dX12_end_19 : decode cX12_end 19 = .ok (.aload_n 0, 1) := by decide +kernel
theorem dX12_end_20 : decode cX12_end 20 = .ok (.iload_n 1, 1) := by decide +kernel
theorem dX12_end_21 : decode cX12_end 21 = .ok (.putfield 7, 3) := by decide +kernel
theorem dX12_end_24 : decode cX12_end 24 = .ok (.iconst 1, 1) := by decide +kernel
theorem dX12_end_25 : decode cX12_end 25 = .ok (.ireturn, 1) := by decide +kernel
theorem dX12_taken_0 : decode cX12_taken 0 = .ok (.aload_n 0, 1) := by decide +kernel
theorem dX12_taken_1 : decode cX12_taken 1 = .ok (.aload_n 0, 1) := by decide +kernel
theorem dX12_taken_2 : decode cX12_taken 2 = .ok (.getfield 7, 3) := by decide +kernel
theorem dX12_taken_5 : decode cX12_taken 5 = .ok (.putfield 18, 3) := by decide +kernel
theorem dX12_taken_8 : decode cX12_taken 8 = .ok (.aload_n 0, 1) := by decide +kernel
theorem dX12_taken_9 : decode cX12_taken 9 = .ok (.iconst 0, 1) := by decide +kernel
theorem dX12_taken_10 : decode cX12_taken 10 = .ok (.putfield 7, 3) := by decide +kernel
theorem dX12_taken_13 : decode cX12_taken 13 = .ok (.aload_n 0, 1) := by decide +kernel
theorem dX12_taken_14 : decode cX12_taken 14 = .ok (.iconst 0, 1) := by decide +kernel
theorem dX12_taken_15 : decode cX12_taken 15 = .ok (.putfield 21, 3) := by decide +kernel
theorem dX12_taken_18 : decode cX12_taken 18 = .ok (.aload_n 0, 1) := by decide +kernel
theorem dX12_taken_19 : decode cX12_taken 19 = .ok (.iload_n 1, 1) := by decide +kernel
theorem dX12_taken_20 : decode cX12_taken 20 = .ok (.putfield 24, 3) := by decide +kernel
theorem dX12_taken_23 : decode cX12_taken 23 = .ok (.return_, 1) := by decide +kernel
theorem dX12_isIn_0 : decode cX12_isIn 0 = .ok (.iload_n 0, 1) := by decide +kernel
theorem dX12_isIn_1 : decode cX12_isIn 1 = .ok (.iload_n 1, 1) := by decide +kernel
theorem dX12_isIn_2 : decode cX12_isIn 2 = .ok (.if_icmp .lt 12, 3) := by decide +kernel
theorem dX12_isIn_5 : decode cX12_isIn 5 = .ok (.iload_n 0, 1) := by decide +kernel
theorem dX12_isIn_6 : decode cX12_isIn 6 = .ok (.iload_n 2, 1) := by decide +kernel
theorem dX12_isIn_7 : decode cX12_isIn 7 = .ok (.if_icmp .gt 7, 3) := by decide +kernel
theorem dX12_isIn_10 : decode cX12_isIn 10 = .ok (.iconst 1, 1) := by decide +kernel
theorem dX12_isIn_11 : decode cX12_isIn 11 = .ok (.goto 4, 3) := by decide +kernel
theorem dX12_isIn_14 : decode cX12_isIn 14 = .ok (.iconst 0, 1) := by decide +kernel
theorem dX12_isIn_15 : decode cX12_isIn 15 = .ok (.ireturn, 1) := by decide +kernel
theorem dX12_bitOf_0 : decode cX12_bitOf 0 = .ok (.iload_n 0, 1) := by decide +kernel
theorem dX12_bitOf_1 : decode cX12_bitOf 1 = .ok (.iload_n 1, 1) := by decide +kernel
theorem dX12_bitOf_2 : decode cX12_bitOf 2 = .ok (.ishr, 1) := by decide +kernel
theorem dX12_bitOf_3 : decode cX12_bitOf 3 = .ok (.iconst 1, 1) := by decide +kernel
theorem dX12_bitOf_4 : decode cX12_bitOf 4 = .ok (.iand, 1) := by decide +kernel
theorem dX12_bitOf_5 : decode cX12_bitOf 5 = .ok (.iconst 1, 1) := by decide +kernel
theorem dX12_bitOf_6 : decode cX12_bitOf 6 = .ok (.if_icmp .ne 7, 3) := by decide +kernel
theorem dX12_bitOf_9 : decode cX12_bitOf 9 = .ok (.iconst 1, 1) := by decide +kernel
theorem dX12_bitOf_10 : decode cX12_bitOf 10 = .ok (.goto 4, 3) := by decide +kernel
theorem dX12_bitOf_13 : decode cX12_bitOf 13 = .ok (.iconst 0, 1) := by decide +kernel
theorem dX12_bitOf_14 : decode cX12_bitOf 14 = .ok (.ireturn, 1) := by decide +kernel
theorem dX12_greater_0 : decode cX12_greater 0 = .ok (.iload_n 0, 1) := by decide +kernel
theorem dX12_greater_1 : decode cX12_greater 1 = .ok (.iload_n 1, 1) := by decide +kernel
theorem dX12_greater_2 : decode cX12_greater 2 = .ok (.if_icmp .le 7, 3) := by decide +kernel
theorem dX12_greater_5 : decode cX12_greater 5 = .ok (.iload_n 0, 1) := by decide +kernel
theorem dX12_greater_6 : decode cX12_greater 6 = .ok (.goto 4, 3) := by decide +kernel
theorem dX12_greater_9 : decode cX12_greater 9 = .ok (.iload_n 1, 1) := by decide +kernel
theorem dX12_greater_10 : decode cX12_greater 10 = .ok (.ireturn, 1) := by decide +kernel
theorem dX12_absolute_0 : decode cX12_absolute 0 = .ok (.iload_n 0, 1) := by decide +kernel
theorem dX12_absolute_1 : decode cX12_absolute 1 = .ok (.ifCond .ge 8, 3) := by decide +kernel
theorem dX12_absolute_4 : decode cX12_absolute 4 = .ok (.iload_n 0, 1) := by decide +kernel
theorem dX12_absolute_5 : decode cX12_absolute 5 = .ok (.ineg, 1) := by decide +kernel
theorem dX12_absolute_6 : decode cX12_absolute 6 = .ok (.goto 4, 3) := by decide +kernel
theorem dX12_absolute_9 : decode cX12_absolute 9 = .ok (.iload_n 0, 1) := by decide +kernel
theorem dX12_absolute_10 : decode cX12_absolute 10 = .ok (.ireturn, 1) := by decide +kernel
theorem dX12_octet_0 : decode cX12_octet 0 = .ok (.aload_n 0, 1) := by decide +kernel
theorem dX12_octet_1 : decode cX12_octet 1 = .ok (.getfield 14, 3) := by decide +kernel
theorem dX12_octet_4 : decode cX12_octet 4 = .ok (.iload_n 1, 1) := by decide +kernel
theorem dX12_octet_5 : decode cX12_octet 5 = .ok (.baload, 1) := by decide +kernel
theorem dX12_octet_6 : decode cX12_octet 6 = .ok (.sipush 255, 3) := by decide +kernel
theorem dX12_octet_9 : decode cX12_octet 9 = .ok (.iand, 1) := by decide +kernel
theorem dX12_octet_10 : decode cX12_octet 10 = .ok (.ireturn, 1) := by decide +kernel
theorem dX12_init_0 : decode cX12_init 0 = .ok (.aload_n 0, 1) := by decide +kernel
theorem dX12_init_1 : decode cX12_init 1 = .ok (.invokespecial 27, 3) := by decide +kernel
theorem dX12_init_4 : decode cX12_init 4 = .ok (.aload_n 0, 1) := by decide +kernel
theorem dX12_init_5 : decode cX12_init 5 = .ok (.sipush 940, 3) := by decide +kernel
theorem dX12_init_8 : decode cX12_init 8 = .ok (.newarray .byte, 2) := by decide +kernel
theorem dX12_init_10 : decode cX12_init 10 = .ok (.putfield 14, 3) := by decide +kernel
theorem dX12_init_13 : decode cX12_init 13 = .ok (.aload_n 0, 1) := by decide +kernel
theorem dX12_init_14 : decode cX12_init 14 = .ok (.sipush 302, 3) := by decide +kernel
theorem dX12_init_17 : decode cX12_init 17 = .ok (.newarray .int, 2) := by decide +kernel
theorem dX12_init_19 : decode cX12_init 19 = .ok (.putfield 33, 3) := by decide +kernel
theorem dX12_init_22 : decode cX12_init 22 = .ok (.aload_n 0, 1) := by decide +kernel
theorem dX12_init_23 : decode cX12_init 23 = .ok (.bipush 97, 2) := by decide +kernel
theorem dX12_init_25 : decode cX12_init 25 = .ok (.newarray .int, 2) := by decide +kernel
theorem dX12_init_27 : decode cX12_init 27 = .ok (.putfield 37, 3) := by decide +kernel
theorem dX12_init_30 : decode cX12_init 30 = .ok (.aload_n 0, 1) := by decide +kernel
theorem dX12_init_31 : decode cX12_init 31 = .ok (.sipush 160, 3) := by decide +kernel
theorem dX12_init_34 : decode cX12_init 34 = .ok (.newarray .int, 2) := by decide +kernel
theorem dX12_init_36 : decode cX12_init 36 = .ok (.putfield 40, 3) := by decide +kernel
theorem dX12_init_39 : decode cX12_init 39 = .ok (.aload_n 0, 1) := by decide +kernel
theorem dX12_init_40 : decode cX12_init 40 = .ok (.bipush 40, 2) := by decide +kernel
theorem dX12_init_42 : decode cX12_init 42 = .ok (.newarray .long, 2) := by decide +kernel
theorem dX12_init_44 : decode cX12_init 44 = .ok (.putfield 43, 3) := by decide +kernel
theorem dX12_init_47 : decode cX12_init 47 = .ok (.aload_n 0, 1) := by decide +kernel
theorem dX12_init_48 : decode cX12_init 48 = .ok (.bipush 32, 2) := by decide +kernel
theorem dX12_init_50 : decode cX12_init 50 = .ok (.newarray .long, 2) := by decide +kernel
theorem dX12_init_52 : decode cX12_init 52 = .ok (.putfield 47, 3) := by decide +kernel
theorem dX12_init_55 : decode cX12_init 55 = .ok (.aload_n 0, 1) := by decide +kernel
theorem dX12_init_56 : decode cX12_init 56 = .ok (.sipush 192, 3) := by decide +kernel
theorem dX12_init_59 : decode cX12_init 59 = .ok (.newarray .int, 2) := by decide +kernel
theorem dX12_init_61 : decode cX12_init 61 = .ok (.putfield 50, 3) := by decide +kernel
theorem dX12_init_64 : decode cX12_init 64 = .ok (.aload_n 0, 1) := by decide +kernel
theorem dX12_init_65 : decode cX12_init 65 = .ok (.bipush 24, 2) := by decide +kernel
theorem dX12_init_67 : decode cX12_init 67 = .ok (.newarray .int, 2) := by decide +kernel
theorem dX12_init_69 : decode cX12_init 69 = .ok (.putfield 53, 3) := by decide +kernel
theorem dX12_init_72 : decode cX12_init 72 = .ok (.aload_n 0, 1) := by decide +kernel
theorem dX12_init_73 : decode cX12_init 73 = .ok (.bipush 81, 2) := by decide +kernel
theorem dX12_init_75 : decode cX12_init 75 = .ok (.newarray .int, 2) := by decide +kernel
theorem dX12_init_77 : decode cX12_init 77 = .ok (.putfield 56, 3) := by decide +kernel
theorem dX12_init_80 : decode cX12_init 80 = .ok (.aload_n 0, 1) := by decide +kernel
theorem dX12_init_81 : decode cX12_init 81 = .ok (.bipush 6, 2) := by decide +kernel
theorem dX12_init_83 : decode cX12_init 83 = .ok (.newarray .int, 2) := by decide +kernel
theorem dX12_init_85 : decode cX12_init 85 = .ok (.putfield 59, 3) := by decide +kernel
theorem dX12_init_88 : decode cX12_init 88 = .ok (.aload_n 0, 1) := by decide +kernel
theorem dX12_init_89 : decode cX12_init 89 = .ok (.iconst (-1), 1) := by decide +kernel
theorem dX12_init_90 : decode cX12_init 90 = .ok (.putfield 62, 3) := by decide +kernel
theorem dX12_init_93 : decode cX12_init 93 = .ok (.aload_n 0, 1) := by decide +kernel
theorem dX12_init_94 : decode cX12_init 94 = .ok (.iconst (-1), 1) := by decide +kernel
theorem dX12_init_95 : decode cX12_init 95 = .ok (.putfield 65, 3) := by decide +kernel
theorem dX12_init_98 : decode cX12_init 98 = .ok (.aload_n 0, 1) := by decide +kernel
theorem dX12_init_99 : decode cX12_init 99 = .ok (.bipush 36, 2) := by decide +kernel
theorem dX12_init_101 : decode cX12_init 101 = .ok (.newarray .int, 2) := by decide +kernel
theorem dX12_init_103 : decode cX12_init 103 = .ok (.putfield 68, 3) := by decide +kernel
theorem dX12_init_106 : decode cX12_init 106 = .ok (.aload_n 0, 1) := by decide +kernel
theorem dX12_init_107 : decode cX12_init 107 = .ok (.sipush 448, 3) := by decide +kernel
theorem dX12_init_110 : decode cX12_init 110 = .ok (.newarray .int, 2) := by decide +kernel
theorem dX12_init_112 : decode cX12_init 112 = .ok (.putfield 71, 3) := by decide +kernel
theorem dX12_init_115 : decode cX12_init 115 = .ok (.aload_n 0, 1) := by decide +kernel
theorem dX12_init_116 : decode cX12_init 116 = .ok (.bipush 6, 2) := by decide +kernel
theorem dX12_init_118 : decode cX12_init 118 = .ok (.newarray .int, 2) := by decide +kernel
theorem dX12_init_120 : decode cX12_init 120 = .ok (.putfield 74, 3) := by decide +kernel
theorem dX12_init_123 : decode cX12_init 123 = .ok (.aload_n 0, 1) := by decide +kernel
theorem dX12_init_124 : decode cX12_init 124 = .ok (.iconst (-1), 1) := by decide +kernel
theorem dX12_init_125 : decode cX12_init 125 = .ok (.putfield 77, 3) := by decide +kernel
theorem dX12_init_128 : decode cX12_init 128 = .ok (.aload_n 0, 1) := by decide +kernel
theorem dX12_init_129 : decode cX12_init 129 = .ok (.bipush 8, 2) := by decide +kernel
theorem dX12_init_131 : decode cX12_init 131 = .ok (.newarray .int, 2) := by decide +kernel
theorem dX12_init_133 : decode cX12_init 133 = .ok (.putfield 80, 3) := by decide +kernel
theorem dX12_init_136 : decode cX12_init 136 = .ok (.aload_n 0, 1) := by decide +kernel
theorem dX12_init_137 : decode cX12_init 137 = .ok (.iconst (-1), 1) := by decide +kernel
theorem dX12_init_138 : decode cX12_init 138 = .ok (.putfield 83, 3) := by decide +kernel
theorem dX12_init_141 : decode cX12_init 141 = .ok (.aload_n 0, 1) := by decide +kernel
theorem dX12_init_142 : decode cX12_init 142 = .ok (.sipush 256, 3) := by decide +kernel
theorem dX12_init_145 : decode cX12_init 145 = .ok (.newarray .boolean, 2) := by decide +kernel
theorem dX12_init_147 : decode cX12_init 147 = .ok (.putfield 86, 3) := by decide +kernel
theorem dX12_init_150 : decode cX12_init 150 = .ok (.aload_n 0, 1) := by decide +kernel
theorem dX12_init_151 : decode cX12_init 151 = .ok (.sipush 256, 3) := by decide +kernel
theorem dX12_init_154 : decode cX12_init 154 = .ok (.newarray .boolean, 2) := by decide +kernel
theorem dX12_init_156 : decode cX12_init 156 = .ok (.putfield 90, 3) := by decide +kernel
theorem dX12_init_159 : decode cX12_init 159 = .ok (.aload_n 0, 1) := by decide +kernel
theorem dX12_init_160 : decode cX12_init 160 = .ok (.bipush 48, 2) := by decide +kernel
theorem dX12_init_162 : decode cX12_init 162 = .ok (.newarray .byte, 2) := by decide +kernel
theorem dX12_init_164 : decode cX12_init 164 = .ok (.putfield 93, 3) := by decide +kernel
theorem dX12_init_167 : decode cX12_init 167 = .ok (.aload_n 0, 1) := by decide +kernel
theorem dX12_init_168 : decode cX12_init 168 = .ok (.iconst 4, 1) := by decide +kernel
theorem dX12_init_169 : decode cX12_init 169 = .ok (.newarray .int, 2) := by decide +kernel
theorem dX12_init_171 : decode cX12_init 171 = .ok (.putfield 96, 3) := by decide +kernel
theorem dX12_init_174 : decode cX12_init 174 = .ok (.aload_n 0, 1) := by decide +kernel
theorem dX12_init_175 : decode cX12_init 175 = .ok (.bipush 45, 2) := by decide +kernel
theorem dX12_init_177 : decode cX12_init 177 = .ok (.newarray .int, 2) := by decide +kernel
theorem dX12_init_179 : decode cX12_init 179 = .ok (.putfield 99, 3) := by decide +kernel
theorem dX12_init_182 : decode cX12_init 182 = .ok (.aload_n 0, 1) := by decide +kernel
theorem dX12_init_183 : decode cX12_init 183 = .ok (.bipush 45, 2) := by decide +kernel
theorem dX12_init_185 : decode cX12_init 185 = .ok (.newarray .boolean, 2) := by decide +kernel
theorem dX12_init_187 : decode cX12_init 187 = .ok (.putfield 102, 3) := by decide +kernel
theorem dX12_init_190 : decode cX12_init 190 = .ok (.aload_n 0, 1) := by decide +kernel
theorem dX12_init_191 : decode cX12_init 191 = .ok (.sipush 604, 3) := by decide +kernel
theorem dX12_init_194 : decode cX12_init 194 = .ok (.newarray .int, 2) := by decide +kernel
theorem dX12_init_196 : decode cX12_init 196 = .ok (.putfield 105, 3) := by decide +kernel
theorem dX12_init_199 : decode cX12_init 199 = .ok (.aload_n 0, 1) := by decide +kernel
theorem dX12_init_200 : decode cX12_init 200 = .ok (.bipush 40, 2) := by decide +kernel
theorem dX12_init_202 : decode cX12_init 202 = .ok (.newarray .long, 2) := by decide +kernel
theorem dX12_init_204 : decode cX12_init 204 = .ok (.putfield 108, 3) := by decide +kernel
theorem dX12_init_207 : decode cX12_init 207 = .ok (.aload_n 0, 1) := by decide +kernel
theorem dX12_init_208 : decode cX12_init 208 = .ok (.iconst 2, 1) := by decide +kernel
theorem dX12_init_209 : decode cX12_init 209 = .ok (.newarray .boolean, 2) := by decide +kernel
theorem dX12_init_211 : decode cX12_init 211 = .ok (.putfield 111, 3) := by decide +kernel
theorem dX12_init_214 : decode cX12_init 214 = .ok (.aload_n 0, 1) := by decide +kernel
theorem dX12_init_215 : decode cX12_init 215 = .ok (.getfield 47, 3) := by decide +kernel
theorem dX12_init_218 : decode cX12_init 218 = .ok (.iconst 0, 1) := by decide +kernel
theorem dX12_init_219 : decode cX12_init 219 = .ok (.ldc2_w 114, 3) := by decide +kernel
theorem dX12_init_222 : decode cX12_init 222 = .ok (.lastore, 1) := by decide +kernel
theorem dX12_init_223 : decode cX12_init 223 = .ok (.aload_n 0, 1) := by decide +kernel
theorem dX12_init_224 : decode cX12_init 224 = .ok (.getfield 47, 3) := by decide +kernel
theorem dX12_init_227 : decode cX12_init 227 = .ok (.iconst 1, 1) := by decide +kernel
theorem dX12_init_228 : decode cX12_init 228 = .ok (.ldc2_w 116, 3) := by decide +kernel
theorem dX12_init_231 : decode cX12_init 231 = .ok (.lastore, 1) := by decide +kernel
theorem dX12_init_232 : decode cX12_init 232 = .ok (.aload_n 0, 1) := by decide +kernel
theorem dX12_init_233 : decode cX12_init 233 = .ok (.getfield 47, 3) := by decide +kernel
theorem dX12_init_236 : decode cX12_init 236 = .ok (.iconst 2, 1) := by decide +kernel
theorem dX12_init_237 : decode cX12_init 237 = .ok (.ldc2_w 118, 3) := by decide +kernel
theorem dX12_init_240 : decode cX12_init 240 = .ok (.lastore, 1) := by decide +kernel
theorem dX12_init_241 : decode cX12_init 241 = .ok (.aload_n 0, 1) := by decide +kernel
theorem dX12_init_242 : decode cX12_init 242 = .ok (.getfield 47, 3) := by decide +kernel
theorem dX12_init_245 : decode cX12_init 245 = .ok (.iconst 3, 1) := by decide +kernel
theorem dX12_init_246 : decode cX12_init 246 = .ok (.ldc2_w 120, 3) := by decide +kernel
theorem dX12_init_249 : decode cX12_init 249 = .ok (.lastore, 1) := by decide +kernel
theorem dX12_init_250 : decode cX12_init 250 = .ok (.aload_n 0, 1) := by decide +kernel
theorem dX12_init_251 : decode cX12_init 251 = .ok (.getfield 47, 3) := by decide +kernel
theorem dX12_init_254 : decode cX12_init 254 = .ok (.iconst 4, 1) := by decide +kernel
theorem dX12_init_255 : decode cX12_init 255 = .ok (.ldc2_w 122, 3) := by decide +kernel
theorem dX12_init_258 : decode cX12_init 258 = .ok (.lastore, 1) := by decide +kernel
theorem dX12_init_259 : decode cX12_init 259 = .ok (.aload_n 0, 1) := by decide +kernel
theorem dX12_init_260 : decode cX12_init 260 = .ok (.getfield 47, 3) := by decide +kernel
theorem dX12_init_263 : decode cX12_init 263 = .ok (.iconst 5, 1) := by decide +kernel
theorem dX12_init_264 : decode cX12_init 264 = .ok (.ldc2_w 124, 3) := by decide +kernel
theorem dX12_init_267 : decode cX12_init 267 = .ok (.lastore, 1) := by decide +kernel
theorem dX12_init_268 : decode cX12_init 268 = .ok (.aload_n 0, 1) := by decide +kernel
theorem dX12_init_269 : decode cX12_init 269 = .ok (.getfield 47, 3) := by decide +kernel
theorem dX12_init_272 : decode cX12_init 272 = .ok (.bipush 6, 2) := by decide +kernel
theorem dX12_init_274 : decode cX12_init 274 = .ok (.ldc2_w 126, 3) := by decide +kernel
theorem dX12_init_277 : decode cX12_init 277 = .ok (.lastore, 1) := by decide +kernel
theorem dX12_init_278 : decode cX12_init 278 = .ok (.aload_n 0, 1) := by decide +kernel
theorem dX12_init_279 : decode cX12_init 279 = .ok (.getfield 47, 3) := by decide +kernel
theorem dX12_init_282 : decode cX12_init 282 = .ok (.bipush 7, 2) := by decide +kernel
theorem dX12_init_284 : decode cX12_init 284 = .ok (.ldc2_w 128, 3) := by decide +kernel
theorem dX12_init_287 : decode cX12_init 287 = .ok (.lastore, 1) := by decide +kernel
theorem dX12_init_288 : decode cX12_init 288 = .ok (.aload_n 0, 1) := by decide +kernel
theorem dX12_init_289 : decode cX12_init 289 = .ok (.getfield 47, 3) := by decide +kernel
theorem dX12_init_292 : decode cX12_init 292 = .ok (.bipush 8, 2) := by decide +kernel
theorem dX12_init_294 : decode cX12_init 294 = .ok (.ldc2_w 130, 3) := by decide +kernel
theorem dX12_init_297 : decode cX12_init 297 = .ok (.lastore, 1) := by decide +kernel
theorem dX12_init_298 : decode cX12_init 298 = .ok (.aload_n 0, 1) := by decide +kernel
theorem dX12_init_299 : decode cX12_init 299 = .ok (.getfield 47, 3) := by decide +kernel
theorem dX12_init_302 : decode cX12_init 302 = .ok (.bipush 9, 2) := by decide +kernel
theorem dX12_init_304 : decode cX12_init 304 = .ok (.ldc2_w 132, 3) := by decide +kernel
theorem dX12_init_307 : decode cX12_init 307 = .ok (.lastore, 1) := by decide +kernel
theorem dX12_init_308 : decode cX12_init 308 = .ok (.aload_n 0, 1) := by decide +kernel
theorem dX12_init_309 : decode cX12_init 309 = .ok (.getfield 47, 3) := by decide +kernel
theorem dX12_init_312 : decode cX12_init 312 = .ok (.bipush 10, 2) := by decide +kernel
theorem dX12_init_314 : decode cX12_init 314 = .ok (.ldc2_w 134, 3) := by decide +kernel
theorem dX12_init_317 : decode cX12_init 317 = .ok (.lastore, 1) := by decide +kernel
theorem dX12_init_318 : decode cX12_init 318 = .ok (.aload_n 0, 1) := by decide +kernel
theorem dX12_init_319 : decode cX12_init 319 = .ok (.getfield 47, 3) := by decide +kernel
theorem dX12_init_322 : decode cX12_init 322 = .ok (.bipush 11, 2) := by decide +kernel
theorem dX12_init_324 : decode cX12_init 324 = .ok (.ldc2_w 136, 3) := by decide +kernel
theorem dX12_init_327 : decode cX12_init 327 = .ok (.lastore, 1) := by decide +kernel
theorem dX12_init_328 : decode cX12_init 328 = .ok (.aload_n 0, 1) := by decide +kernel
theorem dX12_init_329 : decode cX12_init 329 = .ok (.getfield 47, 3) := by decide +kernel
theorem dX12_init_332 : decode cX12_init 332 = .ok (.bipush 12, 2) := by decide +kernel
theorem dX12_init_334 : decode cX12_init 334 = .ok (.ldc2_w 138, 3) := by decide +kernel
theorem dX12_init_337 : decode cX12_init 337 = .ok (.lastore, 1) := by decide +kernel
theorem dX12_init_338 : decode cX12_init 338 = .ok (.aload_n 0, 1) := by decide +kernel
theorem dX12_init_339 : decode cX12_init 339 = .ok (.getfield 47, 3) := by decide +kernel
theorem dX12_init_342 : decode cX12_init 342 = .ok (.bipush 13, 2) := by decide +kernel
theorem dX12_init_344 : decode cX12_init 344 = .ok (.ldc2_w 140, 3) := by decide +kernel
theorem dX12_init_347 : decode cX12_init 347 = .ok (.lastore, 1) := by decide +kernel
theorem dX12_init_348 : decode cX12_init 348 = .ok (.aload_n 0, 1) := by decide +kernel
theorem dX12_init_349 : decode cX12_init 349 = .ok (.getfield 47, 3) := by decide +kernel
theorem dX12_init_352 : decode cX12_init 352 = .ok (.bipush 14, 2) := by decide +kernel
theorem dX12_init_354 : decode cX12_init 354 = .ok (.ldc2_w 142, 3) := by decide +kernel
theorem dX12_init_357 : decode cX12_init 357 = .ok (.lastore, 1) := by decide +kernel
theorem dX12_init_358 : decode cX12_init 358 = .ok (.aload_n 0, 1) := by decide +kernel
theorem dX12_init_359 : decode cX12_init 359 = .ok (.getfield 47, 3) := by decide +kernel
theorem dX12_init_362 : decode cX12_init 362 = .ok (.bipush 15, 2) := by decide +kernel
theorem dX12_init_364 : decode cX12_init 364 = .ok (.ldc2_w 144, 3) := by decide +kernel
theorem dX12_init_367 : decode cX12_init 367 = .ok (.lastore, 1) := by decide +kernel
theorem dX12_init_368 : decode cX12_init 368 = .ok (.aload_n 0, 1) := by decide +kernel
theorem dX12_init_369 : decode cX12_init 369 = .ok (.getfield 47, 3) := by decide +kernel
theorem dX12_init_372 : decode cX12_init 372 = .ok (.bipush 16, 2) := by decide +kernel
theorem dX12_init_374 : decode cX12_init 374 = .ok (.ldc2_w 146, 3) := by decide +kernel
theorem dX12_init_377 : decode cX12_init 377 = .ok (.lastore, 1) := by decide +kernel
theorem dX12_init_378 : decode cX12_init 378 = .ok (.aload_n 0, 1) := by decide +kernel
theorem dX12_init_379 : decode cX12_init 379 = .ok (.getfield 47, 3) := by decide +kernel
theorem dX12_init_382 : decode cX12_init 382 = .ok (.bipush 17, 2) := by decide +kernel
theorem dX12_init_384 : decode cX12_init 384 = .ok (.ldc2_w 148, 3) := by decide +kernel
theorem dX12_init_387 : decode cX12_init 387 = .ok (.lastore, 1) := by decide +kernel
theorem dX12_init_388 : decode cX12_init 388 = .ok (.aload_n 0, 1) := by decide +kernel
theorem dX12_init_389 : decode cX12_init 389 = .ok (.getfield 47, 3) := by decide +kernel
theorem dX12_init_392 : decode cX12_init 392 = .ok (.bipush 18, 2) := by decide +kernel
theorem dX12_init_394 : decode cX12_init 394 = .ok (.ldc2_w 150, 3) := by decide +kernel
theorem dX12_init_397 : decode cX12_init 397 = .ok (.lastore, 1) := by decide +kernel
theorem dX12_init_398 : decode cX12_init 398 = .ok (.aload_n 0, 1) := by decide +kernel
theorem dX12_init_399 : decode cX12_init 399 = .ok (.getfield 47, 3) := by decide +kernel
theorem dX12_init_402 : decode cX12_init 402 = .ok (.bipush 19, 2) := by decide +kernel
theorem dX12_init_404 : decode cX12_init 404 = .ok (.ldc2_w 152, 3) := by decide +kernel
theorem dX12_init_407 : decode cX12_init 407 = .ok (.lastore, 1) := by decide +kernel
theorem dX12_init_408 : decode cX12_init 408 = .ok (.aload_n 0, 1) := by decide +kernel
theorem dX12_init_409 : decode cX12_init 409 = .ok (.getfield 47, 3) := by decide +kernel
theorem dX12_init_412 : decode cX12_init 412 = .ok (.bipush 20, 2) := by decide +kernel
theorem dX12_init_414 : decode cX12_init 414 = .ok (.ldc2_w 154, 3) := by decide +kernel
theorem dX12_init_417 : decode cX12_init 417 = .ok (.lastore, 1) := by decide +kernel
theorem dX12_init_418 : decode cX12_init 418 = .ok (.aload_n 0, 1) := by decide +kernel
theorem dX12_init_419 : decode cX12_init 419 = .ok (.getfield 47, 3) := by decide +kernel
theorem dX12_init_422 : decode cX12_init 422 = .ok (.bipush 21, 2) := by decide +kernel
theorem dX12_init_424 : decode cX12_init 424 = .ok (.ldc2_w 156, 3) := by decide +kernel
theorem dX12_init_427 : decode cX12_init 427 = .ok (.lastore, 1) := by decide +kernel
theorem dX12_init_428 : decode cX12_init 428 = .ok (.aload_n 0, 1) := by decide +kernel
theorem dX12_init_429 : decode cX12_init 429 = .ok (.getfield 47, 3) := by decide +kernel
theorem dX12_init_432 : decode cX12_init 432 = .ok (.bipush 22, 2) := by decide +kernel
theorem dX12_init_434 : decode cX12_init 434 = .ok (.ldc2_w 158, 3) := by decide +kernel
theorem dX12_init_437 : decode cX12_init 437 = .ok (.lastore, 1) := by decide +kernel
theorem dX12_init_438 : decode cX12_init 438 = .ok (.aload_n 0, 1) := by decide +kernel
theorem dX12_init_439 : decode cX12_init 439 = .ok (.getfield 47, 3) := by decide +kernel
theorem dX12_init_442 : decode cX12_init 442 = .ok (.bipush 23, 2) := by decide +kernel
theorem dX12_init_444 : decode cX12_init 444 = .ok (.ldc2_w 160, 3) := by decide +kernel
theorem dX12_init_447 : decode cX12_init 447 = .ok (.lastore, 1) := by decide +kernel
theorem dX12_init_448 : decode cX12_init 448 = .ok (.aload_n 0, 1) := by decide +kernel
theorem dX12_init_449 : decode cX12_init 449 = .ok (.getfield 47, 3) := by decide +kernel
theorem dX12_init_452 : decode cX12_init 452 = .ok (.bipush 24, 2) := by decide +kernel
theorem dX12_init_454 : decode cX12_init 454 = .ok (.ldc2_w 162, 3) := by decide +kernel
theorem dX12_init_457 : decode cX12_init 457 = .ok (.lastore, 1) := by decide +kernel
theorem dX12_init_458 : decode cX12_init 458 = .ok (.aload_n 0, 1) := by decide +kernel
theorem dX12_init_459 : decode cX12_init 459 = .ok (.getfield 47, 3) := by decide +kernel
theorem dX12_init_462 : decode cX12_init 462 = .ok (.bipush 25, 2) := by decide +kernel
theorem dX12_init_464 : decode cX12_init 464 = .ok (.ldc2_w 164, 3) := by decide +kernel
theorem dX12_init_467 : decode cX12_init 467 = .ok (.lastore, 1) := by decide +kernel
theorem dX12_init_468 : decode cX12_init 468 = .ok (.aload_n 0, 1) := by decide +kernel
theorem dX12_init_469 : decode cX12_init 469 = .ok (.getfield 47, 3) := by decide +kernel
theorem dX12_init_472 : decode cX12_init 472 = .ok (.bipush 26, 2) := by decide +kernel
theorem dX12_init_474 : decode cX12_init 474 = .ok (.ldc2_w 166, 3) := by decide +kernel
theorem dX12_init_477 : decode cX12_init 477 = .ok (.lastore, 1) := by decide +kernel
theorem dX12_init_478 : decode cX12_init 478 = .ok (.aload_n 0, 1) := by decide +kernel
theorem dX12_init_479 : decode cX12_init 479 = .ok (.getfield 47, 3) := by decide +kernel
theorem dX12_init_482 : decode cX12_init 482 = .ok (.bipush 27, 2) := by decide +kernel
theorem dX12_init_484 : decode cX12_init 484 = .ok (.ldc2_w 168, 3) := by decide +kernel
theorem dX12_init_487 : decode cX12_init 487 = .ok (.lastore, 1) := by decide +kernel
theorem dX12_init_488 : decode cX12_init 488 = .ok (.aload_n 0, 1) := by decide +kernel
theorem dX12_init_489 : decode cX12_init 489 = .ok (.getfield 47, 3) := by decide +kernel
theorem dX12_init_492 : decode cX12_init 492 = .ok (.bipush 28, 2) := by decide +kernel
theorem dX12_init_494 : decode cX12_init 494 = .ok (.ldc2_w 170, 3) := by decide +kernel
theorem dX12_init_497 : decode cX12_init 497 = .ok (.lastore, 1) := by decide +kernel
theorem dX12_init_498 : decode cX12_init 498 = .ok (.aload_n 0, 1) := by decide +kernel
theorem dX12_init_499 : decode cX12_init 499 = .ok (.getfield 47, 3) := by decide +kernel
theorem dX12_init_502 : decode cX12_init 502 = .ok (.bipush 29, 2) := by decide +kernel
theorem dX12_init_504 : decode cX12_init 504 = .ok (.ldc2_w 172, 3) := by decide +kernel
theorem dX12_init_507 : decode cX12_init 507 = .ok (.lastore, 1) := by decide +kernel
theorem dX12_init_508 : decode cX12_init 508 = .ok (.aload_n 0, 1) := by decide +kernel
theorem dX12_init_509 : decode cX12_init 509 = .ok (.getfield 47, 3) := by decide +kernel
theorem dX12_init_512 : decode cX12_init 512 = .ok (.bipush 30, 2) := by decide +kernel
theorem dX12_init_514 : decode cX12_init 514 = .ok (.ldc2_w 174, 3) := by decide +kernel
theorem dX12_init_517 : decode cX12_init 517 = .ok (.lastore, 1) := by decide +kernel
theorem dX12_init_518 : decode cX12_init 518 = .ok (.aload_n 0, 1) := by decide +kernel
theorem dX12_init_519 : decode cX12_init 519 = .ok (.getfield 47, 3) := by decide +kernel
theorem dX12_init_522 : decode cX12_init 522 = .ok (.bipush 31, 2) := by decide +kernel
theorem dX12_init_524 : decode cX12_init 524 = .ok (.ldc2_w 176, 3) := by decide +kernel
theorem dX12_init_527 : decode cX12_init 527 = .ok (.lastore, 1) := by decide +kernel
theorem dX12_init_528 : decode cX12_init 528 = .ok (.aload_n 0, 1) := by decide +kernel
theorem dX12_init_529 : decode cX12_init 529 = .ok (.invokevirtual 178, 3) := by decide +kernel
theorem dX12_init_532 : decode cX12_init 532 = .ok (.iconst 0, 1) := by decide +kernel
theorem dX12_init_533 : decode cX12_init 533 = .ok (.istore_n 1, 1) := by decide +kernel
theorem dX12_init_534 : decode cX12_init 534 = .ok (.iload_n 1, 1) := by decide +kernel
theorem dX12_init_535 : decode cX12_init 535 = .ok (.bipush 97, 2) := by decide +kernel
theorem dX12_init_537 : decode cX12_init 537 = .ok (.if_icmp .ge 21, 3) := by decide +kernel
theorem dX12_init_540 : decode cX12_init 540 = .ok (.aload_n 0, 1) := by decide +kernel
theorem dX12_init_541 : decode cX12_init 541 = .ok (.getfield 33, 3) := by decide +kernel
theorem dX12_init_544 : decode cX12_init 544 = .ok (.iload_n 1, 1) := by decide +kernel
theorem dX12_init_545 : decode cX12_init 545 = .ok (.aload_n 0, 1) := by decide +kernel
theorem dX12_init_546 : decode cX12_init 546 = .ok (.getfield 37, 3) := by decide +kernel
theorem dX12_init_549 : decode cX12_init 549 = .ok (.iload_n 1, 1) := by decide +kernel
theorem dX12_init_550 : decode cX12_init 550 = .ok (.iaload, 1) := by decide +kernel
theorem dX12_init_551 : decode cX12_init 551 = .ok (.iastore, 1) := by decide +kernel
theorem dX12_init_552 : decode cX12_init 552 = .ok (.iinc 1 1, 3) := by decide +kernel
theorem dX12_init_555 : decode cX12_init 555 = .ok (.goto (-21), 3) := by decide +kernel
theorem dX12_init_558 : decode cX12_init 558 = .ok (.return_, 1) := by decide +kernel
theorem dX12_clears_0 : decode cX12_clears 0 = .ok (.iconst 0, 1) := by decide +kernel
theorem dX12_clears_1 : decode cX12_clears 1 = .ok (.istore_n 1, 1) := by decide +kernel
theorem dX12_clears_2 : decode cX12_clears 2 = .ok (.iload_n 1, 1) := by decide +kernel
theorem dX12_clears_3 : decode cX12_clears 3 = .ok (.bipush 97, 2) := by decide +kernel
theorem dX12_clears_5 : decode cX12_clears 5 = .ok (.if_icmp .ge 16, 3) := by decide +kernel
theorem dX12_clears_8 : decode cX12_clears 8 = .ok (.aload_n 0, 1) := by decide +kernel
theorem dX12_clears_9 : decode cX12_clears 9 = .ok (.getfield 37, 3) := by decide +kernel
theorem dX12_clears_12 : decode cX12_clears 12 = .ok (.iload_n 1, 1) := by decide +kernel
theorem dX12_clears_13 : decode cX12_clears 13 = .ok (.iconst 0, 1) := by decide +kernel
theorem dX12_clears_14 : decode cX12_clears 14 = .ok (.iastore, 1) := by decide +kernel
theorem dX12_clears_15 : decode cX12_clears 15 = .ok (.iinc 1 1, 3) := by decide +kernel
theorem dX12_clears_18 : decode cX12_clears 18 = .ok (.goto (-16), 3) := by decide +kernel
theorem dX12_clears_21 : decode cX12_clears 21 = .ok (.aload_n 0, 1) := by decide +kernel
theorem dX12_clears_22 : decode cX12_clears 22 = .ok (.getfield 37, 3) := by decide +kernel
theorem dX12_clears_25 : decode cX12_clears 25 = .ok (.iconst 3, 1) := by decide +kernel
theorem dX12_clears_26 : decode cX12_clears 26 = .ok (.bipush 6, 2) := by decide +kernel
theorem dX12_clears_28 : decode cX12_clears 28 = .ok (.iastore, 1) := by decide +kernel
theorem dX12_clears_29 : decode cX12_clears 29 = .ok (.aload_n 0, 1) := by decide +kernel
theorem dX12_clears_30 : decode cX12_clears 30 = .ok (.getfield 37, 3) := by decide +kernel
theorem dX12_clears_33 : decode cX12_clears 33 = .ok (.iconst 4, 1) := by decide +kernel
theorem dX12_clears_34 : decode cX12_clears 34 = .ok (.bipush 6, 2) := by decide +kernel
theorem dX12_clears_36 : decode cX12_clears 36 = .ok (.iastore, 1) := by decide +kernel
theorem dX12_clears_37 : decode cX12_clears 37 = .ok (.aload_n 0, 1) := by decide +kernel
theorem dX12_clears_38 : decode cX12_clears 38 = .ok (.getfield 37, 3) := by decide +kernel
theorem dX12_clears_41 : decode cX12_clears 41 = .ok (.iconst 5, 1) := by decide +kernel
theorem dX12_clears_42 : decode cX12_clears 42 = .ok (.bipush 6, 2) := by decide +kernel
theorem dX12_clears_44 : decode cX12_clears 44 = .ok (.iastore, 1) := by decide +kernel
theorem dX12_clears_45 : decode cX12_clears 45 = .ok (.aload_n 0, 1) := by decide +kernel
theorem dX12_clears_46 : decode cX12_clears 46 = .ok (.getfield 37, 3) := by decide +kernel
theorem dX12_clears_49 : decode cX12_clears 49 = .ok (.bipush 6, 2) := by decide +kernel
theorem dX12_clears_51 : decode cX12_clears 51 = .ok (.bipush 17, 2) := by decide +kernel
theorem dX12_clears_53 : decode cX12_clears 53 = .ok (.iastore, 1) := by decide +kernel
theorem dX12_clears_54 : decode cX12_clears 54 = .ok (.return_, 1) := by decide +kernel
theorem dX12_peek_0 : decode cX12_peek 0 = .ok (.aload_n 0, 1) := by decide +kernel
theorem dX12_peek_1 : decode cX12_peek 1 = .ok (.getfield 21, 3) := by decide +kernel
theorem dX12_peek_4 : decode cX12_peek 4 = .ok (.aload_n 0, 1) := by decide +kernel
theorem dX12_peek_5 : decode cX12_peek 5 = .ok (.getfield 18, 3) := by decide +kernel
theorem dX12_peek_8 : decode cX12_peek 8 = .ok (.if_icmp .ge 19, 3) := by decide +kernel
theorem dX12_peek_11 : decode cX12_peek 11 = .ok (.aload_n 0, 1) := by decide +kernel
theorem dX12_peek_12 : decode cX12_peek 12 = .ok (.getfield 14, 3) := by decide +kernel
theorem dX12_peek_15 : decode cX12_peek 15 = .ok (.aload_n 0, 1) := by decide +kernel
theorem dX12_peek_16 : decode cX12_peek 16 = .ok (.getfield 21, 3) := by decide +kernel
theorem dX12_peek_19 : decode cX12_peek 19 = .ok (.baload, 1) := by decide +kernel
theorem dX12_peek_20 : decode cX12_peek 20 = .ok (.sipush 255, 3) := by decide +kernel
theorem dX12_peek_23 : decode cX12_peek 23 = .ok (.iand, 1) := by decide +kernel
theorem dX12_peek_24 : decode cX12_peek 24 = .ok (.goto 4, 3) := by decide +kernel
theorem dX12_peek_27 : decode cX12_peek 27 = .ok (.iconst (-1), 1) := by decide +kernel
theorem dX12_peek_28 : decode cX12_peek 28 = .ok (.ireturn, 1) := by decide +kernel
theorem dX12_isSmall_0 : decode cX12_isSmall 0 = .ok (.iload_n 0, 1) := by decide +kernel
theorem dX12_isSmall_1 : decode cX12_isSmall 1 = .ok (.bipush 97, 2) := by decide +kernel
theorem dX12_isSmall_3 : decode cX12_isSmall 3 = .ok (.if_icmp .lt 13, 3) := by decide +kernel
theorem dX12_isSmall_6 : decode cX12_isSmall 6 = .ok (.iload_n 0, 1) := by decide +kernel
theorem dX12_isSmall_7 : decode cX12_isSmall 7 = .ok (.bipush 122, 2) := by decide +kernel
theorem dX12_isSmall_9 : decode cX12_isSmall 9 = .ok (.if_icmp .gt 7, 3) := by decide +kernel
theorem dX12_isSmall_12 : decode cX12_isSmall 12 = .ok (.iconst 1, 1) := by decide +kernel
theorem dX12_isSmall_13 : decode cX12_isSmall 13 = .ok (.goto 4, 3) := by decide +kernel
theorem dX12_isSmall_16 : decode cX12_isSmall 16 = .ok (.iconst 0, 1) := by decide +kernel
theorem dX12_isSmall_17 : decode cX12_isSmall 17 = .ok (.ireturn, 1) := by decide +kernel
theorem dX12_isDigit_0 : decode cX12_isDigit 0 = .ok (.iload_n 0, 1) := by decide +kernel
theorem dX12_isDigit_1 : decode cX12_isDigit 1 = .ok (.bipush 48, 2) := by decide +kernel
theorem dX12_isDigit_3 : decode cX12_isDigit 3 = .ok (.if_icmp .lt 13, 3) := by decide +kernel
theorem dX12_isDigit_6 : decode cX12_isDigit 6 = .ok (.iload_n 0, 1) := by decide +kernel
theorem dX12_isDigit_7 : decode cX12_isDigit 7 = .ok (.bipush 57, 2) := by decide +kernel
theorem dX12_isDigit_9 : decode cX12_isDigit 9 = .ok (.if_icmp .gt 7, 3) := by decide +kernel
theorem dX12_isDigit_12 : decode cX12_isDigit 12 = .ok (.iconst 1, 1) := by decide +kernel
theorem dX12_isDigit_13 : decode cX12_isDigit 13 = .ok (.goto 4, 3) := by decide +kernel
theorem dX12_isDigit_16 : decode cX12_isDigit 16 = .ok (.iconst 0, 1) := by decide +kernel
theorem dX12_isDigit_17 : decode cX12_isDigit 17 = .ok (.ireturn, 1) := by decide +kernel
theorem dX12_go_0 : decode cX12_go 0 = .ok (.aload_n 0, 1) := by decide +kernel
theorem dX12_go_1 : decode cX12_go 1 = .ok (.invokevirtual 181, 3) := by decide +kernel
theorem dX12_go_4 : decode cX12_go 4 = .ok (.bipush 32, 2) := by decide +kernel
theorem dX12_go_6 : decode cX12_go 6 = .ok (.if_icmp .eq 12, 3) := by decide +kernel
theorem dX12_go_9 : decode cX12_go 9 = .ok (.aload_n 0, 1) := by decide +kernel
theorem dX12_go_10 : decode cX12_go 10 = .ok (.invokevirtual 181, 3) := by decide +kernel
theorem dX12_go_13 : decode cX12_go 13 = .ok (.bipush 10, 2) := by decide +kernel
theorem dX12_go_15 : decode cX12_go 15 = .ok (.if_icmp .ne 16, 3) := by decide +kernel
theorem dX12_go_18 : decode cX12_go 18 = .ok (.aload_n 0, 1) := by decide +kernel
theorem dX12_go_19 : decode cX12_go 19 = .ok (.dup, 1) := by decide +kernel
theorem dX12_go_20 : decode cX12_go 20 = .ok (.getfield 21, 3) := by decide +kernel
theorem dX12_go_23 : decode cX12_go 23 = .ok (.iconst 1, 1) := by decide +kernel
theorem dX12_go_24 : decode cX12_go 24 = .ok (.iadd, 1) := by decide +kernel
theorem dX12_go_25 : decode cX12_go 25 = .ok (.putfield 21, 3) := by decide +kernel
theorem dX12_go_28 : decode cX12_go 28 = .ok (.goto (-28), 3) := by decide +kernel
theorem dX12_go_31 : decode cX12_go 31 = .ok (.aload_n 0, 1) := by decide +kernel
theorem dX12_go_32 : decode cX12_go 32 = .ok (.aload_n 0, 1) := by decide +kernel
theorem dX12_go_33 : decode cX12_go 33 = .ok (.getfield 21, 3) := by decide +kernel
theorem dX12_go_36 : decode cX12_go 36 = .ok (.putfield 185, 3) := by decide +kernel
theorem dX12_go_39 : decode cX12_go 39 = .ok (.aload_n 0, 1) := by decide +kernel
theorem dX12_go_40 : decode cX12_go 40 = .ok (.iconst 0, 1) := by decide +kernel
theorem dX12_go_41 : decode cX12_go 41 = .ok (.putfield 188, 3) := by decide +kernel
theorem dX12_go_44 : decode cX12_go 44 = .ok (.aload_n 0, 1) := by decide +kernel
theorem dX12_go_45 : decode cX12_go 45 = .ok (.getfield 18, 3) := by decide +kernel
theorem dX12_go_48 : decode cX12_go 48 = .ok (.aload_n 0, 1) := by decide +kernel
theorem dX12_go_49 : decode cX12_go 49 = .ok (.getfield 24, 3) := by decide +kernel
theorem dX12_go_52 : decode cX12_go 52 = .ok (.if_icmp .le 28, 3) := by decide +kernel
theorem dX12_go_55 : decode cX12_go 55 = .ok (.aload_n 0, 1) := by decide +kernel
theorem dX12_go_56 : decode cX12_go 56 = .ok (.getfield 21, 3) := by decide +kernel
theorem dX12_go_59 : decode cX12_go 59 = .ok (.aload_n 0, 1) := by decide +kernel
theorem dX12_go_60 : decode cX12_go 60 = .ok (.getfield 24, 3) := by decide +kernel
theorem dX12_go_63 : decode cX12_go 63 = .ok (.if_icmp .lt 17, 3) := by decide +kernel
theorem dX12_go_66 : decode cX12_go 66 = .ok (.aload_n 0, 1) := by decide +kernel
theorem dX12_go_67 : decode cX12_go 67 = .ok (.aload_n 0, 1) := by decide +kernel
theorem dX12_go_68 : decode cX12_go 68 = .ok (.getfield 24, 3) := by decide +kernel
theorem dX12_go_71 : decode cX12_go 71 = .ok (.putfield 185, 3) := by decide +kernel
theorem dX12_go_74 : decode cX12_go 74 = .ok (.aload_n 0, 1) := by decide +kernel
theorem dX12_go_75 : decode cX12_go 75 = .ok (.iconst 4, 1) := by decide +kernel
theorem dX12_go_76 : decode cX12_go 76 = .ok (.putfield 191, 3) := by decide +kernel
theorem dX12_go_79 : decode cX12_go 79 = .ok (.return_, 1) := by decide +kernel
theorem dX12_go_80 : decode cX12_go 80 = .ok (.aload_n 0, 1) := by decide +kernel
theorem dX12_go_81 : decode cX12_go 81 = .ok (.invokevirtual 181, 3) := by decide +kernel
theorem dX12_go_84 : decode cX12_go 84 = .ok (.istore_n 1, 1) := by decide +kernel
theorem dX12_go_85 : decode cX12_go 85 = .ok (.iload_n 1, 1) := by decide +kernel
theorem dX12_go_86 : decode cX12_go 86 = .ok (.ifCond .ge 9, 3) := by decide +kernel
theorem dX12_go_89 : decode cX12_go 89 = .ok (.aload_n 0, 1) := by decide +kernel
theorem dX12_go_90 : decode cX12_go 90 = .ok (.iconst 0, 1) := by decide +kernel
theorem dX12_go_91 : decode cX12_go 91 = .ok (.putfield 191, 3) := by decide +kernel
theorem dX12_go_94 : decode cX12_go 94 = .ok (.return_, 1) := by decide +kernel
theorem dX12_go_95 : decode cX12_go 95 = .ok (.iload_n 1, 1) := by decide +kernel
theorem dX12_go_96 : decode cX12_go 96 = .ok (.invokestatic 194, 3) := by decide +kernel
theorem dX12_go_99 : decode cX12_go 99 = .ok (.ifCond .ne 65, 3) := by decide +kernel
theorem dX12_go_102 : decode cX12_go 102 = .ok (.iload_n 1, 1) := by decide +kernel
theorem dX12_go_103 : decode cX12_go 103 = .ok (.invokestatic 198, 3) := by decide +kernel
theorem dX12_go_106 : decode cX12_go 106 = .ok (.ifCond .ne 58, 3) := by decide +kernel
theorem dX12_go_109 : decode cX12_go 109 = .ok (.aload_n 0, 1) := by decide +kernel
theorem dX12_go_110 : decode cX12_go 110 = .ok (.iload_n 1, 1) := by decide +kernel
theorem dX12_go_111 : decode cX12_go 111 = .ok (.bipush 59, 2) := by decide +kernel
theorem dX12_go_113 : decode cX12_go 113 = .ok (.if_icmp .eq 27, 3) := by decide +kernel
theorem dX12_go_116 : decode cX12_go 116 = .ok (.iload_n 1, 1) := by decide +kernel
theorem dX12_go_117 : decode cX12_go 117 = .ok (.bipush 40, 2) := by decide +kernel
theorem dX12_go_119 : decode cX12_go 119 = .ok (.if_icmp .eq 21, 3) := by decide +kernel
theorem dX12_go_122 : decode cX12_go 122 = .ok (.iload_n 1, 1) := by decide +kernel
theorem dX12_go_123 : decode cX12_go 123 = .ok (.bipush 41, 2) := by decide +kernel
theorem dX12_go_125 : decode cX12_go 125 = .ok (.if_icmp .eq 15, 3) := by decide +kernel
theorem dX12_go_128 : decode cX12_go 128 = .ok (.iload_n 1, 1) := by decide +kernel
theorem dX12_go_129 : decode cX12_go 129 = .ok (.bipush 60, 2) := by decide +kernel
theorem dX12_go_131 : decode cX12_go 131 = .ok (.if_icmp .lt 13, 3) := by decide +kernel
theorem dX12_go_134 : decode cX12_go 134 = .ok (.iload_n 1, 1) := by decide +kernel
theorem dX12_go_135 : decode cX12_go 135 = .ok (.bipush 62, 2) := by decide +kernel
theorem dX12_go_137 : decode cX12_go 137 = .ok (.if_icmp .gt 7, 3) := by decide +kernel
theorem dX12_go_140 : decode cX12_go 140 = .ok (.iconst 3, 1) := by decide +kernel
theorem dX12_go_141 : decode cX12_go 141 = .ok (.goto 4, 3) := by decide +kernel
theorem dX12_go_144 : decode cX12_go 144 = .ok (.iconst 4, 1) := by decide +kernel
theorem dX12_go_145 : decode cX12_go 145 = .ok (.putfield 191, 3) := by decide +kernel
theorem dX12_go_148 : decode cX12_go 148 = .ok (.aload_n 0, 1) := by decide +kernel
theorem dX12_go_149 : decode cX12_go 149 = .ok (.iload_n 1, 1) := by decide +kernel
theorem dX12_go_150 : decode cX12_go 150 = .ok (.putfield 201, 3) := by decide +kernel
theorem dX12_go_153 : decode cX12_go 153 = .ok (.aload_n 0, 1) := by decide +kernel
theorem dX12_go_154 : decode cX12_go 154 = .ok (.dup, 1) := by decide +kernel
theorem dX12_go_155 : decode cX12_go 155 = .ok (.getfield 21, 3) := by decide +kernel
theorem dX12_go_158 : decode cX12_go 158 = .ok (.iconst 1, 1) := by decide +kernel
theorem dX12_go_159 : decode cX12_go 159 = .ok (.iadd, 1) := by decide +kernel
theorem dX12_go_160 : decode cX12_go 160 = .ok (.putfield 21, 3) := by decide +kernel
theorem dX12_go_163 : decode cX12_go 163 = .ok (.return_, 1) := by decide +kernel
theorem dX12_go_164 : decode cX12_go 164 = .ok (.iload_n 1, 1) := by decide +kernel
theorem dX12_go_165 : decode cX12_go 165 = .ok (.invokestatic 194, 3) := by decide +kernel
theorem dX12_go_168 : decode cX12_go 168 = .ok (.istore_n 2, 1) := by decide +kernel
theorem dX12_go_169 : decode cX12_go 169 = .ok (.iconst 1, 1) := by decide +kernel
theorem dX12_go_170 : decode cX12_go 170 = .ok (.istore_n 3, 1) := by decide +kernel
theorem dX12_go_171 : decode cX12_go 171 = .ok (.aload_n 0, 1) := by decide +kernel
theorem dX12_go_172 : decode cX12_go 172 = .ok (.lconst 0, 1) := by decide +kernel
theorem dX12_go_173 : decode cX12_go 173 = .ok (.putfield 204, 3) := by decide +kernel
theorem dX12_go_176 : decode cX12_go 176 = .ok (.aload_n 0, 1) := by decide +kernel
theorem dX12_go_177 : decode cX12_go 177 = .ok (.iconst 0, 1) := by decide +kernel
theorem dX12_go_178 : decode cX12_go 178 = .ok (.putfield 201, 3) := by decide +kernel
theorem dX12_go_181 : decode cX12_go 181 = .ok (.aload_n 0, 1) := by decide +kernel
theorem dX12_go_182 : decode cX12_go 182 = .ok (.invokevirtual 181, 3) := by decide +kernel
theorem dX12_go_185 : decode cX12_go 185 = .ok (.invokestatic 194, 3) := by decide +kernel
theorem dX12_go_188 : decode cX12_go 188 = .ok (.ifCond .ne 13, 3) := by decide +kernel
theorem dX12_go_191 : decode cX12_go 191 = .ok (.aload_n 0, 1) := by decide +kernel
theorem dX12_go_192 : decode cX12_go 192 = .ok (.invokevirtual 181, 3) := by decide +kernel
theorem dX12_go_195 : decode cX12_go 195 = .ok (.invokestatic 198, 3) := by decide +kernel
theorem dX12_go_198 : decode cX12_go 198 = .ok (.ifCond .eq 100, 3) := by decide +kernel
theorem dX12_go_201 : decode cX12_go 201 = .ok (.iload_n 3, 1) := by decide +kernel
theorem dX12_go_202 : decode cX12_go 202 = .ok (.ifCond .eq 18, 3) := by decide +kernel
theorem dX12_go_205 : decode cX12_go 205 = .ok (.aload_n 0, 1) := by decide +kernel
theorem dX12_go_206 : decode cX12_go 206 = .ok (.invokevirtual 181, 3) := by decide +kernel
theorem dX12_go_209 : decode cX12_go 209 = .ok (.invokestatic 194, 3) := by decide +kernel
theorem dX12_go_212 : decode cX12_go 212 = .ok (.iload_n 2, 1) := by decide +kernel
theorem dX12_go_213 : decode cX12_go 213 = .ok (.if_icmp .ne 7, 3) := by decide +kernel
theorem dX12_go_216 : decode cX12_go 216 = .ok (.iconst 1, 1) := by decide +kernel
theorem dX12_go_217 : decode cX12_go 217 = .ok (.goto 4, 3) := by decide +kernel
theorem dX12_go_220 : decode cX12_go 220 = .ok (.iconst 0, 1) := by decide +kernel
theorem dX12_go_221 : decode cX12_go 221 = .ok (.istore_n 3, 1) := by decide +kernel
theorem dX12_go_222 : decode cX12_go 222 = .ok (.aload_n 0, 1) := by decide +kernel
theorem dX12_go_223 : decode cX12_go 223 = .ok (.getfield 188, 3) := by decide +kernel
theorem dX12_go_226 : decode cX12_go 226 = .ok (.bipush 7, 2) := by decide +kernel
theorem dX12_go_228 : decode cX12_go 228 = .ok (.if_icmp .ge 20, 3) := by decide +kernel
theorem dX12_go_231 : decode cX12_go 231 = .ok (.aload_n 0, 1) := by decide +kernel
theorem dX12_go_232 : decode cX12_go 232 = .ok (.aload_n 0, 1) := by decide +kernel
theorem dX12_go_233 : decode cX12_go 233 = .ok (.getfield 204, 3) := by decide +kernel
theorem dX12_go_236 : decode cX12_go 236 = .ok (.bipush 8, 2) := by decide +kernel
theorem dX12_go_238 : decode cX12_go 238 = .ok (.lshl, 1) := by decide +kernel
theorem dX12_go_239 : decode cX12_go 239 = .ok (.aload_n 0, 1) := by decide +kernel
theorem dX12_go_240 : decode cX12_go 240 = .ok (.invokevirtual 181, 3) := by decide +kernel
theorem dX12_go_243 : decode cX12_go 243 = .ok (.i2l, 1) := by decide +kernel
theorem dX12_go_244 : decode cX12_go 244 = .ok (.lor, 1) := by decide +kernel
theorem dX12_go_245 : decode cX12_go 245 = .ok (.putfield 204, 3) := by decide +kernel
theorem dX12_go_248 : decode cX12_go 248 = .ok (.aload_n 0, 1) := by decide +kernel
theorem dX12_go_249 : decode cX12_go 249 = .ok (.getfield 188, 3) := by decide +kernel
theorem dX12_go_252 : decode cX12_go 252 = .ok (.iconst 3, 1) := by decide +kernel
theorem dX12_go_253 : decode cX12_go 253 = .ok (.if_icmp .ge 22, 3) := by decide +kernel
theorem dX12_go_256 : decode cX12_go 256 = .ok (.aload_n 0, 1) := by decide +kernel
theorem dX12_go_257 : decode cX12_go 257 = .ok (.bipush 10, 2) := by decide +kernel
theorem dX12_go_259 : decode cX12_go 259 = .ok (.aload_n 0, 1) := by decide +kernel
theorem dX12_go_260 : decode cX12_go 260 = .ok (.getfield 201, 3) := by decide +kernel
theorem dX12_go_263 : decode cX12_go 263 = .ok (.imul, 1) := by decide +kernel
theorem dX12_go_264 : decode cX12_go 264 = .ok (.aload_n 0, 1) := by decide +kernel
theorem dX12_go_265 : decode cX12_go 265 = .ok (.invokevirtual 181, 3) := by decide +kernel
theorem dX12_go_268 : decode cX12_go 268 = .ok (.iadd, 1) := by decide +kernel
theorem dX12_go_269 : decode cX12_go 269 = .ok (.bipush 48, 2) := by decide +kernel
theorem dX12_go_271 : decode cX12_go 271 = .ok (.isub, 1) := by decide +kernel
theorem dX12_go_272 : decode cX12_go 272 = .ok (.putfield 201, 3) := by decide +kernel
theorem dX12_go_275 : decode cX12_go 275 = .ok (.aload_n 0, 1) := by decide +kernel
theorem dX12_go_276 : decode cX12_go 276 = .ok (.dup, 1) := by decide +kernel
theorem dX12_go_277 : decode cX12_go 277 = .ok (.getfield 188, 3) := by decide +kernel
theorem dX12_go_280 : decode cX12_go 280 = .ok (.iconst 1, 1) := by decide +kernel
theorem dX12_go_281 : decode cX12_go 281 = .ok (.iadd, 1) := by decide +kernel
theorem dX12_go_282 : decode cX12_go 282 = .ok (.putfield 188, 3) := by decide +kernel
theorem dX12_go_285 : decode cX12_go 285 = .ok (.aload_n 0, 1) := by decide +kernel
theorem dX12_go_286 : decode cX12_go 286 = .ok (.dup, 1) := by decide +kernel
theorem dX12_go_287 : decode cX12_go 287 = .ok (.getfield 21, 3) := by decide +kernel
theorem dX12_go_290 : decode cX12_go 290 = .ok (.iconst 1, 1) := by decide +kernel
theorem dX12_go_291 : decode cX12_go 291 = .ok (.iadd, 1) := by decide +kernel
theorem dX12_go_292 : decode cX12_go 292 = .ok (.putfield 21, 3) := by decide +kernel
theorem dX12_go_295 : decode cX12_go 295 = .ok (.goto (-114), 3) := by decide +kernel
theorem dX12_go_298 : decode cX12_go 298 = .ok (.aload_n 0, 1) := by decide +kernel
theorem dX12_go_299 : decode cX12_go 299 = .ok (.iload_n 3, 1) := by decide +kernel
theorem dX12_go_300 : decode cX12_go 300 = .ok (.ifCond .eq 20, 3) := by decide +kernel
theorem dX12_go_303 : decode cX12_go 303 = .ok (.aload_n 0, 1) := by decide +kernel
theorem dX12_go_304 : decode cX12_go 304 = .ok (.getfield 188, 3) := by decide +kernel
theorem dX12_go_307 : decode cX12_go 307 = .ok (.iload_n 2, 1) := by decide +kernel
theorem dX12_go_308 : decode cX12_go 308 = .ok (.ifCond .eq 8, 3) := by decide +kernel
theorem dX12_go_311 : decode cX12_go 311 = .ok (.bipush 7, 2) := by decide +kernel
theorem dX12_go_313 : decode cX12_go 313 = .ok (.goto 4, 3) := by decide +kernel
theorem dX12_go_316 : decode cX12_go 316 = .ok (.iconst 3, 1) := by decide +kernel
theorem dX12_go_317 : decode cX12_go 317 = .ok (.if_icmp .le 7, 3) := by decide +kernel
theorem dX12_go_320 : decode cX12_go 320 = .ok (.iconst 4, 1) := by decide +kernel
theorem dX12_go_321 : decode cX12_go 321 = .ok (.goto 12, 3) := by decide +kernel
theorem dX12_go_324 : decode cX12_go 324 = .ok (.iload_n 2, 1) := by decide +kernel
theorem dX12_go_325 : decode cX12_go 325 = .ok (.ifCond .eq 7, 3) := by decide +kernel
theorem dX12_go_328 : decode cX12_go 328 = .ok (.iconst 1, 1) := by decide +kernel
theorem dX12_go_329 : decode cX12_go 329 = .ok (.goto 4, 3) := by decide +kernel
theorem dX12_go_332 : decode cX12_go 332 = .ok (.iconst 2, 1) := by decide +kernel
theorem dX12_go_333 : decode cX12_go 333 = .ok (.putfield 191, 3) := by decide +kernel
theorem dX12_go_336 : decode cX12_go 336 = .ok (.return_, 1) := by decide +kernel
theorem dX12_bad_0 : decode cX12_bad 0 = .ok (.aload_n 0, 1) := by decide +kernel
theorem dX12_bad_1 : decode cX12_bad 1 = .ok (.iload_n 1, 1) := by decide +kernel
theorem dX12_bad_2 : decode cX12_bad 2 = .ok (.putfield 208, 3) := by decide +kernel
theorem dX12_bad_5 : decode cX12_bad 5 = .ok (.aload_n 0, 1) := by decide +kernel
theorem dX12_bad_6 : decode cX12_bad 6 = .ok (.aload_n 0, 1) := by decide +kernel
theorem dX12_bad_7 : decode cX12_bad 7 = .ok (.getfield 185, 3) := by decide +kernel
theorem dX12_bad_10 : decode cX12_bad 10 = .ok (.putfield 211, 3) := by decide +kernel
theorem dX12_bad_13 : decode cX12_bad 13 = .ok (.iconst 0, 1) := by decide +kernel
theorem dX12_bad_14 : decode cX12_bad 14 = .ok (.ireturn, 1) := by decide +kernel
theorem dX12_isWord_0 : decode cX12_isWord 0 = .ok (.aload_n 0, 1) := by decide +kernel
theorem dX12_isWord_1 : decode cX12_isWord 1 = .ok (.getfield 191, 3) := by decide +kernel
theorem dX12_isWord_4 : decode cX12_isWord 4 = .ok (.iconst 1, 1) := by decide +kernel
theorem dX12_isWord_5 : decode cX12_isWord 5 = .ok (.if_icmp .ne 16, 3) := by decide +kernel
theorem dX12_isWord_8 : decode cX12_isWord 8 = .ok (.aload_n 0, 1) := by decide +kernel
theorem dX12_isWord_9 : decode cX12_isWord 9 = .ok (.getfield 204, 3) := by decide +kernel
theorem dX12_isWord_12 : decode cX12_isWord 12 = .ok (.lload_n 1, 1) := by decide +kernel
theorem dX12_isWord_13 : decode cX12_isWord 13 = .ok (.lcmp, 1) := by decide +kernel
theorem dX12_isWord_14 : decode cX12_isWord 14 = .ok (.ifCond .ne 7, 3) := by decide +kernel
theorem dX12_isWord_17 : decode cX12_isWord 17 = .ok (.iconst 1, 1) := by decide +kernel
theorem dX12_isWord_18 : decode cX12_isWord 18 = .ok (.goto 4, 3) := by decide +kernel
theorem dX12_isWord_21 : decode cX12_isWord 21 = .ok (.iconst 0, 1) := by decide +kernel
theorem dX12_isWord_22 : decode cX12_isWord 22 = .ok (.ireturn, 1) := by decide +kernel
theorem dX12_isSign_0 : decode cX12_isSign 0 = .ok (.aload_n 0, 1) := by decide +kernel
theorem dX12_isSign_1 : decode cX12_isSign 1 = .ok (.getfield 191, 3) := by decide +kernel
theorem dX12_isSign_4 : decode cX12_isSign 4 = .ok (.iconst 3, 1) := by decide +kernel
theorem dX12_isSign_5 : decode cX12_isSign 5 = .ok (.if_icmp .ne 15, 3) := by decide +kernel
theorem dX12_isSign_8 : decode cX12_isSign 8 = .ok (.aload_n 0, 1) := by decide +kernel
theorem dX12_isSign_9 : decode cX12_isSign 9 = .ok (.getfield 201, 3) := by decide +kernel
theorem dX12_isSign_12 : decode cX12_isSign 12 = .ok (.iload_n 1, 1) := by decide +kernel
theorem dX12_isSign_13 : decode cX12_isSign 13 = .ok (.if_icmp .ne 7, 3) := by decide +kernel
theorem dX12_isSign_16 : decode cX12_isSign 16 = .ok (.iconst 1, 1) := by decide +kernel
theorem dX12_isSign_17 : decode cX12_isSign 17 = .ok (.goto 4, 3) := by decide +kernel
theorem dX12_isSign_20 : decode cX12_isSign 20 = .ok (.iconst 0, 1) := by decide +kernel
theorem dX12_isSign_21 : decode cX12_isSign 21 = .ok (.ireturn, 1) := by decide +kernel
theorem dX12_sign_0 : decode cX12_sign 0 = .ok (.aload_n 0, 1) := by decide +kernel
theorem dX12_sign_1 : decode cX12_sign 1 = .ok (.iload_n 1, 1) := by decide +kernel
theorem dX12_sign_2 : decode cX12_sign 2 = .ok (.invokevirtual 214, 3) := by decide +kernel
theorem dX12_sign_5 : decode cX12_sign 5 = .ok (.ifCond .ne 9, 3) := by decide +kernel
theorem dX12_sign_8 : decode cX12_sign 8 = .ok (.aload_n 0, 1) := by decide +kernel
theorem dX12_sign_9 : decode cX12_sign 9 = .ok (.iconst 1, 1) := by decide +kernel
theorem dX12_sign_10 : decode cX12_sign 10 = .ok (.invokevirtual 217, 3) := by decide +kernel
theorem dX12_sign_13 : decode cX12_sign 13 = .ok (.ireturn, 1) := by decide +kernel
theorem dX12_sign_14 : decode cX12_sign 14 = .ok (.aload_n 0, 1) := by decide +kernel
theorem dX12_sign_15 : decode cX12_sign 15 = .ok (.invokevirtual 220, 3) := by decide +kernel
theorem dX12_sign_18 : decode cX12_sign 18 = .ok (.iconst 1, 1) := by decide +kernel
theorem dX12_sign_19 : decode cX12_sign 19 = .ok (.ireturn, 1) := by decide +kernel
theorem dX12_isName_0 : decode cX12_isName 0 = .ok (.aload_n 0, 1) := by decide +kernel
theorem dX12_isName_1 : decode cX12_isName 1 = .ok (.getfield 191, 3) := by decide +kernel
theorem dX12_isName_4 : decode cX12_isName 4 = .ok (.iconst 1, 1) := by decide +kernel
theorem dX12_isName_5 : decode cX12_isName 5 = .ok (.if_icmp .ne 7, 3) := by decide +kernel
theorem dX12_isName_8 : decode cX12_isName 8 = .ok (.iconst 1, 1) := by decide +kernel
theorem dX12_isName_9 : decode cX12_isName 9 = .ok (.goto 4, 3) := by decide +kernel
theorem dX12_isName_12 : decode cX12_isName 12 = .ok (.iconst 0, 1) := by decide +kernel
theorem dX12_isName_13 : decode cX12_isName 13 = .ok (.istore_n 1, 1) := by decide +kernel
theorem dX12_isName_14 : decode cX12_isName 14 = .ok (.iconst 0, 1) := by decide +kernel
theorem dX12_isName_15 : decode cX12_isName 15 = .ok (.istore_n 2, 1) := by decide +kernel
theorem dX12_isName_16 : decode cX12_isName 16 = .ok (.iload_n 2, 1) := by decide +kernel
theorem dX12_isName_17 : decode cX12_isName 17 = .ok (.bipush 32, 2) := by decide +kernel
theorem dX12_isName_19 : decode cX12_isName 19 = .ok (.if_icmp .ge 33, 3) := by decide +kernel
theorem dX12_isName_22 : decode cX12_isName 22 = .ok (.iload_n 1, 1) := by decide +kernel
theorem dX12_isName_23 : decode cX12_isName 23 = .ok (.ifCond .eq 21, 3) := by decide +kernel
theorem dX12_isName_26 : decode cX12_isName 26 = .ok (.aload_n 0, 1) := by decide +kernel
theorem dX12_isName_27 : decode cX12_isName 27 = .ok (.getfield 204, 3) := by decide +kernel
theorem dX12_isName_30 : decode cX12_isName 30 = .ok (.aload_n 0, 1) := by decide +kernel
theorem dX12_isName_31 : decode cX12_isName 31 = .ok (.getfield 47, 3) := by decide +kernel
theorem dX12_isName_34 : decode cX12_isName 34 = .ok (.iload_n 2, 1) := by decide +kernel
theorem dX12_isName_35 : decode cX12_isName 35 = .ok (.laload, 1) := by decide +kernel
theorem dX12_isName_36 : decode cX12_isName 36 = .ok (.lcmp, 1) := by decide +kernel
theorem dX12_isName_37 : decode cX12_isName 37 = .ok (.ifCond .eq 7, 3) := by decide +kernel
theorem dX12_isName_40 : decode cX12_isName 40 = .ok (.iconst 1, 1) := by decide +kernel
theorem dX12_isName_41 : decode cX12_isName 41 = .ok (.goto 4, 3) := by decide +kernel
theorem dX12_isName_44 : decode cX12_isName 44 = .ok (.iconst 0, 1) := by decide +kernel
theorem dX12_isName_45 : decode cX12_isName 45 = .ok (.istore_n 1, 1) := by decide +kernel
theorem dX12_isName_46 : decode cX12_isName 46 = .ok (.iinc 2 1, 3) := by decide +kernel
theorem dX12_isName_49 : decode cX12_isName 49 = .ok (.goto (-33), 3) := by decide +kernel
theorem dX12_isName_52 : decode cX12_isName 52 = .ok (.iload_n 1, 1) := by decide +kernel
theorem dX12_isName_53 : decode cX12_isName 53 = .ok (.ireturn, 1) := by decide +kernel
theorem dX12_takes_0 : decode cX12_takes 0 = .ok (.aload_n 0, 1) := by decide +kernel
theorem dX12_takes_1 : decode cX12_takes 1 = .ok (.getfield 191, 3) := by decide +kernel
theorem dX12_takes_4 : decode cX12_takes 4 = .ok (.iconst 2, 1) := by decide +kernel
theorem dX12_takes_5 : decode cX12_takes 5 = .ok (.if_icmp .eq 9, 3) := by decide +kernel
theorem dX12_takes_8 : decode cX12_takes 8 = .ok (.aload_n 0, 1) := by decide +kernel
theorem dX12_takes_9 : decode cX12_takes 9 = .ok (.iconst 1, 1) := by decide +kernel
theorem dX12_takes_10 : decode cX12_takes 10 = .ok (.invokevirtual 217, 3) := by decide +kernel
theorem dX12_takes_13 : decode cX12_takes 13 = .ok (.ireturn, 1) := by decide +kernel
theorem dX12_takes_14 : decode cX12_takes 14 = .ok (.aload_n 0, 1) := by decide +kernel
theorem dX12_takes_15 : decode cX12_takes 15 = .ok (.getfield 201, 3) := by decide +kernel
theorem dX12_takes_18 : decode cX12_takes 18 = .ok (.iload_n 1, 1) := by decide +kernel
theorem dX12_takes_19 : decode cX12_takes 19 = .ok (.iload_n 2, 1) := by decide +kernel
theorem dX12_takes_20 : decode cX12_takes 20 = .ok (.invokestatic 223, 3) := by decide +kernel
theorem dX12_takes_23 : decode cX12_takes 23 = .ok (.ifCond .ne 9, 3) := by decide +kernel
theorem dX12_takes_26 : decode cX12_takes 26 = .ok (.aload_n 0, 1) := by decide +kernel
theorem dX12_takes_27 : decode cX12_takes 27 = .ok (.iconst 2, 1) := by decide +kernel
theorem dX12_takes_28 : decode cX12_takes 28 = .ok (.invokevirtual 217, 3) := by decide +kernel
theorem dX12_takes_31 : decode cX12_takes 31 = .ok (.ireturn, 1) := by decide +kernel
theorem dX12_takes_32 : decode cX12_takes 32 = .ok (.aload_n 0, 1) := by decide +kernel
theorem dX12_takes_33 : decode cX12_takes 33 = .ok (.aload_n 0, 1) := by decide +kernel
theorem dX12_takes_34 : decode cX12_takes 34 = .ok (.getfield 201, 3) := by decide +kernel
theorem dX12_takes_37 : decode cX12_takes 37 = .ok (.putfield 227, 3) := by decide +kernel
theorem dX12_takes_40 : decode cX12_takes 40 = .ok (.aload_n 0, 1) := by decide +kernel
theorem dX12_takes_41 : decode cX12_takes 41 = .ok (.invokevirtual 220, 3) := by decide +kernel
theorem dX12_takes_44 : decode cX12_takes 44 = .ok (.iconst 1, 1) := by decide +kernel
theorem dX12_takes_45 : decode cX12_takes 45 = .ok (.ireturn, 1) := by decide +kernel
theorem dX12_puts_0 : decode cX12_puts 0 = .ok (.aload_n 0, 1) := by decide +kernel
theorem dX12_puts_1 : decode cX12_puts 1 = .ok (.iload_n 2, 1) := by decide +kernel
theorem dX12_puts_2 : decode cX12_puts 2 = .ok (.iload_n 3, 1) := by decide +kernel
theorem dX12_puts_3 : decode cX12_puts 3 = .ok (.invokevirtual 230, 3) := by decide +kernel
theorem dX12_puts_6 : decode cX12_puts 6 = .ok (.ifCond .ne 5, 3) := by decide +kernel
theorem dX12_puts_9 : decode cX12_puts 9 = .ok (.iconst 0, 1) := by decide +kernel
theorem dX12_puts_10 : decode cX12_puts 10 = .ok (.ireturn, 1) := by decide +kernel
theorem dX12_puts_11 : decode cX12_puts 11 = .ok (.aload_n 0, 1) := by decide +kernel
theorem dX12_puts_12 : decode cX12_puts 12 = .ok (.getfield 37, 3) := by decide +kernel
theorem dX12_puts_15 : decode cX12_puts 15 = .ok (.iload_n 1, 1) := by decide +kernel
theorem dX12_puts_16 : decode cX12_puts 16 = .ok (.aload_n 0, 1) := by decide +kernel
theorem dX12_puts_17 : decode cX12_puts 17 = .ok (.getfield 227, 3) := by decide +kernel
theorem dX12_puts_20 : decode cX12_puts 20 = .ok (.iastore, 1) := by decide +kernel
theorem dX12_puts_21 : decode cX12_puts 21 = .ok (.iconst 1, 1) := by decide +kernel
theorem dX12_puts_22 : decode cX12_puts 22 = .ok (.ireturn, 1) := by decide +kernel
theorem dX12_isOneOf_0 : decode cX12_isOneOf 0 = .ok (.aload_n 0, 1) := by decide +kernel
theorem dX12_isOneOf_1 : decode cX12_isOneOf 1 = .ok (.iconst (-1), 1) := by decide +kernel
theorem dX12_isOneOf_2 : decode cX12_isOneOf 2 = .ok (.putfield 227, 3) := by decide +kernel
theorem dX12_isOneOf_5 : decode cX12_isOneOf 5 = .ok (.iconst 0, 1) := by decide +kernel
theorem dX12_isOneOf_6 : decode cX12_isOneOf 6 = .ok (.istore_n 2, 1) := by decide +kernel
theorem dX12_isOneOf_7 : decode cX12_isOneOf 7 = .ok (.iload_n 2, 1) := by decide +kernel
theorem dX12_isOneOf_8 : decode cX12_isOneOf 8 = .ok (.iconst 4, 1) := by decide +kernel
theorem dX12_isOneOf_9 : decode cX12_isOneOf 9 = .ok (.if_icmp .ge 45, 3) := by decide +kernel
theorem dX12_isOneOf_12 : decode cX12_isOneOf 12 = .ok (.aload_n 0, 1) := by decide +kernel
theorem dX12_isOneOf_13 : decode cX12_isOneOf 13 = .ok (.aload_n 0, 1) := by decide +kernel
theorem dX12_isOneOf_14 : decode cX12_isOneOf 14 = .ok (.getfield 191, 3) := by decide +kernel
theorem dX12_isOneOf_17 : decode cX12_isOneOf 17 = .ok (.iconst 1, 1) := by decide +kernel
theorem dX12_isOneOf_18 : decode cX12_isOneOf 18 = .ok (.if_icmp .ne 23, 3) := by decide +kernel
theorem dX12_isOneOf_21 : decode cX12_isOneOf 21 = .ok (.aload_n 0, 1) := by decide +kernel
theorem dX12_isOneOf_22 : decode cX12_isOneOf 22 = .ok (.getfield 204, 3) := by decide +kernel
theorem dX12_isOneOf_25 : decode cX12_isOneOf 25 = .ok (.aload_n 0, 1) := by decide +kernel
theorem dX12_isOneOf_26 : decode cX12_isOneOf 26 = .ok (.getfield 47, 3) := by decide +kernel
theorem dX12_isOneOf_29 : decode cX12_isOneOf 29 = .ok (.iload_n 1, 1) := by decide +kernel
theorem dX12_isOneOf_30 : decode cX12_isOneOf 30 = .ok (.iload_n 2, 1) := by decide +kernel
theorem dX12_isOneOf_31 : decode cX12_isOneOf 31 = .ok (.iadd, 1) := by decide +kernel
theorem dX12_isOneOf_32 : decode cX12_isOneOf 32 = .ok (.laload, 1) := by decide +kernel
theorem dX12_isOneOf_33 : decode cX12_isOneOf 33 = .ok (.lcmp, 1) := by decide +kernel
theorem dX12_isOneOf_34 : decode cX12_isOneOf 34 = .ok (.ifCond .ne 7, 3) := by decide +kernel
theorem dX12_isOneOf_37 : decode cX12_isOneOf 37 = .ok (.iload_n 2, 1) := by decide +kernel
theorem dX12_isOneOf_38 : decode cX12_isOneOf 38 = .ok (.goto 7, 3) := by decide +kernel
theorem dX12_isOneOf_41 : decode cX12_isOneOf 41 = .ok (.aload_n 0, 1) := by decide +kernel
theorem dX12_isOneOf_42 : decode cX12_isOneOf 42 = .ok (.getfield 227, 3) := by decide +kernel
theorem dX12_isOneOf_45 : decode cX12_isOneOf 45 = .ok (.putfield 227, 3) := by decide +kernel
theorem dX12_isOneOf_48 : decode cX12_isOneOf 48 = .ok (.iinc 2 1, 3) := by decide +kernel
theorem dX12_isOneOf_51 : decode cX12_isOneOf 51 = .ok (.goto (-44), 3) := by decide +kernel
theorem dX12_isOneOf_54 : decode cX12_isOneOf 54 = .ok (.aload_n 0, 1) := by decide +kernel
theorem dX12_isOneOf_55 : decode cX12_isOneOf 55 = .ok (.getfield 227, 3) := by decide +kernel
theorem dX12_isOneOf_58 : decode cX12_isOneOf 58 = .ok (.ifCond .ge 11, 3) := by decide +kernel
theorem dX12_isOneOf_61 : decode cX12_isOneOf 61 = .ok (.aload_n 0, 1) := by decide +kernel
theorem dX12_isOneOf_62 : decode cX12_isOneOf 62 = .ok (.iconst 1, 1) := by decide +kernel
theorem dX12_isOneOf_63 : decode cX12_isOneOf 63 = .ok (.invokevirtual 217, 3) := by decide +kernel
theorem dX12_isOneOf_66 : decode cX12_isOneOf 66 = .ok (.ifCond .eq 7, 3) := by decide +kernel
theorem dX12_isOneOf_69 : decode cX12_isOneOf 69 = .ok (.iconst 1, 1) := by decide +kernel
theorem dX12_isOneOf_70 : decode cX12_isOneOf 70 = .ok (.goto 4, 3) := by decide +kernel
theorem dX12_isOneOf_73 : decode cX12_isOneOf 73 = .ok (.iconst 0, 1) := by decide +kernel
theorem dX12_isOneOf_74 : decode cX12_isOneOf 74 = .ok (.ireturn, 1) := by decide +kernel
theorem dX12_isKind_0 : decode cX12_isKind 0 = .ok (.aload_n 0, 1) := by decide +kernel
theorem dX12_isKind_1 : decode cX12_isKind 1 = .ok (.bipush 8, 2) := by decide +kernel
theorem dX12_isKind_3 : decode cX12_isKind 3 = .ok (.invokevirtual 234, 3) := by decide +kernel
theorem dX12_isKind_6 : decode cX12_isKind 6 = .ok (.ireturn, 1) := by decide +kernel
theorem dX12_isSide_0 : decode cX12_isSide 0 = .ok (.aload_n 0, 1) := by decide +kernel
theorem dX12_isSide_1 : decode cX12_isSide 1 = .ok (.bipush 12, 2) := by decide +kernel
theorem dX12_isSide_3 : decode cX12_isSide 3 = .ok (.invokevirtual 234, 3) := by decide +kernel
theorem dX12_isSide_6 : decode cX12_isSide 6 = .ok (.ireturn, 1) := by decide +kernel
theorem dX12_find_0 : decode cX12_find 0 = .ok (.iconst 0, 1) := by decide +kernel
theorem dX12_find_1 : decode cX12_find 1 = .ok (.istore_n 3, 1) := by decide +kernel
theorem dX12_find_2 : decode cX12_find 2 = .ok (.iload_n 3, 1) := by decide +kernel
theorem dX12_find_3 : decode cX12_find 3 = .ok (.iload_n 2, 1) := by decide +kernel
theorem dX12_find_4 : decode cX12_find 4 = .ok (.if_icmp .ge 27, 3) := by decide +kernel
theorem dX12_find_7 : decode cX12_find 7 = .ok (.aload_n 0, 1) := by decide +kernel
theorem dX12_find_8 : decode cX12_find 8 = .ok (.getfield 43, 3) := by decide +kernel
theorem dX12_find_11 : decode cX12_find 11 = .ok (.iload_n 1, 1) := by decide +kernel
theorem dX12_find_12 : decode cX12_find 12 = .ok (.iload_n 3, 1) := by decide +kernel
theorem dX12_find_13 : decode cX12_find 13 = .ok (.iadd, 1) := by decide +kernel
theorem dX12_find_14 : decode cX12_find 14 = .ok (.laload, 1) := by decide +kernel
theorem dX12_find_15 : decode cX12_find 15 = .ok (.aload_n 0, 1) := by decide +kernel
theorem dX12_find_16 : decode cX12_find 16 = .ok (.getfield 204, 3) := by decide +kernel
theorem dX12_find_19 : decode cX12_find 19 = .ok (.lcmp, 1) := by decide +kernel
theorem dX12_find_20 : decode cX12_find 20 = .ok (.ifCond .ne 5, 3) := by decide +kernel
theorem dX12_find_23 : decode cX12_find 23 = .ok (.iload_n 3, 1) := by decide +kernel
theorem dX12_find_24 : decode cX12_find 24 = .ok (.ireturn, 1) := by decide +kernel
theorem dX12_find_25 : decode cX12_find 25 = .ok (.iinc 3 1, 3) := by decide +kernel
theorem dX12_find_28 : decode cX12_find 28 = .ok (.goto (-26), 3) := by decide +kernel
theorem dX12_find_31 : decode cX12_find 31 = .ok (.iconst (-1), 1) := by decide +kernel
theorem dX12_find_32 : decode cX12_find 32 = .ok (.ireturn, 1) := by decide +kernel
theorem dX12_fresh_0 : decode cX12_fresh 0 = .ok (.aload_n 0, 1) := by decide +kernel
theorem dX12_fresh_1 : decode cX12_fresh 1 = .ok (.invokevirtual 237, 3) := by decide +kernel
theorem dX12_fresh_4 : decode cX12_fresh 4 = .ok (.ifCond .ne 9, 3) := by decide +kernel
theorem dX12_fresh_7 : decode cX12_fresh 7 = .ok (.aload_n 0, 1) := by decide +kernel
theorem dX12_fresh_8 : decode cX12_fresh 8 = .ok (.iconst 1, 1) := by decide +kernel
theorem dX12_fresh_9 : decode cX12_fresh 9 = .ok (.invokevirtual 217, 3) := by decide +kernel
theorem dX12_fresh_12 : decode cX12_fresh 12 = .ok (.ireturn, 1) := by decide +kernel
theorem dX12_fresh_13 : decode cX12_fresh 13 = .ok (.aload_n 0, 1) := by decide +kernel
theorem dX12_fresh_14 : decode cX12_fresh 14 = .ok (.bipush 20, 2) := by decide +kernel
theorem dX12_fresh_16 : decode cX12_fresh 16 = .ok (.aload_n 0, 1) := by decide +kernel
theorem dX12_fresh_17 : decode cX12_fresh 17 = .ok (.getfield 37, 3) := by decide +kernel
theorem dX12_fresh_20 : decode cX12_fresh 20 = .ok (.iconst 0, 1) := by decide +kernel
theorem dX12_fresh_21 : decode cX12_fresh 21 = .ok (.iaload, 1) := by decide +kernel
theorem dX12_fresh_22 : decode cX12_fresh 22 = .ok (.invokevirtual 241, 3) := by decide +kernel
theorem dX12_fresh_25 : decode cX12_fresh 25 = .ok (.ifCond .ge 33, 3) := by decide +kernel
theorem dX12_fresh_28 : decode cX12_fresh 28 = .ok (.aload_n 0, 1) := by decide +kernel
theorem dX12_fresh_29 : decode cX12_fresh 29 = .ok (.bipush 26, 2) := by decide +kernel
theorem dX12_fresh_31 : decode cX12_fresh 31 = .ok (.aload_n 0, 1) := by decide +kernel
theorem dX12_fresh_32 : decode cX12_fresh 32 = .ok (.getfield 37, 3) := by decide +kernel
theorem dX12_fresh_35 : decode cX12_fresh 35 = .ok (.iconst 1, 1) := by decide +kernel
theorem dX12_fresh_36 : decode cX12_fresh 36 = .ok (.iaload, 1) := by decide +kernel
theorem dX12_fresh_37 : decode cX12_fresh 37 = .ok (.invokevirtual 241, 3) := by decide +kernel
theorem dX12_fresh_40 : decode cX12_fresh 40 = .ok (.ifCond .ge 18, 3) := by decide +kernel
theorem dX12_fresh_43 : decode cX12_fresh 43 = .ok (.aload_n 0, 1) := by decide +kernel
theorem dX12_fresh_44 : decode cX12_fresh 44 = .ok (.bipush 32, 2) := by decide +kernel
theorem dX12_fresh_46 : decode cX12_fresh 46 = .ok (.aload_n 0, 1) := by decide +kernel
theorem dX12_fresh_47 : decode cX12_fresh 47 = .ok (.getfield 37, 3) := by decide +kernel
theorem dX12_fresh_50 : decode cX12_fresh 50 = .ok (.iconst 2, 1) := by decide +kernel
theorem dX12_fresh_51 : decode cX12_fresh 51 = .ok (.iaload, 1) := by decide +kernel
theorem dX12_fresh_52 : decode cX12_fresh 52 = .ok (.invokevirtual 241, 3) := by decide +kernel
theorem dX12_fresh_55 : decode cX12_fresh 55 = .ok (.ifCond .lt 9, 3) := by decide +kernel
theorem dX12_fresh_58 : decode cX12_fresh 58 = .ok (.aload_n 0, 1) := by decide +kernel
theorem dX12_fresh_59 : decode cX12_fresh 59 = .ok (.iconst 3, 1) := by decide +kernel
theorem dX12_fresh_60 : decode cX12_fresh 60 = .ok (.invokevirtual 217, 3) := by decide +kernel
theorem dX12_fresh_63 : decode cX12_fresh 63 = .ok (.ireturn, 1) := by decide +kernel
theorem dX12_fresh_64 : decode cX12_fresh 64 = .ok (.aload_n 0, 1) := by decide +kernel
theorem dX12_fresh_65 : decode cX12_fresh 65 = .ok (.getfield 43, 3) := by decide +kernel
theorem dX12_fresh_68 : decode cX12_fresh 68 = .ok (.iload_n 1, 1) := by decide +kernel
theorem dX12_fresh_69 : decode cX12_fresh 69 = .ok (.aload_n 0, 1) := by decide +kernel
theorem dX12_fresh_70 : decode cX12_fresh 70 = .ok (.getfield 204, 3) := by decide +kernel
theorem dX12_fresh_73 : decode cX12_fresh 73 = .ok (.lastore, 1) := by decide +kernel
theorem dX12_fresh_74 : decode cX12_fresh 74 = .ok (.aload_n 0, 1) := by decide +kernel
theorem dX12_fresh_75 : decode cX12_fresh 75 = .ok (.invokevirtual 220, 3) := by decide +kernel
theorem dX12_fresh_78 : decode cX12_fresh 78 = .ok (.iconst 1, 1) := by decide +kernel
theorem dX12_fresh_79 : decode cX12_fresh 79 = .ok (.ireturn, 1) := by decide +kernel
theorem dX12_looksAt_0 : decode cX12_looksAt 0 = .ok (.aload_n 0, 1) := by decide +kernel
theorem dX12_looksAt_1 : decode cX12_looksAt 1 = .ok (.invokevirtual 237, 3) := by decide +kernel
theorem dX12_looksAt_4 : decode cX12_looksAt 4 = .ok (.ifCond .ne 9, 3) := by decide +kernel
theorem dX12_looksAt_7 : decode cX12_looksAt 7 = .ok (.aload_n 0, 1) := by decide +kernel
theorem dX12_looksAt_8 : decode cX12_looksAt 8 = .ok (.iconst 1, 1) := by decide +kernel
theorem dX12_looksAt_9 : decode cX12_looksAt 9 = .ok (.invokevirtual 217, 3) := by decide +kernel
theorem dX12_looksAt_12 : decode cX12_looksAt 12 = .ok (.ireturn, 1) := by decide +kernel
theorem dX12_looksAt_13 : decode cX12_looksAt 13 = .ok (.aload_n 0, 1) := by decide +kernel
theorem dX12_looksAt_14 : decode cX12_looksAt 14 = .ok (.aload_n 0, 1) := by decide +kernel
theorem dX12_looksAt_15 : decode cX12_looksAt 15 = .ok (.iload_n 1, 1) := by decide +kernel
theorem dX12_looksAt_16 : decode cX12_looksAt 16 = .ok (.iload_n 2, 1) := by decide +kernel
theorem dX12_looksAt_17 : decode cX12_looksAt 17 = .ok (.invokevirtual 241, 3) := by decide +kernel
theorem dX12_looksAt_20 : decode cX12_looksAt 20 = .ok (.putfield 227, 3) := by decide +kernel
theorem dX12_looksAt_23 : decode cX12_looksAt 23 = .ok (.aload_n 0, 1) := by decide +kernel
theorem dX12_looksAt_24 : decode cX12_looksAt 24 = .ok (.getfield 227, 3) := by decide +kernel
theorem dX12_looksAt_27 : decode cX12_looksAt 27 = .ok (.ifCond .ge 11, 3) := by decide +kernel
theorem dX12_looksAt_30 : decode cX12_looksAt 30 = .ok (.aload_n 0, 1) := by decide +kernel
theorem dX12_looksAt_31 : decode cX12_looksAt 31 = .ok (.iconst 3, 1) := by decide +kernel
theorem dX12_looksAt_32 : decode cX12_looksAt 32 = .ok (.invokevirtual 217, 3) := by decide +kernel
theorem dX12_looksAt_35 : decode cX12_looksAt 35 = .ok (.ifCond .eq 7, 3) := by decide +kernel
theorem dX12_looksAt_38 : decode cX12_looksAt 38 = .ok (.iconst 1, 1) := by decide +kernel
theorem dX12_looksAt_39 : decode cX12_looksAt 39 = .ok (.goto 4, 3) := by decide +kernel
theorem dX12_looksAt_42 : decode cX12_looksAt 42 = .ok (.iconst 0, 1) := by decide +kernel
theorem dX12_looksAt_43 : decode cX12_looksAt 43 = .ok (.ireturn, 1) := by decide +kernel
theorem dX12_takesName_0 : decode cX12_takesName 0 = .ok (.aload_n 0, 1) := by decide +kernel
theorem dX12_takesName_1 : decode cX12_takesName 1 = .ok (.iload_n 1, 1) := by decide +kernel
theorem dX12_takesName_2 : decode cX12_takesName 2 = .ok (.iload_n 2, 1) := by decide +kernel
theorem dX12_takesName_3 : decode cX12_takesName 3 = .ok (.invokevirtual 245, 3) := by decide +kernel
theorem dX12_takesName_6 : decode cX12_takesName 6 = .ok (.ifCond .ne 5, 3) := by decide +kernel
theorem dX12_takesName_9 : decode cX12_takesName 9 = .ok (.iconst 0, 1) := by decide +kernel
theorem dX12_takesName_10 : decode cX12_takesName 10 = .ok (.ireturn, 1) := by decide +kernel
theorem dX12_takesName_11 : decode cX12_takesName 11 = .ok (.aload_n 0, 1) := by decide +kernel
theorem dX12_takesName_12 : decode cX12_takesName 12 = .ok (.invokevirtual 220, 3) := by decide +kernel
theorem dX12_takesName_15 : decode cX12_takesName 15 = .ok (.iconst 1, 1) := by decide +kernel
theorem dX12_takesName_16 : decode cX12_takesName 16 = .ok (.ireturn, 1) := by decide +kernel
theorem dX12_line_0 : decode cX12_line 0 = .ok (.aload_n 0, 1) := by decide +kernel
theorem dX12_line_1 : decode cX12_line 1 = .ok (.ldc2_w 114, 3) := by decide +kernel
theorem dX12_line_4 : decode cX12_line 4 = .ok (.invokevirtual 248, 3) := by decide +kernel
theorem dX12_line_7 : decode cX12_line 7 = .ok (.ifCond .eq 53, 3) := by decide +kernel
theorem dX12_line_10 : decode cX12_line 10 = .ok (.aload_n 0, 1) := by decide +kernel
theorem dX12_line_11 : decode cX12_line 11 = .ok (.getfield 252, 3) := by decide +kernel
theorem dX12_line_14 : decode cX12_line 14 = .ok (.ifCond .eq 9, 3) := by decide +kernel
theorem dX12_line_17 : decode cX12_line 17 = .ok (.aload_n 0, 1) := by decide +kernel
theorem dX12_line_18 : decode cX12_line 18 = .ok (.iconst 3, 1) := by decide +kernel
theorem dX12_line_19 : decode cX12_line 19 = .ok (.invokevirtual 217, 3) := by decide +kernel
theorem dX12_line_22 : decode cX12_line 22 = .ok (.ireturn, 1) := by decide +kernel
theorem dX12_line_23 : decode cX12_line 23 = .ok (.aload_n 0, 1) := by decide +kernel
theorem dX12_line_24 : decode cX12_line 24 = .ok (.iconst 1, 1) := by decide +kernel
theorem dX12_line_25 : decode cX12_line 25 = .ok (.putfield 252, 3) := by decide +kernel
theorem dX12_line_28 : decode cX12_line 28 = .ok (.aload_n 0, 1) := by decide +kernel
theorem dX12_line_29 : decode cX12_line 29 = .ok (.invokevirtual 220, 3) := by decide +kernel
theorem dX12_line_32 : decode cX12_line 32 = .ok (.aload_n 0, 1) := by decide +kernel
theorem dX12_line_33 : decode cX12_line 33 = .ok (.iconst 3, 1) := by decide +kernel
theorem dX12_line_34 : decode cX12_line 34 = .ok (.iconst 2, 1) := by decide +kernel
theorem dX12_line_35 : decode cX12_line 35 = .ok (.bipush 9, 2) := by decide +kernel
theorem dX12_line_37 : decode cX12_line 37 = .ok (.invokevirtual 256, 3) := by decide +kernel
theorem dX12_line_40 : decode cX12_line 40 = .ok (.ifCond .eq 18, 3) := by decide +kernel
theorem dX12_line_43 : decode cX12_line 43 = .ok (.aload_n 0, 1) := by decide +kernel
theorem dX12_line_44 : decode cX12_line 44 = .ok (.iconst 4, 1) := by decide +kernel
theorem dX12_line_45 : decode cX12_line 45 = .ok (.iconst 2, 1) := by decide +kernel
theorem dX12_line_46 : decode cX12_line 46 = .ok (.bipush 9, 2) := by decide +kernel
theorem dX12_line_48 : decode cX12_line 48 = .ok (.invokevirtual 256, 3) := by decide +kernel
theorem dX12_line_51 : decode cX12_line 51 = .ok (.ifCond .eq 7, 3) := by decide +kernel
theorem dX12_line_54 : decode cX12_line 54 = .ok (.iconst 1, 1) := by decide +kernel
theorem dX12_line_55 : decode cX12_line 55 = .ok (.goto 4, 3) := by decide +kernel
theorem dX12_line_58 : decode cX12_line 58 = .ok (.iconst 0, 1) := by decide +kernel
theorem dX12_line_59 : decode cX12_line 59 = .ok (.ireturn, 1) := by decide +kernel
theorem dX12_line_60 : decode cX12_line 60 = .ok (.aload_n 0, 1) := by decide +kernel
theorem dX12_line_61 : decode cX12_line 61 = .ok (.ldc2_w 116, 3) := by decide +kernel
theorem dX12_line_64 : decode cX12_line 64 = .ok (.invokevirtual 248, 3) := by decide +kernel
theorem dX12_line_67 : decode cX12_line 67 = .ok (.ifCond .eq 8, 3) := by decide +kernel
theorem dX12_line_70 : decode cX12_line 70 = .ok (.aload_n 0, 1) := by decide +kernel
theorem dX12_line_71 : decode cX12_line 71 = .ok (.invokevirtual 259, 3) := by decide +kernel
theorem dX12_line_74 : decode cX12_line 74 = .ok (.ireturn, 1) := by decide +kernel
theorem dX12_line_75 : decode cX12_line 75 = .ok (.aload_n 0, 1) := by decide +kernel
theorem dX12_line_76 : decode cX12_line 76 = .ok (.ldc2_w 118, 3) := by decide +kernel
theorem dX12_line_79 : decode cX12_line 79 = .ok (.invokevirtual 248, 3) := by decide +kernel
theorem dX12_line_82 : decode cX12_line 82 = .ok (.ifCond .eq 8, 3) := by decide +kernel
theorem dX12_line_85 : decode cX12_line 85 = .ok (.aload_n 0, 1) := by decide +kernel
theorem dX12_line_86 : decode cX12_line 86 = .ok (.invokevirtual 262, 3) := by decide +kernel
theorem dX12_line_89 : decode cX12_line 89 = .ok (.ireturn, 1) := by decide +kernel
theorem dX12_line_90 : decode cX12_line 90 = .ok (.aload_n 0, 1) := by decide +kernel
theorem dX12_line_91 : decode cX12_line 91 = .ok (.ldc2_w 120, 3) := by decide +kernel
theorem dX12_line_94 : decode cX12_line 94 = .ok (.invokevirtual 248, 3) := by decide +kernel
theorem dX12_line_97 : decode cX12_line 97 = .ok (.ifCond .eq 8, 3) := by decide +kernel
theorem dX12_line_100 : decode cX12_line 100 = .ok (.aload_n 0, 1) := by decide +kernel
theorem dX12_line_101 : decode cX12_line 101 = .ok (.invokevirtual 265, 3) := by decide +kernel
theorem dX12_line_104 : decode cX12_line 104 = .ok (.ireturn, 1) := by decide +kernel
theorem dX12_line_105 : decode cX12_line 105 = .ok (.aload_n 0, 1) := by decide +kernel
theorem dX12_line_106 : decode cX12_line 106 = .ok (.ldc2_w 122, 3) := by decide +kernel
theorem dX12_line_109 : decode cX12_line 109 = .ok (.invokevirtual 248, 3) := by decide +kernel
theorem dX12_line_112 : decode cX12_line 112 = .ok (.ifCond .eq 8, 3) := by decide +kernel
theorem dX12_line_115 : decode cX12_line 115 = .ok (.aload_n 0, 1) := by decide +kernel
theorem dX12_line_116 : decode cX12_line 116 = .ok (.invokevirtual 268, 3) := by decide +kernel
theorem dX12_line_119 : decode cX12_line 119 = .ok (.ireturn, 1) := by decide +kernel
theorem dX12_line_120 : decode cX12_line 120 = .ok (.aload_n 0, 1) := by decide +kernel
theorem dX12_line_121 : decode cX12_line 121 = .ok (.ldc2_w 124, 3) := by decide +kernel
theorem dX12_line_124 : decode cX12_line 124 = .ok (.invokevirtual 248, 3) := by decide +kernel
theorem dX12_line_127 : decode cX12_line 127 = .ok (.ifCond .eq 8, 3) := by decide +kernel
theorem dX12_line_130 : decode cX12_line 130 = .ok (.aload_n 0, 1) := by decide +kernel
theorem dX12_line_131 : decode cX12_line 131 = .ok (.invokevirtual 271, 3) := by decide +kernel
theorem dX12_line_134 : decode cX12_line 134 = .ok (.ireturn, 1) := by decide +kernel
theorem dX12_line_135 : decode cX12_line 135 = .ok (.aload_n 0, 1) := by decide +kernel
theorem dX12_line_136 : decode cX12_line 136 = .ok (.ldc2_w 126, 3) := by decide +kernel
theorem dX12_line_139 : decode cX12_line 139 = .ok (.invokevirtual 248, 3) := by decide +kernel
theorem dX12_line_142 : decode cX12_line 142 = .ok (.ifCond .eq 8, 3) := by decide +kernel
theorem dX12_line_145 : decode cX12_line 145 = .ok (.aload_n 0, 1) := by decide +kernel
theorem dX12_line_146 : decode cX12_line 146 = .ok (.invokevirtual 274, 3) := by decide +kernel
theorem dX12_line_149 : decode cX12_line 149 = .ok (.ireturn, 1) := by decide +kernel
theorem dX12_line_150 : decode cX12_line 150 = .ok (.aload_n 0, 1) := by decide +kernel
theorem dX12_line_151 : decode cX12_line 151 = .ok (.ldc2_w 128, 3) := by decide +kernel
theorem dX12_line_154 : decode cX12_line 154 = .ok (.invokevirtual 248, 3) := by decide +kernel
theorem dX12_line_157 : decode cX12_line 157 = .ok (.ifCond .ne 9, 3) := by decide +kernel
theorem dX12_line_160 : decode cX12_line 160 = .ok (.aload_n 0, 1) := by decide +kernel
theorem dX12_line_161 : decode cX12_line 161 = .ok (.iconst 1, 1) := by decide +kernel
theorem dX12_line_162 : decode cX12_line 162 = .ok (.invokevirtual 217, 3) := by decide +kernel
theorem dX12_line_165 : decode cX12_line 165 = .ok (.ireturn, 1) := by decide +kernel
theorem dX12_line_166 : decode cX12_line 166 = .ok (.aload_n 0, 1) := by decide +kernel
theorem dX12_line_167 : decode cX12_line 167 = .ok (.getfield 277, 3) := by decide +kernel
theorem dX12_line_170 : decode cX12_line 170 = .ok (.ifCond .eq 9, 3) := by decide +kernel
theorem dX12_line_173 : decode cX12_line 173 = .ok (.aload_n 0, 1) := by decide +kernel
theorem dX12_line_174 : decode cX12_line 174 = .ok (.iconst 3, 1) := by decide +kernel
theorem dX12_line_175 : decode cX12_line 175 = .ok (.invokevirtual 217, 3) := by decide +kernel
theorem dX12_line_178 : decode cX12_line 178 = .ok (.ireturn, 1) := by decide +kernel
theorem dX12_line_179 : decode cX12_line 179 = .ok (.aload_n 0, 1) := by decide +kernel
theorem dX12_line_180 : decode cX12_line 180 = .ok (.iconst 1, 1) := by decide +kernel
theorem dX12_line_181 : decode cX12_line 181 = .ok (.putfield 277, 3) := by decide +kernel
theorem dX12_line_184 : decode cX12_line 184 = .ok (.aload_n 0, 1) := by decide +kernel
theorem dX12_line_185 : decode cX12_line 185 = .ok (.invokevirtual 220, 3) := by decide +kernel
theorem dX12_line_188 : decode cX12_line 188 = .ok (.aload_n 0, 1) := by decide +kernel
theorem dX12_line_189 : decode cX12_line 189 = .ok (.iconst 5, 1) := by decide +kernel
theorem dX12_line_190 : decode cX12_line 190 = .ok (.iconst 0, 1) := by decide +kernel
theorem dX12_line_191 : decode cX12_line 191 = .ok (.bipush 23, 2) := by decide +kernel
theorem dX12_line_193 : decode cX12_line 193 = .ok (.invokevirtual 256, 3) := by decide +kernel
theorem dX12_line_196 : decode cX12_line 196 = .ok (.ifCond .eq 19, 3) := by decide +kernel
theorem dX12_line_199 : decode cX12_line 199 = .ok (.aload_n 0, 1) := by decide +kernel
theorem dX12_line_200 : decode cX12_line 200 = .ok (.bipush 6, 2) := by decide +kernel
theorem dX12_line_202 : decode cX12_line 202 = .ok (.iconst 0, 1) := by decide +kernel
theorem dX12_line_203 : decode cX12_line 203 = .ok (.bipush 23, 2) := by decide +kernel
theorem dX12_line_205 : decode cX12_line 205 = .ok (.invokevirtual 256, 3) := by decide +kernel
theorem dX12_line_208 : decode cX12_line 208 = .ok (.ifCond .eq 7, 3) := by decide +kernel
theorem dX12_line_211 : decode cX12_line 211 = .ok (.iconst 1, 1) := by decide +kernel
theorem dX12_line_212 : decode cX12_line 212 = .ok (.goto 4, 3) := by decide +kernel
theorem dX12_line_215 : decode cX12_line 215 = .ok (.iconst 0, 1) := by decide +kernel
theorem dX12_line_216 : decode cX12_line 216 = .ok (.ireturn, 1) := by decide +kernel
theorem dX12_readBed_0 : decode cX12_readBed 0 = .ok (.aload_n 0, 1) := by decide +kernel
theorem dX12_readBed_1 : decode cX12_readBed 1 = .ok (.getfield 37, 3) := by decide +kernel
theorem dX12_readBed_4 : decode cX12_readBed 4 = .ok (.iconst 0, 1) := by decide +kernel
theorem dX12_readBed_5 : decode cX12_readBed 5 = .ok (.iaload, 1) := by decide +kernel
theorem dX12_readBed_6 : decode cX12_readBed 6 = .ok (.istore_n 1, 1) := by decide +kernel
theorem dX12_readBed_7 : decode cX12_readBed 7 = .ok (.iload_n 1, 1) := by decide +kernel
theorem dX12_readBed_8 : decode cX12_readBed 8 = .ok (.bipush 6, 2) := by decide +kernel
theorem dX12_readBed_10 : decode cX12_readBed 10 = .ok (.if_icmp .ne 9, 3) := by decide +kernel
theorem dX12_readBed_13 : decode cX12_readBed 13 = .ok (.aload_n 0, 1) := by decide +kernel
theorem dX12_readBed_14 : decode cX12_readBed 14 = .ok (.iconst 4, 1) := by decide +kernel
theorem dX12_readBed_15 : decode cX12_readBed 15 = .ok (.invokevirtual 217, 3) := by decide +kernel
theorem dX12_readBed_18 : decode cX12_readBed 18 = .ok (.ireturn, 1) := by decide +kernel
theorem dX12_readBed_19 : decode cX12_readBed 19 = .ok (.aload_n 0, 1) := by decide +kernel
theorem dX12_readBed_20 : decode cX12_readBed 20 = .ok (.iconst 1, 1) := by decide +kernel
theorem dX12_readBed_21 : decode cX12_readBed 21 = .ok (.putfield 252, 3) := by decide +kernel
theorem dX12_readBed_24 : decode cX12_readBed 24 = .ok (.aload_n 0, 1) := by decide +kernel
theorem dX12_readBed_25 : decode cX12_readBed 25 = .ok (.invokevirtual 220, 3) := by decide +kernel
theorem dX12_readBed_28 : decode cX12_readBed 28 = .ok (.aload_n 0, 1) := by decide +kernel
theorem dX12_readBed_29 : decode cX12_readBed 29 = .ok (.bipush 20, 2) := by decide +kernel
theorem dX12_readBed_31 : decode cX12_readBed 31 = .ok (.iload_n 1, 1) := by decide +kernel
theorem dX12_readBed_32 : decode cX12_readBed 32 = .ok (.iadd, 1) := by decide +kernel
theorem dX12_readBed_33 : decode cX12_readBed 33 = .ok (.invokevirtual 280, 3) := by decide +kernel
theorem dX12_readBed_36 : decode cX12_readBed 36 = .ok (.ifCond .eq 23, 3) := by decide +kernel
theorem dX12_readBed_39 : decode cX12_readBed 39 = .ok (.aload_n 0, 1) := by decide +kernel
theorem dX12_readBed_40 : decode cX12_readBed 40 = .ok (.bipush 7, 2) := by decide +kernel
theorem dX12_readBed_42 : decode cX12_readBed 42 = .ok (.iload_n 1, 1) := by decide +kernel
theorem dX12_readBed_43 : decode cX12_readBed 43 = .ok (.iadd, 1) := by decide +kernel
theorem dX12_readBed_44 : decode cX12_readBed 44 = .ok (.iconst 0, 1) := by decide +kernel
theorem dX12_readBed_45 : decode cX12_readBed 45 = .ok (.aload_n 0, 1) := by decide +kernel
theorem dX12_readBed_46 : decode cX12_readBed 46 = .ok (.getfield 37, 3) := by decide +kernel
theorem dX12_readBed_49 : decode cX12_readBed 49 = .ok (.iconst 3, 1) := by decide +kernel
theorem dX12_readBed_50 : decode cX12_readBed 50 = .ok (.iaload, 1) := by decide +kernel
theorem dX12_readBed_51 : decode cX12_readBed 51 = .ok (.iconst 1, 1) := by decide +kernel
theorem dX12_readBed_52 : decode cX12_readBed 52 = .ok (.isub, 1) := by decide +kernel
theorem dX12_readBed_53 : decode cX12_readBed 53 = .ok (.invokevirtual 256, 3) := by decide +kernel
theorem dX12_readBed_56 : decode cX12_readBed 56 = .ok (.ifCond .ne 5, 3) := by decide +kernel
theorem dX12_readBed_59 : decode cX12_readBed 59 = .ok (.iconst 0, 1) := by decide +kernel
theorem dX12_readBed_60 : decode cX12_readBed 60 = .ok (.ireturn, 1) := by decide +kernel
theorem dX12_readBed_61 : decode cX12_readBed 61 = .ok (.aload_n 0, 1) := by decide +kernel
theorem dX12_readBed_62 : decode cX12_readBed 62 = .ok (.getfield 191, 3) := by decide +kernel
theorem dX12_readBed_65 : decode cX12_readBed 65 = .ok (.iconst 2, 1) := by decide +kernel
theorem dX12_readBed_66 : decode cX12_readBed 66 = .ok (.if_icmp .eq 9, 3) := by decide +kernel
theorem dX12_readBed_69 : decode cX12_readBed 69 = .ok (.aload_n 0, 1) := by decide +kernel
theorem dX12_readBed_70 : decode cX12_readBed 70 = .ok (.iconst 1, 1) := by decide +kernel
theorem dX12_readBed_71 : decode cX12_readBed 71 = .ok (.invokevirtual 217, 3) := by decide +kernel
theorem dX12_readBed_74 : decode cX12_readBed 74 = .ok (.ireturn, 1) := by decide +kernel
theorem dX12_readBed_75 : decode cX12_readBed 75 = .ok (.aload_n 0, 1) := by decide +kernel
theorem dX12_readBed_76 : decode cX12_readBed 76 = .ok (.getfield 201, 3) := by decide +kernel
theorem dX12_readBed_79 : decode cX12_readBed 79 = .ok (.aload_n 0, 1) := by decide +kernel
theorem dX12_readBed_80 : decode cX12_readBed 80 = .ok (.getfield 37, 3) := by decide +kernel
theorem dX12_readBed_83 : decode cX12_readBed 83 = .ok (.iconst 4, 1) := by decide +kernel
theorem dX12_readBed_84 : decode cX12_readBed 84 = .ok (.iaload, 1) := by decide +kernel
theorem dX12_readBed_85 : decode cX12_readBed 85 = .ok (.if_icmp .lt 9, 3) := by decide +kernel
theorem dX12_readBed_88 : decode cX12_readBed 88 = .ok (.aload_n 0, 1) := by decide +kernel
theorem dX12_readBed_89 : decode cX12_readBed 89 = .ok (.iconst 2, 1) := by decide +kernel
theorem dX12_readBed_90 : decode cX12_readBed 90 = .ok (.invokevirtual 217, 3) := by decide +kernel
theorem dX12_readBed_93 : decode cX12_readBed 93 = .ok (.ireturn, 1) := by decide +kernel
theorem dX12_readBed_94 : decode cX12_readBed 94 = .ok (.iconst 0, 1) := by decide +kernel
theorem dX12_readBed_95 : decode cX12_readBed 95 = .ok (.istore_n 2, 1) := by decide +kernel
theorem dX12_readBed_96 : decode cX12_readBed 96 = .ok (.iload_n 2, 1) := by decide +kernel
theorem dX12_readBed_97 : decode cX12_readBed 97 = .ok (.iload_n 1, 1) := by decide +kernel
theorem dX12_readBed_98 : decode cX12_readBed 98 = .ok (.if_icmp .ge 52, 3) := by decide +kernel
theorem dX12_readBed_101 : decode cX12_readBed 101 = .ok (.aload_n 0, 1) := by decide +kernel
theorem dX12_readBed_102 : decode cX12_readBed 102 = .ok (.getfield 37, 3) := by decide +kernel
theorem dX12_readBed_105 : decode cX12_readBed 105 = .ok (.bipush 7, 2) := by decide +kernel
theorem dX12_readBed_107 : decode cX12_readBed 107 = .ok (.iload_n 2, 1) := by decide +kernel
theorem dX12_readBed_108 : decode cX12_readBed 108 = .ok (.iadd, 1) := by decide +kernel
theorem dX12_readBed_109 : decode cX12_readBed 109 = .ok (.iaload, 1) := by decide +kernel
theorem dX12_readBed_110 : decode cX12_readBed 110 = .ok (.aload_n 0, 1) := by decide +kernel
theorem dX12_readBed_111 : decode cX12_readBed 111 = .ok (.getfield 37, 3) := by decide +kernel
theorem dX12_readBed_114 : decode cX12_readBed 114 = .ok (.bipush 7, 2) := by decide +kernel
theorem dX12_readBed_116 : decode cX12_readBed 116 = .ok (.iload_n 1, 1) := by decide +kernel
theorem dX12_readBed_117 : decode cX12_readBed 117 = .ok (.iadd, 1) := by decide +kernel
theorem dX12_readBed_118 : decode cX12_readBed 118 = .ok (.iaload, 1) := by decide +kernel
theorem dX12_readBed_119 : decode cX12_readBed 119 = .ok (.if_icmp .ne 25, 3) := by decide +kernel
theorem dX12_readBed_122 : decode cX12_readBed 122 = .ok (.aload_n 0, 1) := by decide +kernel
theorem dX12_readBed_123 : decode cX12_readBed 123 = .ok (.getfield 37, 3) := by decide +kernel
theorem dX12_readBed_126 : decode cX12_readBed 126 = .ok (.bipush 13, 2) := by decide +kernel
theorem dX12_readBed_128 : decode cX12_readBed 128 = .ok (.iload_n 2, 1) := by decide +kernel
theorem dX12_readBed_129 : decode cX12_readBed 129 = .ok (.iadd, 1) := by decide +kernel
theorem dX12_readBed_130 : decode cX12_readBed 130 = .ok (.iaload, 1) := by decide +kernel
theorem dX12_readBed_131 : decode cX12_readBed 131 = .ok (.aload_n 0, 1) := by decide +kernel
theorem dX12_readBed_132 : decode cX12_readBed 132 = .ok (.getfield 201, 3) := by decide +kernel
theorem dX12_readBed_135 : decode cX12_readBed 135 = .ok (.if_icmp .ne 9, 3) := by decide +kernel
theorem dX12_readBed_138 : decode cX12_readBed 138 = .ok (.aload_n 0, 1) := by decide +kernel
theorem dX12_readBed_139 : decode cX12_readBed 139 = .ok (.iconst 3, 1) := by decide +kernel
theorem dX12_readBed_140 : decode cX12_readBed 140 = .ok (.invokevirtual 217, 3) := by decide +kernel
theorem dX12_readBed_143 : decode cX12_readBed 143 = .ok (.ireturn, 1) := by decide +kernel
theorem dX12_readBed_144 : decode cX12_readBed 144 = .ok (.iinc 2 1, 3) := by decide +kernel
theorem dX12_readBed_147 : decode cX12_readBed 147 = .ok (.goto (-51), 3) := by decide +kernel
theorem dX12_readBed_150 : decode cX12_readBed 150 = .ok (.aload_n 0, 1) := by decide +kernel
theorem dX12_readBed_151 : decode cX12_readBed 151 = .ok (.getfield 37, 3) := by decide +kernel
theorem dX12_readBed_154 : decode cX12_readBed 154 = .ok (.bipush 13, 2) := by decide +kernel
theorem dX12_readBed_156 : decode cX12_readBed 156 = .ok (.iload_n 1, 1) := by decide +kernel
theorem dX12_readBed_157 : decode cX12_readBed 157 = .ok (.iadd, 1) := by decide +kernel
theorem dX12_readBed_158 : decode cX12_readBed 158 = .ok (.aload_n 0, 1) := by decide +kernel
theorem dX12_readBed_159 : decode cX12_readBed 159 = .ok (.getfield 201, 3) := by decide +kernel
theorem dX12_readBed_162 : decode cX12_readBed 162 = .ok (.iastore, 1) := by decide +kernel
theorem dX12_readBed_163 : decode cX12_readBed 163 = .ok (.aload_n 0, 1) := by decide +kernel
theorem dX12_readBed_164 : decode cX12_readBed 164 = .ok (.getfield 37, 3) := by decide +kernel
theorem dX12_readBed_167 : decode cX12_readBed 167 = .ok (.bipush 19, 2) := by decide +kernel
theorem dX12_readBed_169 : decode cX12_readBed 169 = .ok (.iload_n 1, 1) := by decide +kernel
theorem dX12_readBed_170 : decode cX12_readBed 170 = .ok (.iadd, 1) := by decide +kernel
theorem dX12_readBed_171 : decode cX12_readBed 171 = .ok (.iconst 0, 1) := by decide +kernel
theorem dX12_readBed_172 : decode cX12_readBed 172 = .ok (.iastore, 1) := by decide +kernel
theorem dX12_readBed_173 : decode cX12_readBed 173 = .ok (.aload_n 0, 1) := by decide +kernel
theorem dX12_readBed_174 : decode cX12_readBed 174 = .ok (.getfield 37, 3) := by decide +kernel
theorem dX12_readBed_177 : decode cX12_readBed 177 = .ok (.iconst 0, 1) := by decide +kernel
theorem dX12_readBed_178 : decode cX12_readBed 178 = .ok (.dup2, 1) := by decide +kernel
theorem dX12_readBed_179 : decode cX12_readBed 179 = .ok (.iaload, 1) := by decide +kernel
theorem dX12_readBed_180 : decode cX12_readBed 180 = .ok (.iconst 1, 1) := by decide +kernel
theorem dX12_readBed_181 : decode cX12_readBed 181 = .ok (.iadd, 1) := by decide +kernel
theorem dX12_readBed_182 : decode cX12_readBed 182 = .ok (.iastore, 1) := by decide +kernel
theorem dX12_readBed_183 : decode cX12_readBed 183 = .ok (.aload_n 0, 1) := by decide +kernel
theorem dX12_readBed_184 : decode cX12_readBed 184 = .ok (.invokevirtual 220, 3) := by decide +kernel
theorem dX12_readBed_187 : decode cX12_readBed 187 = .ok (.iconst 1, 1) := by decide +kernel
theorem dX12_readBed_188 : decode cX12_readBed 188 = .ok (.ireturn, 1) := by decide +kernel
theorem dX12_readOwl_0 : decode cX12_readOwl 0 = .ok (.aload_n 0, 1) := by decide +kernel
theorem dX12_readOwl_1 : decode cX12_readOwl 1 = .ok (.getfield 37, 3) := by decide +kernel
theorem dX12_readOwl_4 : decode cX12_readOwl 4 = .ok (.iconst 1, 1) := by decide +kernel
theorem dX12_readOwl_5 : decode cX12_readOwl 5 = .ok (.iaload, 1) := by decide +kernel
theorem dX12_readOwl_6 : decode cX12_readOwl 6 = .ok (.istore_n 1, 1) := by decide +kernel
theorem dX12_readOwl_7 : decode cX12_readOwl 7 = .ok (.iload_n 1, 1) := by decide +kernel
theorem dX12_readOwl_8 : decode cX12_readOwl 8 = .ok (.bipush 6, 2) := by decide +kernel
theorem dX12_readOwl_10 : decode cX12_readOwl 10 = .ok (.if_icmp .ne 9, 3) := by decide +kernel
theorem dX12_readOwl_13 : decode cX12_readOwl 13 = .ok (.aload_n 0, 1) := by decide +kernel
theorem dX12_readOwl_14 : decode cX12_readOwl 14 = .ok (.iconst 4, 1) := by decide +kernel
theorem dX12_readOwl_15 : decode cX12_readOwl 15 = .ok (.invokevirtual 217, 3) := by decide +kernel
theorem dX12_readOwl_18 : decode cX12_readOwl 18 = .ok (.ireturn, 1) := by decide +kernel
theorem dX12_readOwl_19 : decode cX12_readOwl 19 = .ok (.aload_n 0, 1) := by decide +kernel
theorem dX12_readOwl_20 : decode cX12_readOwl 20 = .ok (.invokevirtual 220, 3) := by decide +kernel
theorem dX12_readOwl_23 : decode cX12_readOwl 23 = .ok (.aload_n 0, 1) := by decide +kernel
theorem dX12_readOwl_24 : decode cX12_readOwl 24 = .ok (.bipush 26, 2) := by decide +kernel
theorem dX12_readOwl_26 : decode cX12_readOwl 26 = .ok (.iload_n 1, 1) := by decide +kernel
theorem dX12_readOwl_27 : decode cX12_readOwl 27 = .ok (.iadd, 1) := by decide +kernel
theorem dX12_readOwl_28 : decode cX12_readOwl 28 = .ok (.invokevirtual 280, 3) := by decide +kernel
theorem dX12_readOwl_31 : decode cX12_readOwl 31 = .ok (.ifCond .eq 18, 3) := by decide +kernel
theorem dX12_readOwl_34 : decode cX12_readOwl 34 = .ok (.aload_n 0, 1) := by decide +kernel
theorem dX12_readOwl_35 : decode cX12_readOwl 35 = .ok (.bipush 20, 2) := by decide +kernel
theorem dX12_readOwl_37 : decode cX12_readOwl 37 = .ok (.aload_n 0, 1) := by decide +kernel
theorem dX12_readOwl_38 : decode cX12_readOwl 38 = .ok (.getfield 37, 3) := by decide +kernel
theorem dX12_readOwl_41 : decode cX12_readOwl 41 = .ok (.iconst 0, 1) := by decide +kernel
theorem dX12_readOwl_42 : decode cX12_readOwl 42 = .ok (.iaload, 1) := by decide +kernel
theorem dX12_readOwl_43 : decode cX12_readOwl 43 = .ok (.invokevirtual 245, 3) := by decide +kernel
theorem dX12_readOwl_46 : decode cX12_readOwl 46 = .ok (.ifCond .ne 5, 3) := by decide +kernel
theorem dX12_readOwl_49 : decode cX12_readOwl 49 = .ok (.iconst 0, 1) := by decide +kernel
theorem dX12_readOwl_50 : decode cX12_readOwl 50 = .ok (.ireturn, 1) := by decide +kernel
theorem dX12_readOwl_51 : decode cX12_readOwl 51 = .ok (.iconst 0, 1) := by decide +kernel
theorem dX12_readOwl_52 : decode cX12_readOwl 52 = .ok (.istore_n 2, 1) := by decide +kernel
theorem dX12_readOwl_53 : decode cX12_readOwl 53 = .ok (.iload_n 2, 1) := by decide +kernel
theorem dX12_readOwl_54 : decode cX12_readOwl 54 = .ok (.iload_n 1, 1) := by decide +kernel
theorem dX12_readOwl_55 : decode cX12_readOwl 55 = .ok (.if_icmp .ge 31, 3) := by decide +kernel
theorem dX12_readOwl_58 : decode cX12_readOwl 58 = .ok (.aload_n 0, 1) := by decide +kernel
theorem dX12_readOwl_59 : decode cX12_readOwl 59 = .ok (.getfield 37, 3) := by decide +kernel
theorem dX12_readOwl_62 : decode cX12_readOwl 62 = .ok (.bipush 25, 2) := by decide +kernel
theorem dX12_readOwl_64 : decode cX12_readOwl 64 = .ok (.iload_n 2, 1) := by decide +kernel
theorem dX12_readOwl_65 : decode cX12_readOwl 65 = .ok (.iadd, 1) := by decide +kernel
theorem dX12_readOwl_66 : decode cX12_readOwl 66 = .ok (.iaload, 1) := by decide +kernel
theorem dX12_readOwl_67 : decode cX12_readOwl 67 = .ok (.aload_n 0, 1) := by decide +kernel
theorem dX12_readOwl_68 : decode cX12_readOwl 68 = .ok (.getfield 227, 3) := by decide +kernel
theorem dX12_readOwl_71 : decode cX12_readOwl 71 = .ok (.if_icmp .ne 9, 3) := by decide +kernel
theorem dX12_readOwl_74 : decode cX12_readOwl 74 = .ok (.aload_n 0, 1) := by decide +kernel
theorem dX12_readOwl_75 : decode cX12_readOwl 75 = .ok (.iconst 3, 1) := by decide +kernel
theorem dX12_readOwl_76 : decode cX12_readOwl 76 = .ok (.invokevirtual 217, 3) := by decide +kernel
theorem dX12_readOwl_79 : decode cX12_readOwl 79 = .ok (.ireturn, 1) := by decide +kernel
theorem dX12_readOwl_80 : decode cX12_readOwl 80 = .ok (.iinc 2 1, 3) := by decide +kernel
theorem dX12_readOwl_83 : decode cX12_readOwl 83 = .ok (.goto (-30), 3) := by decide +kernel
theorem dX12_readOwl_86 : decode cX12_readOwl 86 = .ok (.aload_n 0, 1) := by decide +kernel
theorem dX12_readOwl_87 : decode cX12_readOwl 87 = .ok (.getfield 37, 3) := by decide +kernel
theorem dX12_readOwl_90 : decode cX12_readOwl 90 = .ok (.bipush 25, 2) := by decide +kernel
theorem dX12_readOwl_92 : decode cX12_readOwl 92 = .ok (.iload_n 1, 1) := by decide +kernel
theorem dX12_readOwl_93 : decode cX12_readOwl 93 = .ok (.iadd, 1) := by decide +kernel
theorem dX12_readOwl_94 : decode cX12_readOwl 94 = .ok (.aload_n 0, 1) := by decide +kernel
theorem dX12_readOwl_95 : decode cX12_readOwl 95 = .ok (.getfield 227, 3) := by decide +kernel
theorem dX12_readOwl_98 : decode cX12_readOwl 98 = .ok (.iastore, 1) := by decide +kernel
theorem dX12_readOwl_99 : decode cX12_readOwl 99 = .ok (.aload_n 0, 1) := by decide +kernel
theorem dX12_readOwl_100 : decode cX12_readOwl 100 = .ok (.invokevirtual 220, 3) := by decide +kernel
theorem dX12_readOwl_103 : decode cX12_readOwl 103 = .ok (.aload_n 0, 1) := by decide +kernel
theorem dX12_readOwl_104 : decode cX12_readOwl 104 = .ok (.bipush 31, 2) := by decide +kernel
theorem dX12_readOwl_106 : decode cX12_readOwl 106 = .ok (.iload_n 1, 1) := by decide +kernel
theorem dX12_readOwl_107 : decode cX12_readOwl 107 = .ok (.iadd, 1) := by decide +kernel
theorem dX12_readOwl_108 : decode cX12_readOwl 108 = .ok (.iconst 1, 1) := by decide +kernel
theorem dX12_readOwl_109 : decode cX12_readOwl 109 = .ok (.bipush 20, 2) := by decide +kernel
theorem dX12_readOwl_111 : decode cX12_readOwl 111 = .ok (.invokevirtual 256, 3) := by decide +kernel
theorem dX12_readOwl_114 : decode cX12_readOwl 114 = .ok (.ifCond .ne 5, 3) := by decide +kernel
theorem dX12_readOwl_117 : decode cX12_readOwl 117 = .ok (.iconst 0, 1) := by decide +kernel
theorem dX12_readOwl_118 : decode cX12_readOwl 118 = .ok (.ireturn, 1) := by decide +kernel
theorem dX12_readOwl_119 : decode cX12_readOwl 119 = .ok (.aload_n 0, 1) := by decide +kernel
theorem dX12_readOwl_120 : decode cX12_readOwl 120 = .ok (.getfield 37, 3) := by decide +kernel
theorem dX12_readOwl_123 : decode cX12_readOwl 123 = .ok (.iconst 1, 1) := by decide +kernel
theorem dX12_readOwl_124 : decode cX12_readOwl 124 = .ok (.dup2, 1) := by decide +kernel
theorem dX12_readOwl_125 : decode cX12_readOwl 125 = .ok (.iaload, 1) := by decide +kernel
theorem dX12_readOwl_126 : decode cX12_readOwl 126 = .ok (.iconst 1, 1) := by decide +kernel
theorem dX12_readOwl_127 : decode cX12_readOwl 127 = .ok (.iadd, 1) := by decide +kernel
theorem dX12_readOwl_128 : decode cX12_readOwl 128 = .ok (.iastore, 1) := by decide +kernel
theorem dX12_readOwl_129 : decode cX12_readOwl 129 = .ok (.iconst 1, 1) := by decide +kernel
theorem dX12_readOwl_130 : decode cX12_readOwl 130 = .ok (.ireturn, 1) := by decide +kernel
theorem dX12_readBad_0 : decode cX12_readBad 0 = .ok (.aload_n 0, 1) := by decide +kernel
theorem dX12_readBad_1 : decode cX12_readBad 1 = .ok (.invokevirtual 220, 3) := by decide +kernel
theorem dX12_readBad_4 : decode cX12_readBad 4 = .ok (.aload_n 0, 1) := by decide +kernel
theorem dX12_readBad_5 : decode cX12_readBad 5 = .ok (.bipush 26, 2) := by decide +kernel
theorem dX12_readBad_7 : decode cX12_readBad 7 = .ok (.aload_n 0, 1) := by decide +kernel
theorem dX12_readBad_8 : decode cX12_readBad 8 = .ok (.getfield 37, 3) := by decide +kernel
theorem dX12_readBad_11 : decode cX12_readBad 11 = .ok (.iconst 1, 1) := by decide +kernel
theorem dX12_readBad_12 : decode cX12_readBad 12 = .ok (.iaload, 1) := by decide +kernel
theorem dX12_readBad_13 : decode cX12_readBad 13 = .ok (.invokevirtual 245, 3) := by decide +kernel
theorem dX12_readBad_16 : decode cX12_readBad 16 = .ok (.ifCond .ne 5, 3) := by decide +kernel
theorem dX12_readBad_19 : decode cX12_readBad 19 = .ok (.iconst 0, 1) := by decide +kernel
theorem dX12_readBad_20 : decode cX12_readBad 20 = .ok (.ireturn, 1) := by decide +kernel
theorem dX12_readBad_21 : decode cX12_readBad 21 = .ok (.aload_n 0, 1) := by decide +kernel
theorem dX12_readBad_22 : decode cX12_readBad 22 = .ok (.getfield 227, 3) := by decide +kernel
theorem dX12_readBad_25 : decode cX12_readBad 25 = .ok (.istore_n 1, 1) := by decide +kernel
theorem dX12_readBad_26 : decode cX12_readBad 26 = .ok (.aload_n 0, 1) := by decide +kernel
theorem dX12_readBad_27 : decode cX12_readBad 27 = .ok (.getfield 37, 3) := by decide +kernel
theorem dX12_readBad_30 : decode cX12_readBad 30 = .ok (.bipush 37, 2) := by decide +kernel
theorem dX12_readBad_32 : decode cX12_readBad 32 = .ok (.iload_n 1, 1) := by decide +kernel
theorem dX12_readBad_33 : decode cX12_readBad 33 = .ok (.iadd, 1) := by decide +kernel
theorem dX12_readBad_34 : decode cX12_readBad 34 = .ok (.iaload, 1) := by decide +kernel
theorem dX12_readBad_35 : decode cX12_readBad 35 = .ok (.ifCond .le 9, 3) := by decide +kernel
theorem dX12_readBad_38 : decode cX12_readBad 38 = .ok (.aload_n 0, 1) := by decide +kernel
theorem dX12_readBad_39 : decode cX12_readBad 39 = .ok (.iconst 3, 1) := by decide +kernel
theorem dX12_readBad_40 : decode cX12_readBad 40 = .ok (.invokevirtual 217, 3) := by decide +kernel
theorem dX12_readBad_43 : decode cX12_readBad 43 = .ok (.ireturn, 1) := by decide +kernel
theorem dX12_readBad_44 : decode cX12_readBad 44 = .ok (.aload_n 0, 1) := by decide +kernel
theorem dX12_readBad_45 : decode cX12_readBad 45 = .ok (.invokevirtual 220, 3) := by decide +kernel
theorem dX12_readBad_48 : decode cX12_readBad 48 = .ok (.aload_n 0, 1) := by decide +kernel
theorem dX12_readBad_49 : decode cX12_readBad 49 = .ok (.invokevirtual 283, 3) := by decide +kernel
theorem dX12_readBad_52 : decode cX12_readBad 52 = .ok (.ifCond .ne 5, 3) := by decide +kernel
theorem dX12_readBad_55 : decode cX12_readBad 55 = .ok (.iconst 0, 1) := by decide +kernel
theorem dX12_readBad_56 : decode cX12_readBad 56 = .ok (.ireturn, 1) := by decide +kernel
theorem dX12_readBad_57 : decode cX12_readBad 57 = .ok (.aload_n 0, 1) := by decide +kernel
theorem dX12_readBad_58 : decode cX12_readBad 58 = .ok (.getfield 37, 3) := by decide +kernel
theorem dX12_readBad_61 : decode cX12_readBad 61 = .ok (.bipush 37, 2) := by decide +kernel
theorem dX12_readBad_63 : decode cX12_readBad 63 = .ok (.iload_n 1, 1) := by decide +kernel
theorem dX12_readBad_64 : decode cX12_readBad 64 = .ok (.iadd, 1) := by decide +kernel
theorem dX12_readBad_65 : decode cX12_readBad 65 = .ok (.aload_n 0, 1) := by decide +kernel
theorem dX12_readBad_66 : decode cX12_readBad 66 = .ok (.getfield 227, 3) := by decide +kernel
theorem dX12_readBad_69 : decode cX12_readBad 69 = .ok (.iconst 1, 1) := by decide +kernel
theorem dX12_readBad_70 : decode cX12_readBad 70 = .ok (.iadd, 1) := by decide +kernel
theorem dX12_readBad_71 : decode cX12_readBad 71 = .ok (.iastore, 1) := by decide +kernel
theorem dX12_readBad_72 : decode cX12_readBad 72 = .ok (.aload_n 0, 1) := by decide +kernel
theorem dX12_readBad_73 : decode cX12_readBad 73 = .ok (.invokevirtual 220, 3) := by decide +kernel
theorem dX12_readBad_76 : decode cX12_readBad 76 = .ok (.iconst 1, 1) := by decide +kernel
theorem dX12_readBad_77 : decode cX12_readBad 77 = .ok (.ireturn, 1) := by decide +kernel
theorem dX12_readDeaf_0 : decode cX12_readDeaf 0 = .ok (.aload_n 0, 1) := by decide +kernel
theorem dX12_readDeaf_1 : decode cX12_readDeaf 1 = .ok (.invokevirtual 220, 3) := by decide +kernel
theorem dX12_readDeaf_4 : decode cX12_readDeaf 4 = .ok (.aload_n 0, 1) := by decide +kernel
theorem dX12_readDeaf_5 : decode cX12_readDeaf 5 = .ok (.bipush 26, 2) := by decide +kernel
theorem dX12_readDeaf_7 : decode cX12_readDeaf 7 = .ok (.aload_n 0, 1) := by decide +kernel
theorem dX12_readDeaf_8 : decode cX12_readDeaf 8 = .ok (.getfield 37, 3) := by decide +kernel
theorem dX12_readDeaf_11 : decode cX12_readDeaf 11 = .ok (.iconst 1, 1) := by decide +kernel
theorem dX12_readDeaf_12 : decode cX12_readDeaf 12 = .ok (.iaload, 1) := by decide +kernel
theorem dX12_readDeaf_13 : decode cX12_readDeaf 13 = .ok (.invokevirtual 286, 3) := by decide +kernel
theorem dX12_readDeaf_16 : decode cX12_readDeaf 16 = .ok (.ifCond .ne 5, 3) := by decide +kernel
theorem dX12_readDeaf_19 : decode cX12_readDeaf 19 = .ok (.iconst 0, 1) := by decide +kernel
theorem dX12_readDeaf_20 : decode cX12_readDeaf 20 = .ok (.ireturn, 1) := by decide +kernel
theorem dX12_readDeaf_21 : decode cX12_readDeaf 21 = .ok (.aload_n 0, 1) := by decide +kernel
theorem dX12_readDeaf_22 : decode cX12_readDeaf 22 = .ok (.getfield 227, 3) := by decide +kernel
theorem dX12_readDeaf_25 : decode cX12_readDeaf 25 = .ok (.istore_n 1, 1) := by decide +kernel
theorem dX12_readDeaf_26 : decode cX12_readDeaf 26 = .ok (.aload_n 0, 1) := by decide +kernel
theorem dX12_readDeaf_27 : decode cX12_readDeaf 27 = .ok (.invokevirtual 289, 3) := by decide +kernel
theorem dX12_readDeaf_30 : decode cX12_readDeaf 30 = .ok (.ifCond .ne 5, 3) := by decide +kernel
theorem dX12_readDeaf_33 : decode cX12_readDeaf 33 = .ok (.iconst 0, 1) := by decide +kernel
theorem dX12_readDeaf_34 : decode cX12_readDeaf 34 = .ok (.ireturn, 1) := by decide +kernel
theorem dX12_readDeaf_35 : decode cX12_readDeaf 35 = .ok (.aload_n 0, 1) := by decide +kernel
theorem dX12_readDeaf_36 : decode cX12_readDeaf 36 = .ok (.getfield 37, 3) := by decide +kernel
theorem dX12_readDeaf_39 : decode cX12_readDeaf 39 = .ok (.bipush 43, 2) := by decide +kernel
theorem dX12_readDeaf_41 : decode cX12_readDeaf 41 = .ok (.iload_n 1, 1) := by decide +kernel
theorem dX12_readDeaf_42 : decode cX12_readDeaf 42 = .ok (.iadd, 1) := by decide +kernel
theorem dX12_readDeaf_43 : decode cX12_readDeaf 43 = .ok (.iaload, 1) := by decide +kernel
theorem dX12_readDeaf_44 : decode cX12_readDeaf 44 = .ok (.aload_n 0, 1) := by decide +kernel
theorem dX12_readDeaf_45 : decode cX12_readDeaf 45 = .ok (.getfield 227, 3) := by decide +kernel
theorem dX12_readDeaf_48 : decode cX12_readDeaf 48 = .ok (.invokestatic 292, 3) := by decide +kernel
theorem dX12_readDeaf_51 : decode cX12_readDeaf 51 = .ok (.ifCond .eq 9, 3) := by decide +kernel
theorem dX12_readDeaf_54 : decode cX12_readDeaf 54 = .ok (.aload_n 0, 1) := by decide +kernel
theorem dX12_readDeaf_55 : decode cX12_readDeaf 55 = .ok (.iconst 3, 1) := by decide +kernel
theorem dX12_readDeaf_56 : decode cX12_readDeaf 56 = .ok (.invokevirtual 217, 3) := by decide +kernel
theorem dX12_readDeaf_59 : decode cX12_readDeaf 59 = .ok (.ireturn, 1) := by decide +kernel
theorem dX12_readDeaf_60 : decode cX12_readDeaf 60 = .ok (.aload_n 0, 1) := by decide +kernel
theorem dX12_readDeaf_61 : decode cX12_readDeaf 61 = .ok (.getfield 37, 3) := by decide +kernel
theorem dX12_readDeaf_64 : decode cX12_readDeaf 64 = .ok (.bipush 43, 2) := by decide +kernel
theorem dX12_readDeaf_66 : decode cX12_readDeaf 66 = .ok (.iload_n 1, 1) := by decide +kernel
theorem dX12_readDeaf_67 : decode cX12_readDeaf 67 = .ok (.iadd, 1) := by decide +kernel
theorem dX12_readDeaf_68 : decode cX12_readDeaf 68 = .ok (.dup2, 1) := by decide +kernel
theorem dX12_readDeaf_69 : decode cX12_readDeaf 69 = .ok (.iaload, 1) := by decide +kernel
theorem dX12_readDeaf_70 : decode cX12_readDeaf 70 = .ok (.iconst 1, 1) := by decide +kernel
theorem dX12_readDeaf_71 : decode cX12_readDeaf 71 = .ok (.aload_n 0, 1) := by decide +kernel
theorem dX12_readDeaf_72 : decode cX12_readDeaf 72 = .ok (.getfield 227, 3) := by decide +kernel
theorem dX12_readDeaf_75 : decode cX12_readDeaf 75 = .ok (.ishl, 1) := by decide +kernel
theorem dX12_readDeaf_76 : decode cX12_readDeaf 76 = .ok (.ior, 1) := by decide +kernel
theorem dX12_readDeaf_77 : decode cX12_readDeaf 77 = .ok (.iastore, 1) := by decide +kernel
theorem dX12_readDeaf_78 : decode cX12_readDeaf 78 = .ok (.aload_n 0, 1) := by decide +kernel
theorem dX12_readDeaf_79 : decode cX12_readDeaf 79 = .ok (.invokevirtual 220, 3) := by decide +kernel
theorem dX12_readDeaf_82 : decode cX12_readDeaf 82 = .ok (.iconst 1, 1) := by decide +kernel
theorem dX12_readDeaf_83 : decode cX12_readDeaf 83 = .ok (.ireturn, 1) := by decide +kernel
theorem dX12_readSound_0 : decode cX12_readSound 0 = .ok (.aload_n 0, 1) := by decide +kernel
theorem dX12_readSound_1 : decode cX12_readSound 1 = .ok (.getfield 37, 3) := by decide +kernel
theorem dX12_readSound_4 : decode cX12_readSound 4 = .ok (.iconst 2, 1) := by decide +kernel
theorem dX12_readSound_5 : decode cX12_readSound 5 = .ok (.iaload, 1) := by decide +kernel
theorem dX12_readSound_6 : decode cX12_readSound 6 = .ok (.istore_n 1, 1) := by decide +kernel
theorem dX12_readSound_7 : decode cX12_readSound 7 = .ok (.iload_n 1, 1) := by decide +kernel
theorem dX12_readSound_8 : decode cX12_readSound 8 = .ok (.bipush 8, 2) := by decide +kernel
theorem dX12_readSound_10 : decode cX12_readSound 10 = .ok (.if_icmp .ne 9, 3) := by decide +kernel
theorem dX12_readSound_13 : decode cX12_readSound 13 = .ok (.aload_n 0, 1) := by decide +kernel
theorem dX12_readSound_14 : decode cX12_readSound 14 = .ok (.iconst 4, 1) := by decide +kernel
theorem dX12_readSound_15 : decode cX12_readSound 15 = .ok (.invokevirtual 217, 3) := by decide +kernel
theorem dX12_readSound_18 : decode cX12_readSound 18 = .ok (.ireturn, 1) := by decide +kernel
theorem dX12_readSound_19 : decode cX12_readSound 19 = .ok (.aload_n 0, 1) := by decide +kernel
theorem dX12_readSound_20 : decode cX12_readSound 20 = .ok (.iconst 1, 1) := by decide +kernel
theorem dX12_readSound_21 : decode cX12_readSound 21 = .ok (.putfield 252, 3) := by decide +kernel
theorem dX12_readSound_24 : decode cX12_readSound 24 = .ok (.aload_n 0, 1) := by decide +kernel
theorem dX12_readSound_25 : decode cX12_readSound 25 = .ok (.invokevirtual 220, 3) := by decide +kernel
theorem dX12_readSound_28 : decode cX12_readSound 28 = .ok (.aload_n 0, 1) := by decide +kernel
theorem dX12_readSound_29 : decode cX12_readSound 29 = .ok (.bipush 32, 2) := by decide +kernel
theorem dX12_readSound_31 : decode cX12_readSound 31 = .ok (.iload_n 1, 1) := by decide +kernel
theorem dX12_readSound_32 : decode cX12_readSound 32 = .ok (.iadd, 1) := by decide +kernel
theorem dX12_readSound_33 : decode cX12_readSound 33 = .ok (.invokevirtual 280, 3) := by decide +kernel
theorem dX12_readSound_36 : decode cX12_readSound 36 = .ok (.ifCond .eq 10, 3) := by decide +kernel
theorem dX12_readSound_39 : decode cX12_readSound 39 = .ok (.aload_n 0, 1) := by decide +kernel
theorem dX12_readSound_40 : decode cX12_readSound 40 = .ok (.invokevirtual 289, 3) := by decide +kernel
theorem dX12_readSound_43 : decode cX12_readSound 43 = .ok (.ifCond .ne 5, 3) := by decide +kernel
theorem dX12_readSound_46 : decode cX12_readSound 46 = .ok (.iconst 0, 1) := by decide +kernel
theorem dX12_readSound_47 : decode cX12_readSound 47 = .ok (.ireturn, 1) := by decide +kernel
theorem dX12_readSound_48 : decode cX12_readSound 48 = .ok (.aload_n 0, 1) := by decide +kernel
theorem dX12_readSound_49 : decode cX12_readSound 49 = .ok (.getfield 37, 3) := by decide +kernel
theorem dX12_readSound_52 : decode cX12_readSound 52 = .ok (.bipush 49, 2) := by decide +kernel
theorem dX12_readSound_54 : decode cX12_readSound 54 = .ok (.iload_n 1, 1) := by decide +kernel
theorem dX12_readSound_55 : decode cX12_readSound 55 = .ok (.iadd, 1) := by decide +kernel
theorem dX12_readSound_56 : decode cX12_readSound 56 = .ok (.aload_n 0, 1) := by decide +kernel
theorem dX12_readSound_57 : decode cX12_readSound 57 = .ok (.getfield 227, 3) := by decide +kernel
theorem dX12_readSound_60 : decode cX12_readSound 60 = .ok (.iastore, 1) := by decide +kernel
theorem dX12_readSound_61 : decode cX12_readSound 61 = .ok (.aload_n 0, 1) := by decide +kernel
theorem dX12_readSound_62 : decode cX12_readSound 62 = .ok (.invokevirtual 220, 3) := by decide +kernel
theorem dX12_readSound_65 : decode cX12_readSound 65 = .ok (.aload_n 0, 1) := by decide +kernel
theorem dX12_readSound_66 : decode cX12_readSound 66 = .ok (.bipush 57, 2) := by decide +kernel
theorem dX12_readSound_68 : decode cX12_readSound 68 = .ok (.iload_n 1, 1) := by decide +kernel
theorem dX12_readSound_69 : decode cX12_readSound 69 = .ok (.iadd, 1) := by decide +kernel
theorem dX12_readSound_70 : decode cX12_readSound 70 = .ok (.iconst 0, 1) := by decide +kernel
theorem dX12_readSound_71 : decode cX12_readSound 71 = .ok (.aload_n 0, 1) := by decide +kernel
theorem dX12_readSound_72 : decode cX12_readSound 72 = .ok (.getfield 37, 3) := by decide +kernel
theorem dX12_readSound_75 : decode cX12_readSound 75 = .ok (.iconst 3, 1) := by decide +kernel
theorem dX12_readSound_76 : decode cX12_readSound 76 = .ok (.iaload, 1) := by decide +kernel
theorem dX12_readSound_77 : decode cX12_readSound 77 = .ok (.iconst 1, 1) := by decide +kernel
theorem dX12_readSound_78 : decode cX12_readSound 78 = .ok (.isub, 1) := by decide +kernel
theorem dX12_readSound_79 : decode cX12_readSound 79 = .ok (.invokevirtual 256, 3) := by decide +kernel
theorem dX12_readSound_82 : decode cX12_readSound 82 = .ok (.ifCond .eq 65, 3) := by decide +kernel
theorem dX12_readSound_85 : decode cX12_readSound 85 = .ok (.aload_n 0, 1) := by decide +kernel
theorem dX12_readSound_86 : decode cX12_readSound 86 = .ok (.bipush 65, 2) := by decide +kernel
theorem dX12_readSound_88 : decode cX12_readSound 88 = .ok (.iload_n 1, 1) := by decide +kernel
theorem dX12_readSound_89 : decode cX12_readSound 89 = .ok (.iadd, 1) := by decide +kernel
theorem dX12_readSound_90 : decode cX12_readSound 90 = .ok (.iconst 0, 1) := by decide +kernel
theorem dX12_readSound_91 : decode cX12_readSound 91 = .ok (.aload_n 0, 1) := by decide +kernel
theorem dX12_readSound_92 : decode cX12_readSound 92 = .ok (.getfield 37, 3) := by decide +kernel
theorem dX12_readSound_95 : decode cX12_readSound 95 = .ok (.iconst 4, 1) := by decide +kernel
theorem dX12_readSound_96 : decode cX12_readSound 96 = .ok (.iaload, 1) := by decide +kernel
theorem dX12_readSound_97 : decode cX12_readSound 97 = .ok (.iconst 1, 1) := by decide +kernel
theorem dX12_readSound_98 : decode cX12_readSound 98 = .ok (.isub, 1) := by decide +kernel
theorem dX12_readSound_99 : decode cX12_readSound 99 = .ok (.invokevirtual 256, 3) := by decide +kernel
theorem dX12_readSound_102 : decode cX12_readSound 102 = .ok (.ifCond .eq 45, 3) := by decide +kernel
theorem dX12_readSound_105 : decode cX12_readSound 105 = .ok (.aload_n 0, 1) := by decide +kernel
theorem dX12_readSound_106 : decode cX12_readSound 106 = .ok (.bipush 73, 2) := by decide +kernel
theorem dX12_readSound_108 : decode cX12_readSound 108 = .ok (.iload_n 1, 1) := by decide +kernel
theorem dX12_readSound_109 : decode cX12_readSound 109 = .ok (.iadd, 1) := by decide +kernel
theorem dX12_readSound_110 : decode cX12_readSound 110 = .ok (.iconst 1, 1) := by decide +kernel
theorem dX12_readSound_111 : decode cX12_readSound 111 = .ok (.bipush 30, 2) := by decide +kernel
theorem dX12_readSound_113 : decode cX12_readSound 113 = .ok (.invokevirtual 256, 3) := by decide +kernel
theorem dX12_readSound_116 : decode cX12_readSound 116 = .ok (.ifCond .eq 31, 3) := by decide +kernel
theorem dX12_readSound_119 : decode cX12_readSound 119 = .ok (.aload_n 0, 1) := by decide +kernel
theorem dX12_readSound_120 : decode cX12_readSound 120 = .ok (.bipush 81, 2) := by decide +kernel
theorem dX12_readSound_122 : decode cX12_readSound 122 = .ok (.iload_n 1, 1) := by decide +kernel
theorem dX12_readSound_123 : decode cX12_readSound 123 = .ok (.iadd, 1) := by decide +kernel
theorem dX12_readSound_124 : decode cX12_readSound 124 = .ok (.iconst 0, 1) := by decide +kernel
theorem dX12_readSound_125 : decode cX12_readSound 125 = .ok (.bipush 23, 2) := by decide +kernel
theorem dX12_readSound_127 : decode cX12_readSound 127 = .ok (.invokevirtual 256, 3) := by decide +kernel
theorem dX12_readSound_130 : decode cX12_readSound 130 = .ok (.ifCond .eq 17, 3) := by decide +kernel
theorem dX12_readSound_133 : decode cX12_readSound 133 = .ok (.aload_n 0, 1) := by decide +kernel
theorem dX12_readSound_134 : decode cX12_readSound 134 = .ok (.bipush 89, 2) := by decide +kernel
theorem dX12_readSound_136 : decode cX12_readSound 136 = .ok (.iload_n 1, 1) := by decide +kernel
theorem dX12_readSound_137 : decode cX12_readSound 137 = .ok (.iadd, 1) := by decide +kernel
theorem dX12_readSound_138 : decode cX12_readSound 138 = .ok (.iconst 0, 1) := by decide +kernel
theorem dX12_readSound_139 : decode cX12_readSound 139 = .ok (.bipush 23, 2) := by decide +kernel
theorem dX12_readSound_141 : decode cX12_readSound 141 = .ok (.invokevirtual 256, 3) := by decide +kernel
theorem dX12_readSound_144 : decode cX12_readSound 144 = .ok (.ifCond .ne 5, 3) := by decide +kernel
theorem dX12_readSound_147 : decode cX12_readSound 147 = .ok (.iconst 0, 1) := by decide +kernel
theorem dX12_readSound_148 : decode cX12_readSound 148 = .ok (.ireturn, 1) := by decide +kernel
theorem dX12_readSound_149 : decode cX12_readSound 149 = .ok (.aload_n 0, 1) := by decide +kernel
theorem dX12_readSound_150 : decode cX12_readSound 150 = .ok (.getfield 37, 3) := by decide +kernel
theorem dX12_readSound_153 : decode cX12_readSound 153 = .ok (.iconst 2, 1) := by decide +kernel
theorem dX12_readSound_154 : decode cX12_readSound 154 = .ok (.dup2, 1) := by decide +kernel
theorem dX12_readSound_155 : decode cX12_readSound 155 = .ok (.iaload, 1) := by decide +kernel
theorem dX12_readSound_156 : decode cX12_readSound 156 = .ok (.iconst 1, 1) := by decide +kernel
theorem dX12_readSound_157 : decode cX12_readSound 157 = .ok (.iadd, 1) := by decide +kernel
theorem dX12_readSound_158 : decode cX12_readSound 158 = .ok (.iastore, 1) := by decide +kernel
theorem dX12_readSound_159 : decode cX12_readSound 159 = .ok (.iconst 1, 1) := by decide +kernel
theorem dX12_readSound_160 : decode cX12_readSound 160 = .ok (.ireturn, 1) := by decide +kernel
theorem dX12_readWants_0 : decode cX12_readWants 0 = .ok (.aload_n 0, 1) := by decide +kernel
theorem dX12_readWants_1 : decode cX12_readWants 1 = .ok (.invokevirtual 220, 3) := by decide +kernel
theorem dX12_readWants_4 : decode cX12_readWants 4 = .ok (.aload_n 0, 1) := by decide +kernel
theorem dX12_readWants_5 : decode cX12_readWants 5 = .ok (.bipush 20, 2) := by decide +kernel
theorem dX12_readWants_7 : decode cX12_readWants 7 = .ok (.aload_n 0, 1) := by decide +kernel
theorem dX12_readWants_8 : decode cX12_readWants 8 = .ok (.getfield 37, 3) := by decide +kernel
theorem dX12_readWants_11 : decode cX12_readWants 11 = .ok (.iconst 0, 1) := by decide +kernel
theorem dX12_readWants_12 : decode cX12_readWants 12 = .ok (.iaload, 1) := by decide +kernel
theorem dX12_readWants_13 : decode cX12_readWants 13 = .ok (.invokevirtual 245, 3) := by decide +kernel
theorem dX12_readWants_16 : decode cX12_readWants 16 = .ok (.ifCond .ne 5, 3) := by decide +kernel
theorem dX12_readWants_19 : decode cX12_readWants 19 = .ok (.iconst 0, 1) := by decide +kernel
theorem dX12_readWants_20 : decode cX12_readWants 20 = .ok (.ireturn, 1) := by decide +kernel
theorem dX12_readWants_21 : decode cX12_readWants 21 = .ok (.aload_n 0, 1) := by decide +kernel
theorem dX12_readWants_22 : decode cX12_readWants 22 = .ok (.getfield 227, 3) := by decide +kernel
theorem dX12_readWants_25 : decode cX12_readWants 25 = .ok (.istore_n 1, 1) := by decide +kernel
theorem dX12_readWants_26 : decode cX12_readWants 26 = .ok (.aload_n 0, 1) := by decide +kernel
theorem dX12_readWants_27 : decode cX12_readWants 27 = .ok (.getfield 37, 3) := by decide +kernel
theorem dX12_readWants_30 : decode cX12_readWants 30 = .ok (.bipush 19, 2) := by decide +kernel
theorem dX12_readWants_32 : decode cX12_readWants 32 = .ok (.iload_n 1, 1) := by decide +kernel
theorem dX12_readWants_33 : decode cX12_readWants 33 = .ok (.iadd, 1) := by decide +kernel
theorem dX12_readWants_34 : decode cX12_readWants 34 = .ok (.iaload, 1) := by decide +kernel
theorem dX12_readWants_35 : decode cX12_readWants 35 = .ok (.ifCond .le 9, 3) := by decide +kernel
theorem dX12_readWants_38 : decode cX12_readWants 38 = .ok (.aload_n 0, 1) := by decide +kernel
theorem dX12_readWants_39 : decode cX12_readWants 39 = .ok (.iconst 3, 1) := by decide +kernel
theorem dX12_readWants_40 : decode cX12_readWants 40 = .ok (.invokevirtual 217, 3) := by decide +kernel
theorem dX12_readWants_43 : decode cX12_readWants 43 = .ok (.ireturn, 1) := by decide +kernel
theorem dX12_readWants_44 : decode cX12_readWants 44 = .ok (.aload_n 0, 1) := by decide +kernel
theorem dX12_readWants_45 : decode cX12_readWants 45 = .ok (.invokevirtual 220, 3) := by decide +kernel
theorem dX12_readWants_48 : decode cX12_readWants 48 = .ok (.aload_n 0, 1) := by decide +kernel
theorem dX12_readWants_49 : decode cX12_readWants 49 = .ok (.invokevirtual 289, 3) := by decide +kernel
theorem dX12_readWants_52 : decode cX12_readWants 52 = .ok (.ifCond .ne 5, 3) := by decide +kernel
theorem dX12_readWants_55 : decode cX12_readWants 55 = .ok (.iconst 0, 1) := by decide +kernel
theorem dX12_readWants_56 : decode cX12_readWants 56 = .ok (.ireturn, 1) := by decide +kernel
theorem dX12_readWants_57 : decode cX12_readWants 57 = .ok (.aload_n 0, 1) := by decide +kernel
theorem dX12_readWants_58 : decode cX12_readWants 58 = .ok (.getfield 37, 3) := by decide +kernel
theorem dX12_readWants_61 : decode cX12_readWants 61 = .ok (.bipush 19, 2) := by decide +kernel
theorem dX12_readWants_63 : decode cX12_readWants 63 = .ok (.iload_n 1, 1) := by decide +kernel
theorem dX12_readWants_64 : decode cX12_readWants 64 = .ok (.iadd, 1) := by decide +kernel
theorem dX12_readWants_65 : decode cX12_readWants 65 = .ok (.aload_n 0, 1) := by decide +kernel
theorem dX12_readWants_66 : decode cX12_readWants 66 = .ok (.getfield 227, 3) := by decide +kernel
theorem dX12_readWants_69 : decode cX12_readWants 69 = .ok (.iconst 1, 1) := by decide +kernel
theorem dX12_readWants_70 : decode cX12_readWants 70 = .ok (.iadd, 1) := by decide +kernel
theorem dX12_readWants_71 : decode cX12_readWants 71 = .ok (.iastore, 1) := by decide +kernel
theorem dX12_readWants_72 : decode cX12_readWants 72 = .ok (.aload_n 0, 1) := by decide +kernel
theorem dX12_readWants_73 : decode cX12_readWants 73 = .ok (.invokevirtual 220, 3) := by decide +kernel
theorem dX12_readWants_76 : decode cX12_readWants 76 = .ok (.iconst 1, 1) := by decide +kernel
theorem dX12_readWants_77 : decode cX12_readWants 77 = .ok (.ireturn, 1) := by decide +kernel
theorem dX12_house_0 : decode cX12_house 0 = .ok (.aload_n 0, 1) := by decide +kernel
theorem dX12_house_1 : decode cX12_house 1 = .ok (.iconst 0, 1) := by decide +kernel
theorem dX12_house_2 : decode cX12_house 2 = .ok (.putfield 1, 3) := by decide +kernel
theorem dX12_house_5 : decode cX12_house 5 = .ok (.aload_n 0, 1) := by decide +kernel
theorem dX12_house_6 : decode cX12_house 6 = .ok (.sipush 900, 3) := by decide +kernel
theorem dX12_house_9 : decode cX12_house 9 = .ok (.invokevirtual 295, 3) := by decide +kernel
theorem dX12_house_12 : decode cX12_house 12 = .ok (.aload_n 0, 1) := by decide +kernel
theorem dX12_house_13 : decode cX12_house 13 = .ok (.iconst 0, 1) := by decide +kernel
theorem dX12_house_14 : decode cX12_house 14 = .ok (.putfield 208, 3) := by decide +kernel
theorem dX12_house_17 : decode cX12_house 17 = .ok (.aload_n 0, 1) := by decide +kernel
theorem dX12_house_18 : decode cX12_house 18 = .ok (.iconst 0, 1) := by decide +kernel
theorem dX12_house_19 : decode cX12_house 19 = .ok (.putfield 298, 3) := by decide +kernel
theorem dX12_house_22 : decode cX12_house 22 = .ok (.aload_n 0, 1) := by decide +kernel
theorem dX12_house_23 : decode cX12_house 23 = .ok (.iconst 0, 1) := by decide +kernel
theorem dX12_house_24 : decode cX12_house 24 = .ok (.putfield 252, 3) := by decide +kernel
theorem dX12_house_27 : decode cX12_house 27 = .ok (.aload_n 0, 1) := by decide +kernel
theorem dX12_house_28 : decode cX12_house 28 = .ok (.iconst 0, 1) := by decide +kernel
theorem dX12_house_29 : decode cX12_house 29 = .ok (.putfield 277, 3) := by decide +kernel
theorem dX12_house_32 : decode cX12_house 32 = .ok (.aload_n 0, 1) := by decide +kernel
theorem dX12_house_33 : decode cX12_house 33 = .ok (.invokevirtual 178, 3) := by decide +kernel
theorem dX12_house_36 : decode cX12_house 36 = .ok (.aload_n 0, 1) := by decide +kernel
theorem dX12_house_37 : decode cX12_house 37 = .ok (.invokevirtual 220, 3) := by decide +kernel
theorem dX12_house_40 : decode cX12_house 40 = .ok (.aload_n 0, 1) := by decide +kernel
theorem dX12_house_41 : decode cX12_house 41 = .ok (.getfield 191, 3) := by decide +kernel
theorem dX12_house_44 : decode cX12_house 44 = .ok (.ifCond .eq 39, 3) := by decide +kernel
theorem dX12_house_47 : decode cX12_house 47 = .ok (.aload_n 0, 1) := by decide +kernel
theorem dX12_house_48 : decode cX12_house 48 = .ok (.invokevirtual 301, 3) := by decide +kernel
theorem dX12_house_51 : decode cX12_house 51 = .ok (.ifCond .eq 12, 3) := by decide +kernel
theorem dX12_house_54 : decode cX12_house 54 = .ok (.aload_n 0, 1) := by decide +kernel
theorem dX12_house_55 : decode cX12_house 55 = .ok (.bipush 59, 2) := by decide +kernel
theorem dX12_house_57 : decode cX12_house 57 = .ok (.invokevirtual 304, 3) := by decide +kernel
theorem dX12_house_60 : decode cX12_house 60 = .ok (.ifCond .ne 10, 3) := by decide +kernel
theorem dX12_house_63 : decode cX12_house 63 = .ok (.iconst (-1), 1) := by decide +kernel
theorem dX12_house_64 : decode cX12_house 64 = .ok (.aload_n 0, 1) := by decide +kernel
theorem dX12_house_65 : decode cX12_house 65 = .ok (.getfield 211, 3) := by decide +kernel
theorem dX12_house_68 : decode cX12_house 68 = .ok (.isub, 1) := by decide +kernel
theorem dX12_house_69 : decode cX12_house 69 = .ok (.ireturn, 1) := by decide +kernel
theorem dX12_house_70 : decode cX12_house 70 = .ok (.aload_n 0, 1) := by decide +kernel
theorem dX12_house_71 : decode cX12_house 71 = .ok (.dup, 1) := by decide +kernel
theorem dX12_house_72 : decode cX12_house 72 = .ok (.getfield 298, 3) := by decide +kernel
theorem dX12_house_75 : decode cX12_house 75 = .ok (.iconst 1, 1) := by decide +kernel
theorem dX12_house_76 : decode cX12_house 76 = .ok (.iadd, 1) := by decide +kernel
theorem dX12_house_77 : decode cX12_house 77 = .ok (.putfield 298, 3) := by decide +kernel
theorem dX12_house_80 : decode cX12_house 80 = .ok (.goto (-40), 3) := by decide +kernel
theorem dX12_house_83 : decode cX12_house 83 = .ok (.iconst 0, 1) := by decide +kernel
theorem dX12_house_84 : decode cX12_house 84 = .ok (.istore_n 1, 1) := by decide +kernel
theorem dX12_house_85 : decode cX12_house 85 = .ok (.iload_n 1, 1) := by decide +kernel
theorem dX12_house_86 : decode cX12_house 86 = .ok (.sipush 302, 3) := by decide +kernel
theorem dX12_house_89 : decode cX12_house 89 = .ok (.if_icmp .ge 31, 3) := by decide +kernel
theorem dX12_house_92 : decode cX12_house 92 = .ok (.aload_n 0, 1) := by decide +kernel
theorem dX12_house_93 : decode cX12_house 93 = .ok (.getfield 33, 3) := by decide +kernel
theorem dX12_house_96 : decode cX12_house 96 = .ok (.iload_n 1, 1) := by decide +kernel
theorem dX12_house_97 : decode cX12_house 97 = .ok (.iload_n 1, 1) := by decide +kernel
theorem dX12_house_98 : decode cX12_house 98 = .ok (.bipush 97, 2) := by decide +kernel
theorem dX12_house_100 : decode cX12_house 100 = .ok (.if_icmp .ge 12, 3) := by decide +kernel
theorem dX12_house_103 : decode cX12_house 103 = .ok (.aload_n 0, 1) := by decide +kernel
theorem dX12_house_104 : decode cX12_house 104 = .ok (.getfield 37, 3) := by decide +kernel
theorem dX12_house_107 : decode cX12_house 107 = .ok (.iload_n 1, 1) := by decide +kernel
theorem dX12_house_108 : decode cX12_house 108 = .ok (.iaload, 1) := by decide +kernel
theorem dX12_house_109 : decode cX12_house 109 = .ok (.goto 4, 3) := by decide +kernel
theorem dX12_house_112 : decode cX12_house 112 = .ok (.iconst 0, 1) := by decide +kernel
theorem dX12_house_113 : decode cX12_house 113 = .ok (.iastore, 1) := by decide +kernel
theorem dX12_house_114 : decode cX12_house 114 = .ok (.iinc 1 1, 3) := by decide +kernel
theorem dX12_house_117 : decode cX12_house 117 = .ok (.goto (-32), 3) := by decide +kernel
theorem dX12_house_120 : decode cX12_house 120 = .ok (.iconst 0, 1) := by decide +kernel
theorem dX12_house_121 : decode cX12_house 121 = .ok (.istore_n 1, 1) := by decide +kernel
theorem dX12_house_122 : decode cX12_house 122 = .ok (.iload_n 1, 1) := by decide +kernel
theorem dX12_house_123 : decode cX12_house 123 = .ok (.bipush 20, 2) := by decide +kernel
theorem dX12_house_125 : decode cX12_house 125 = .ok (.if_icmp .ge 24, 3) := by decide +kernel
theorem dX12_house_128 : decode cX12_house 128 = .ok (.aload_n 0, 1) := by decide +kernel
theorem dX12_house_129 : decode cX12_house 129 = .ok (.getfield 43, 3) := by decide +kernel
theorem dX12_house_132 : decode cX12_house 132 = .ok (.iload_n 1, 1) := by decide +kernel
theorem dX12_house_133 : decode cX12_house 133 = .ok (.aload_n 0, 1) := by decide +kernel
theorem dX12_house_134 : decode cX12_house 134 = .ok (.getfield 43, 3) := by decide +kernel
theorem dX12_house_137 : decode cX12_house 137 = .ok (.bipush 20, 2) := by decide +kernel
theorem dX12_house_139 : decode cX12_house 139 = .ok (.iload_n 1, 1) := by decide +kernel
theorem dX12_house_140 : decode cX12_house 140 = .ok (.iadd, 1) := by decide +kernel
theorem dX12_house_141 : decode cX12_house 141 = .ok (.laload, 1) := by decide +kernel
theorem dX12_house_142 : decode cX12_house 142 = .ok (.lastore, 1) := by decide +kernel
theorem dX12_house_143 : decode cX12_house 143 = .ok (.iinc 1 1, 3) := by decide +kernel
theorem dX12_house_146 : decode cX12_house 146 = .ok (.goto (-24), 3) := by decide +kernel
theorem dX12_house_149 : decode cX12_house 149 = .ok (.iconst 0, 1) := by decide +kernel
theorem dX12_house_150 : decode cX12_house 150 = .ok (.istore_n 1, 1) := by decide +kernel
theorem dX12_house_151 : decode cX12_house 151 = .ok (.iload_n 1, 1) := by decide +kernel
theorem dX12_house_152 : decode cX12_house 152 = .ok (.bipush 6, 2) := by decide +kernel
theorem dX12_house_154 : decode cX12_house 154 = .ok (.if_icmp .ge 27, 3) := by decide +kernel
theorem dX12_house_157 : decode cX12_house 157 = .ok (.aload_n 0, 1) := by decide +kernel
theorem dX12_house_158 : decode cX12_house 158 = .ok (.getfield 33, 3) := by decide +kernel
theorem dX12_house_161 : decode cX12_house 161 = .ok (.bipush 103, 2) := by decide +kernel
theorem dX12_house_163 : decode cX12_house 163 = .ok (.iload_n 1, 1) := by decide +kernel
theorem dX12_house_164 : decode cX12_house 164 = .ok (.iadd, 1) := by decide +kernel
theorem dX12_house_165 : decode cX12_house 165 = .ok (.aload_n 0, 1) := by decide +kernel
theorem dX12_house_166 : decode cX12_house 166 = .ok (.getfield 33, 3) := by decide +kernel
theorem dX12_house_169 : decode cX12_house 169 = .ok (.bipush 25, 2) := by decide +kernel
theorem dX12_house_171 : decode cX12_house 171 = .ok (.iload_n 1, 1) := by decide +kernel
theorem dX12_house_172 : decode cX12_house 172 = .ok (.iadd, 1) := by decide +kernel
theorem dX12_house_173 : decode cX12_house 173 = .ok (.iaload, 1) := by decide +kernel
theorem dX12_house_174 : decode cX12_house 174 = .ok (.iastore, 1) := by decide +kernel
theorem dX12_house_175 : decode cX12_house 175 = .ok (.iinc 1 1, 3) := by decide +kernel
theorem dX12_house_178 : decode cX12_house 178 = .ok (.goto (-27), 3) := by decide +kernel
theorem dX12_house_181 : decode cX12_house 181 = .ok (.aload_n 0, 1) := by decide +kernel
theorem dX12_house_182 : decode cX12_house 182 = .ok (.iconst 0, 1) := by decide +kernel
theorem dX12_house_183 : decode cX12_house 183 = .ok (.putfield 307, 3) := by decide +kernel
theorem dX12_house_186 : decode cX12_house 186 = .ok (.aload_n 0, 1) := by decide +kernel
theorem dX12_house_187 : decode cX12_house 187 = .ok (.getfield 298, 3) := by decide +kernel
theorem dX12_house_190 : decode cX12_house 190 = .ok (.ireturn, 1) := by decide +kernel
theorem dX12_fault_0 : decode cX12_fault 0 = .ok (.aload_n 0, 1) := by decide +kernel
theorem dX12_fault_1 : decode cX12_fault 1 = .ok (.iconst 0, 1) := by decide +kernel
theorem dX12_fault_2 : decode cX12_fault 2 = .ok (.putfield 1, 3) := by decide +kernel
theorem dX12_fault_5 : decode cX12_fault 5 = .ok (.aload_n 0, 1) := by decide +kernel
theorem dX12_fault_6 : decode cX12_fault 6 = .ok (.getfield 208, 3) := by decide +kernel
theorem dX12_fault_9 : decode cX12_fault 9 = .ok (.ireturn, 1) := by decide +kernel
theorem dX12_isBed_0 : decode cX12_isBed 0 = .ok (.iload_n 1, 1) := by decide +kernel
theorem dX12_isBed_1 : decode cX12_isBed 1 = .ok (.iconst 0, 1) := by decide +kernel
theorem dX12_isBed_2 : decode cX12_isBed 2 = .ok (.aload_n 0, 1) := by decide +kernel
theorem dX12_isBed_3 : decode cX12_isBed 3 = .ok (.getfield 33, 3) := by decide +kernel
theorem dX12_isBed_6 : decode cX12_isBed 6 = .ok (.iconst 0, 1) := by decide +kernel
theorem dX12_isBed_7 : decode cX12_isBed 7 = .ok (.iaload, 1) := by decide +kernel
theorem dX12_isBed_8 : decode cX12_isBed 8 = .ok (.iconst 1, 1) := by decide +kernel
theorem dX12_isBed_9 : decode cX12_isBed 9 = .ok (.isub, 1) := by decide +kernel
theorem dX12_isBed_10 : decode cX12_isBed 10 = .ok (.invokestatic 223, 3) := by decide +kernel
theorem dX12_isBed_13 : decode cX12_isBed 13 = .ok (.ireturn, 1) := by decide +kernel
theorem dX12_isOwl_0 : decode cX12_isOwl 0 = .ok (.iload_n 1, 1) := by decide +kernel
theorem dX12_isOwl_1 : decode cX12_isOwl 1 = .ok (.iconst 0, 1) := by decide +kernel
theorem dX12_isOwl_2 : decode cX12_isOwl 2 = .ok (.aload_n 0, 1) := by decide +kernel
theorem dX12_isOwl_3 : decode cX12_isOwl 3 = .ok (.getfield 33, 3) := by decide +kernel
theorem dX12_isOwl_6 : decode cX12_isOwl 6 = .ok (.iconst 1, 1) := by decide +kernel
theorem dX12_isOwl_7 : decode cX12_isOwl 7 = .ok (.iaload, 1) := by decide +kernel
theorem dX12_isOwl_8 : decode cX12_isOwl 8 = .ok (.iconst 1, 1) := by decide +kernel
theorem dX12_isOwl_9 : decode cX12_isOwl 9 = .ok (.isub, 1) := by decide +kernel
theorem dX12_isOwl_10 : decode cX12_isOwl 10 = .ok (.invokestatic 223, 3) := by decide +kernel
theorem dX12_isOwl_13 : decode cX12_isOwl 13 = .ok (.ireturn, 1) := by decide +kernel
theorem dX12_isSound_0 : decode cX12_isSound 0 = .ok (.iload_n 1, 1) := by decide +kernel
theorem dX12_isSound_1 : decode cX12_isSound 1 = .ok (.iconst 0, 1) := by decide +kernel
theorem dX12_isSound_2 : decode cX12_isSound 2 = .ok (.aload_n 0, 1) := by decide +kernel
theorem dX12_isSound_3 : decode cX12_isSound 3 = .ok (.getfield 33, 3) := by decide +kernel
theorem dX12_isSound_6 : decode cX12_isSound 6 = .ok (.iconst 2, 1) := by decide +kernel
theorem dX12_isSound_7 : decode cX12_isSound 7 = .ok (.iaload, 1) := by decide +kernel
theorem dX12_isSound_8 : decode cX12_isSound 8 = .ok (.iconst 1, 1) := by decide +kernel
theorem dX12_isSound_9 : decode cX12_isSound 9 = .ok (.isub, 1) := by decide +kernel
theorem dX12_isSound_10 : decode cX12_isSound 10 = .ok (.invokestatic 223, 3) := by decide +kernel
theorem dX12_isSound_13 : decode cX12_isSound 13 = .ok (.ireturn, 1) := by decide +kernel
theorem dX12_isCell_0 : decode cX12_isCell 0 = .ok (.iload_n 1, 1) := by decide +kernel
theorem dX12_isCell_1 : decode cX12_isCell 1 = .ok (.iconst 0, 1) := by decide +kernel
theorem dX12_isCell_2 : decode cX12_isCell 2 = .ok (.aload_n 0, 1) := by decide +kernel
theorem dX12_isCell_3 : decode cX12_isCell 3 = .ok (.getfield 33, 3) := by decide +kernel
theorem dX12_isCell_6 : decode cX12_isCell 6 = .ok (.iconst 3, 1) := by decide +kernel
theorem dX12_isCell_7 : decode cX12_isCell 7 = .ok (.iaload, 1) := by decide +kernel
theorem dX12_isCell_8 : decode cX12_isCell 8 = .ok (.iconst 1, 1) := by decide +kernel
theorem dX12_isCell_9 : decode cX12_isCell 9 = .ok (.isub, 1) := by decide +kernel
theorem dX12_isCell_10 : decode cX12_isCell 10 = .ok (.invokestatic 223, 3) := by decide +kernel
theorem dX12_isCell_13 : decode cX12_isCell 13 = .ok (.ifCond .eq 23, 3) := by decide +kernel
theorem dX12_isCell_16 : decode cX12_isCell 16 = .ok (.iload_n 2, 1) := by decide +kernel
theorem dX12_isCell_17 : decode cX12_isCell 17 = .ok (.iconst 0, 1) := by decide +kernel
theorem dX12_isCell_18 : decode cX12_isCell 18 = .ok (.aload_n 0, 1) := by decide +kernel
theorem dX12_isCell_19 : decode cX12_isCell 19 = .ok (.getfield 33, 3) := by decide +kernel
theorem dX12_isCell_22 : decode cX12_isCell 22 = .ok (.iconst 4, 1) := by decide +kernel
theorem dX12_isCell_23 : decode cX12_isCell 23 = .ok (.iaload, 1) := by decide +kernel
theorem dX12_isCell_24 : decode cX12_isCell 24 = .ok (.iconst 1, 1) := by decide +kernel
theorem dX12_isCell_25 : decode cX12_isCell 25 = .ok (.isub, 1) := by decide +kernel
theorem dX12_isCell_26 : decode cX12_isCell 26 = .ok (.invokestatic 223, 3) := by decide +kernel
theorem dX12_isCell_29 : decode cX12_isCell 29 = .ok (.ifCond .eq 7, 3) := by decide +kernel
theorem dX12_isCell_32 : decode cX12_isCell 32 = .ok (.iconst 1, 1) := by decide +kernel
theorem dX12_isCell_33 : decode cX12_isCell 33 = .ok (.goto 4, 3) := by decide +kernel
theorem dX12_isCell_36 : decode cX12_isCell 36 = .ok (.iconst 0, 1) := by decide +kernel
theorem dX12_isCell_37 : decode cX12_isCell 37 = .ok (.ireturn, 1) := by decide +kernel
theorem dX12_isHour_0 : decode cX12_isHour 0 = .ok (.iload_n 1, 1) := by decide +kernel
theorem dX12_isHour_1 : decode cX12_isHour 1 = .ok (.iload_n 2, 1) := by decide +kernel
theorem dX12_isHour_2 : decode cX12_isHour 2 = .ok (.if_icmp .gt 12, 3) := by decide +kernel
theorem dX12_isHour_5 : decode cX12_isHour 5 = .ok (.iload_n 0, 1) := by decide +kernel
theorem dX12_isHour_6 : decode cX12_isHour 6 = .ok (.iload_n 1, 1) := by decide +kernel
theorem dX12_isHour_7 : decode cX12_isHour 7 = .ok (.iload_n 2, 1) := by decide +kernel
theorem dX12_isHour_8 : decode cX12_isHour 8 = .ok (.invokestatic 223, 3) := by decide +kernel
theorem dX12_isHour_11 : decode cX12_isHour 11 = .ok (.goto 18, 3) := by decide +kernel
theorem dX12_isHour_14 : decode cX12_isHour 14 = .ok (.iload_n 0, 1) := by decide +kernel
theorem dX12_isHour_15 : decode cX12_isHour 15 = .ok (.iload_n 1, 1) := by decide +kernel
theorem dX12_isHour_16 : decode cX12_isHour 16 = .ok (.if_icmp .ge 8, 3) := by decide +kernel
theorem dX12_isHour_19 : decode cX12_isHour 19 = .ok (.iload_n 0, 1) := by decide +kernel
theorem dX12_isHour_20 : decode cX12_isHour 20 = .ok (.iload_n 2, 1) := by decide +kernel
theorem dX12_isHour_21 : decode cX12_isHour 21 = .ok (.if_icmp .gt 7, 3) := by decide +kernel
theorem dX12_isHour_24 : decode cX12_isHour 24 = .ok (.iconst 1, 1) := by decide +kernel
theorem dX12_isHour_25 : decode cX12_isHour 25 = .ok (.goto 4, 3) := by decide +kernel
theorem dX12_isHour_28 : decode cX12_isHour 28 = .ok (.iconst 0, 1) := by decide +kernel
theorem dX12_isHour_29 : decode cX12_isHour 29 = .ok (.ireturn, 1) := by decide +kernel
theorem dX12_isShut_0 : decode cX12_isShut 0 = .ok (.aload_n 0, 1) := by decide +kernel
theorem dX12_isShut_1 : decode cX12_isShut 1 = .ok (.getfield 33, 3) := by decide +kernel
theorem dX12_isShut_4 : decode cX12_isShut 4 = .ok (.bipush 97, 2) := by decide +kernel
theorem dX12_isShut_6 : decode cX12_isShut 6 = .ok (.iaload, 1) := by decide +kernel
theorem dX12_isShut_7 : decode cX12_isShut 7 = .ok (.bipush 24, 2) := by decide +kernel
theorem dX12_isShut_9 : decode cX12_isShut 9 = .ok (.irem, 1) := by decide +kernel
theorem dX12_isShut_10 : decode cX12_isShut 10 = .ok (.aload_n 0, 1) := by decide +kernel
theorem dX12_isShut_11 : decode cX12_isShut 11 = .ok (.getfield 33, 3) := by decide +kernel
theorem dX12_isShut_14 : decode cX12_isShut 14 = .ok (.iconst 5, 1) := by decide +kernel
theorem dX12_isShut_15 : decode cX12_isShut 15 = .ok (.iaload, 1) := by decide +kernel
theorem dX12_isShut_16 : decode cX12_isShut 16 = .ok (.aload_n 0, 1) := by decide +kernel
theorem dX12_isShut_17 : decode cX12_isShut 17 = .ok (.getfield 33, 3) := by decide +kernel
theorem dX12_isShut_20 : decode cX12_isShut 20 = .ok (.bipush 6, 2) := by decide +kernel
theorem dX12_isShut_22 : decode cX12_isShut 22 = .ok (.iaload, 1) := by decide +kernel
theorem dX12_isShut_23 : decode cX12_isShut 23 = .ok (.invokestatic 310, 3) := by decide +kernel
theorem dX12_isShut_26 : decode cX12_isShut 26 = .ok (.ireturn, 1) := by decide +kernel
theorem dX12_isOn_0 : decode cX12_isOn 0 = .ok (.iload_n 1, 1) := by decide +kernel
theorem dX12_isOn_1 : decode cX12_isOn 1 = .ok (.aload_n 0, 1) := by decide +kernel
theorem dX12_isOn_2 : decode cX12_isOn 2 = .ok (.getfield 33, 3) := by decide +kernel
theorem dX12_isOn_5 : decode cX12_isOn 5 = .ok (.iconst 2, 1) := by decide +kernel
theorem dX12_isOn_6 : decode cX12_isOn 6 = .ok (.iaload, 1) := by decide +kernel
theorem dX12_isOn_7 : decode cX12_isOn 7 = .ok (.if_icmp .ne 19, 3) := by decide +kernel
theorem dX12_isOn_10 : decode cX12_isOn 10 = .ok (.aload_n 0, 1) := by decide +kernel
theorem dX12_isOn_11 : decode cX12_isOn 11 = .ok (.getfield 33, 3) := by decide +kernel
theorem dX12_isOn_14 : decode cX12_isOn 14 = .ok (.bipush 100, 2) := by decide +kernel
theorem dX12_isOn_16 : decode cX12_isOn 16 = .ok (.iaload, 1) := by decide +kernel
theorem dX12_isOn_17 : decode cX12_isOn 17 = .ok (.ifCond .le 7, 3) := by decide +kernel
theorem dX12_isOn_20 : decode cX12_isOn 20 = .ok (.iconst 1, 1) := by decide +kernel
theorem dX12_isOn_21 : decode cX12_isOn 21 = .ok (.goto 4, 3) := by decide +kernel
theorem dX12_isOn_24 : decode cX12_isOn 24 = .ok (.iconst 0, 1) := by decide +kernel
theorem dX12_isOn_25 : decode cX12_isOn 25 = .ok (.ireturn, 1) := by decide +kernel
theorem dX12_isOn_26 : decode cX12_isOn 26 = .ok (.aload_n 0, 1) := by decide +kernel
theorem dX12_isOn_27 : decode cX12_isOn 27 = .ok (.getfield 33, 3) := by decide +kernel
theorem dX12_isOn_30 : decode cX12_isOn 30 = .ok (.bipush 98, 2) := by decide +kernel
theorem dX12_isOn_32 : decode cX12_isOn 32 = .ok (.iaload, 1) := by decide +kernel
theorem dX12_isOn_33 : decode cX12_isOn 33 = .ok (.iload_n 1, 1) := by decide +kernel
theorem dX12_isOn_34 : decode cX12_isOn 34 = .ok (.invokestatic 292, 3) := by decide +kernel
theorem dX12_isOn_37 : decode cX12_isOn 37 = .ok (.ifCond .ne 41, 3) := by decide +kernel
theorem dX12_isOn_40 : decode cX12_isOn 40 = .ok (.aload_n 0, 1) := by decide +kernel
theorem dX12_isOn_41 : decode cX12_isOn 41 = .ok (.getfield 33, 3) := by decide +kernel
theorem dX12_isOn_44 : decode cX12_isOn 44 = .ok (.bipush 97, 2) := by decide +kernel
theorem dX12_isOn_46 : decode cX12_isOn 46 = .ok (.iaload, 1) := by decide +kernel
theorem dX12_isOn_47 : decode cX12_isOn 47 = .ok (.bipush 24, 2) := by decide +kernel
theorem dX12_isOn_49 : decode cX12_isOn 49 = .ok (.irem, 1) := by decide +kernel
theorem dX12_isOn_50 : decode cX12_isOn 50 = .ok (.aload_n 0, 1) := by decide +kernel
theorem dX12_isOn_51 : decode cX12_isOn 51 = .ok (.getfield 33, 3) := by decide +kernel
theorem dX12_isOn_54 : decode cX12_isOn 54 = .ok (.bipush 81, 2) := by decide +kernel
theorem dX12_isOn_56 : decode cX12_isOn 56 = .ok (.iload_n 1, 1) := by decide +kernel
theorem dX12_isOn_57 : decode cX12_isOn 57 = .ok (.iadd, 1) := by decide +kernel
theorem dX12_isOn_58 : decode cX12_isOn 58 = .ok (.iaload, 1) := by decide +kernel
theorem dX12_isOn_59 : decode cX12_isOn 59 = .ok (.aload_n 0, 1) := by decide +kernel
theorem dX12_isOn_60 : decode cX12_isOn 60 = .ok (.getfield 33, 3) := by decide +kernel
theorem dX12_isOn_63 : decode cX12_isOn 63 = .ok (.bipush 89, 2) := by decide +kernel
theorem dX12_isOn_65 : decode cX12_isOn 65 = .ok (.iload_n 1, 1) := by decide +kernel
theorem dX12_isOn_66 : decode cX12_isOn 66 = .ok (.iadd, 1) := by decide +kernel
theorem dX12_isOn_67 : decode cX12_isOn 67 = .ok (.iaload, 1) := by decide +kernel
theorem dX12_isOn_68 : decode cX12_isOn 68 = .ok (.invokestatic 310, 3) := by decide +kernel
theorem dX12_isOn_71 : decode cX12_isOn 71 = .ok (.ifCond .eq 7, 3) := by decide +kernel
theorem dX12_isOn_74 : decode cX12_isOn 74 = .ok (.iconst 1, 1) := by decide +kernel
theorem dX12_isOn_75 : decode cX12_isOn 75 = .ok (.goto 4, 3) := by decide +kernel
theorem dX12_isOn_78 : decode cX12_isOn 78 = .ok (.iconst 0, 1) := by decide +kernel
theorem dX12_isOn_79 : decode cX12_isOn 79 = .ok (.ireturn, 1) := by decide +kernel
theorem dX12_xOf_0 : decode cX12_xOf 0 = .ok (.iload_n 1, 1) := by decide +kernel
theorem dX12_xOf_1 : decode cX12_xOf 1 = .ok (.aload_n 0, 1) := by decide +kernel
theorem dX12_xOf_2 : decode cX12_xOf 2 = .ok (.getfield 33, 3) := by decide +kernel
theorem dX12_xOf_5 : decode cX12_xOf 5 = .ok (.iconst 2, 1) := by decide +kernel
theorem dX12_xOf_6 : decode cX12_xOf 6 = .ok (.iaload, 1) := by decide +kernel
theorem dX12_xOf_7 : decode cX12_xOf 7 = .ok (.if_icmp .ne 13, 3) := by decide +kernel
theorem dX12_xOf_10 : decode cX12_xOf 10 = .ok (.aload_n 0, 1) := by decide +kernel
theorem dX12_xOf_11 : decode cX12_xOf 11 = .ok (.getfield 33, 3) := by decide +kernel
theorem dX12_xOf_14 : decode cX12_xOf 14 = .ok (.bipush 101, 2) := by decide +kernel
theorem dX12_xOf_16 : decode cX12_xOf 16 = .ok (.iaload, 1) := by decide +kernel
theorem dX12_xOf_17 : decode cX12_xOf 17 = .ok (.goto 12, 3) := by decide +kernel
theorem dX12_xOf_20 : decode cX12_xOf 20 = .ok (.aload_n 0, 1) := by decide +kernel
theorem dX12_xOf_21 : decode cX12_xOf 21 = .ok (.getfield 33, 3) := by decide +kernel
theorem dX12_xOf_24 : decode cX12_xOf 24 = .ok (.bipush 57, 2) := by decide +kernel
theorem dX12_xOf_26 : decode cX12_xOf 26 = .ok (.iload_n 1, 1) := by decide +kernel
theorem dX12_xOf_27 : decode cX12_xOf 27 = .ok (.iadd, 1) := by decide +kernel
theorem dX12_xOf_28 : decode cX12_xOf 28 = .ok (.iaload, 1) := by decide +kernel
theorem dX12_xOf_29 : decode cX12_xOf 29 = .ok (.ireturn, 1) := by decide +kernel
theorem dX12_yOf_0 : decode cX12_yOf 0 = .ok (.iload_n 1, 1) := by decide +kernel
theorem dX12_yOf_1 : decode cX12_yOf 1 = .ok (.aload_n 0, 1) := by decide +kernel
theorem dX12_yOf_2 : decode cX12_yOf 2 = .ok (.getfield 33, 3) := by decide +kernel
theorem dX12_yOf_5 : decode cX12_yOf 5 = .ok (.iconst 2, 1) := by decide +kernel
theorem dX12_yOf_6 : decode cX12_yOf 6 = .ok (.iaload, 1) := by decide +kernel
theorem dX12_yOf_7 : decode cX12_yOf 7 = .ok (.if_icmp .ne 13, 3) := by decide +kernel
theorem dX12_yOf_10 : decode cX12_yOf 10 = .ok (.aload_n 0, 1) := by decide +kernel
theorem dX12_yOf_11 : decode cX12_yOf 11 = .ok (.getfield 33, 3) := by decide +kernel
theorem dX12_yOf_14 : decode cX12_yOf 14 = .ok (.bipush 102, 2) := by decide +kernel
theorem dX12_yOf_16 : decode cX12_yOf 16 = .ok (.iaload, 1) := by decide +kernel
theorem dX12_yOf_17 : decode cX12_yOf 17 = .ok (.goto 12, 3) := by decide +kernel
theorem dX12_yOf_20 : decode cX12_yOf 20 = .ok (.aload_n 0, 1) := by decide +kernel
theorem dX12_yOf_21 : decode cX12_yOf 21 = .ok (.getfield 33, 3) := by decide +kernel
theorem dX12_yOf_24 : decode cX12_yOf 24 = .ok (.bipush 65, 2) := by decide +kernel
theorem dX12_yOf_26 : decode cX12_yOf 26 = .ok (.iload_n 1, 1) := by decide +kernel
theorem dX12_yOf_27 : decode cX12_yOf 27 = .ok (.iadd, 1) := by decide +kernel
theorem dX12_yOf_28 : decode cX12_yOf 28 = .ok (.iaload, 1) := by decide +kernel
theorem dX12_yOf_29 : decode cX12_yOf 29 = .ok (.ireturn, 1) := by decide +kernel
theorem dX12_farFrom_0 : decode cX12_farFrom 0 = .ok (.iload_n 2, 1) := by decide +kernel
theorem dX12_farFrom_1 : decode cX12_farFrom 1 = .ok (.aload_n 0, 1) := by decide +kernel
theorem dX12_farFrom_2 : decode cX12_farFrom 2 = .ok (.getfield 33, 3) := by decide +kernel
theorem dX12_farFrom_5 : decode cX12_farFrom 5 = .ok (.bipush 7, 2) := by decide +kernel
theorem dX12_farFrom_7 : decode cX12_farFrom 7 = .ok (.iload_n 1, 1) := by decide +kernel
theorem dX12_farFrom_8 : decode cX12_farFrom 8 = .ok (.iadd, 1) := by decide +kernel
theorem dX12_farFrom_9 : decode cX12_farFrom 9 = .ok (.iaload, 1) := by decide +kernel
theorem dX12_farFrom_10 : decode cX12_farFrom 10 = .ok (.isub, 1) := by decide +kernel
theorem dX12_farFrom_11 : decode cX12_farFrom 11 = .ok (.invokestatic 313, 3) := by decide +kernel
theorem dX12_farFrom_14 : decode cX12_farFrom 14 = .ok (.iload_n 3, 1) := by decide +kernel
theorem dX12_farFrom_15 : decode cX12_farFrom 15 = .ok (.aload_n 0, 1) := by decide +kernel
theorem dX12_farFrom_16 : decode cX12_farFrom 16 = .ok (.getfield 33, 3) := by decide +kernel
theorem dX12_farFrom_19 : decode cX12_farFrom 19 = .ok (.bipush 13, 2) := by decide +kernel
theorem dX12_farFrom_21 : decode cX12_farFrom 21 = .ok (.iload_n 1, 1) := by decide +kernel
theorem dX12_farFrom_22 : decode cX12_farFrom 22 = .ok (.iadd, 1) := by decide +kernel
theorem dX12_farFrom_23 : decode cX12_farFrom 23 = .ok (.iaload, 1) := by decide +kernel
theorem dX12_farFrom_24 : decode cX12_farFrom 24 = .ok (.isub, 1) := by decide +kernel
theorem dX12_farFrom_25 : decode cX12_farFrom 25 = .ok (.invokestatic 313, 3) := by decide +kernel
theorem dX12_farFrom_28 : decode cX12_farFrom 28 = .ok (.iadd, 1) := by decide +kernel
theorem dX12_farFrom_29 : decode cX12_farFrom 29 = .ok (.ireturn, 1) := by decide +kernel
theorem dX12_sideOf_0 : decode cX12_sideOf 0 = .ok (.iload_n 2, 1) := by decide +kernel
theorem dX12_sideOf_1 : decode cX12_sideOf 1 = .ok (.aload_n 0, 1) := by decide +kernel
theorem dX12_sideOf_2 : decode cX12_sideOf 2 = .ok (.getfield 33, 3) := by decide +kernel
theorem dX12_sideOf_5 : decode cX12_sideOf 5 = .ok (.bipush 7, 2) := by decide +kernel
theorem dX12_sideOf_7 : decode cX12_sideOf 7 = .ok (.iload_n 1, 1) := by decide +kernel
theorem dX12_sideOf_8 : decode cX12_sideOf 8 = .ok (.iadd, 1) := by decide +kernel
theorem dX12_sideOf_9 : decode cX12_sideOf 9 = .ok (.iaload, 1) := by decide +kernel
theorem dX12_sideOf_10 : decode cX12_sideOf 10 = .ok (.isub, 1) := by decide +kernel
theorem dX12_sideOf_11 : decode cX12_sideOf 11 = .ok (.istore 4, 2) := by decide +kernel
theorem dX12_sideOf_13 : decode cX12_sideOf 13 = .ok (.iload_n 3, 1) := by decide +kernel
theorem dX12_sideOf_14 : decode cX12_sideOf 14 = .ok (.aload_n 0, 1) := by decide +kernel
theorem dX12_sideOf_15 : decode cX12_sideOf 15 = .ok (.getfield 33, 3) := by decide +kernel
theorem dX12_sideOf_18 : decode cX12_sideOf 18 = .ok (.bipush 13, 2) := by decide +kernel
theorem dX12_sideOf_20 : decode cX12_sideOf 20 = .ok (.iload_n 1, 1) := by decide +kernel
theorem dX12_sideOf_21 : decode cX12_sideOf 21 = .ok (.iadd, 1) := by decide +kernel
theorem dX12_sideOf_22 : decode cX12_sideOf 22 = .ok (.iaload, 1) := by decide +kernel
theorem dX12_sideOf_23 : decode cX12_sideOf 23 = .ok (.isub, 1) := by decide +kernel
theorem dX12_sideOf_24 : decode cX12_sideOf 24 = .ok (.istore 5, 2) := by decide +kernel
theorem dX12_sideOf_26 : decode cX12_sideOf 26 = .ok (.iload 4, 2) := by decide +kernel
theorem dX12_sideOf_28 : decode cX12_sideOf 28 = .ok (.ifCond .ne 10, 3) := by decide +kernel
theorem dX12_sideOf_31 : decode cX12_sideOf 31 = .ok (.iload 5, 2) := by decide +kernel
theorem dX12_sideOf_33 : decode cX12_sideOf 33 = .ok (.ifCond .ne 5, 3) := by decide +kernel
theorem dX12_sideOf_36 : decode cX12_sideOf 36 = .ok (.iconst 4, 1) := by decide +kernel
theorem dX12_sideOf_37 : decode cX12_sideOf 37 = .ok (.ireturn, 1) := by decide +kernel
theorem dX12_sideOf_38 : decode cX12_sideOf 38 = .ok (.iload 4, 2) := by decide +kernel
theorem dX12_sideOf_40 : decode cX12_sideOf 40 = .ok (.invokestatic 313, 3) := by decide +kernel
theorem dX12_sideOf_43 : decode cX12_sideOf 43 = .ok (.iload 5, 2) := by decide +kernel
theorem dX12_sideOf_45 : decode cX12_sideOf 45 = .ok (.invokestatic 313, 3) := by decide +kernel
theorem dX12_sideOf_48 : decode cX12_sideOf 48 = .ok (.if_icmp .lt 14, 3) := by decide +kernel
theorem dX12_sideOf_51 : decode cX12_sideOf 51 = .ok (.iload 4, 2) := by decide +kernel
theorem dX12_sideOf_53 : decode cX12_sideOf 53 = .ok (.ifCond .le 7, 3) := by decide +kernel
theorem dX12_sideOf_56 : decode cX12_sideOf 56 = .ok (.iconst 0, 1) := by decide +kernel
theorem dX12_sideOf_57 : decode cX12_sideOf 57 = .ok (.goto 4, 3) := by decide +kernel
theorem dX12_sideOf_60 : decode cX12_sideOf 60 = .ok (.iconst 2, 1) := by decide +kernel
theorem dX12_sideOf_61 : decode cX12_sideOf 61 = .ok (.ireturn, 1) := by decide +kernel
theorem dX12_sideOf_62 : decode cX12_sideOf 62 = .ok (.iload 5, 2) := by decide +kernel
theorem dX12_sideOf_64 : decode cX12_sideOf 64 = .ok (.ifCond .le 7, 3) := by decide +kernel
theorem dX12_sideOf_67 : decode cX12_sideOf 67 = .ok (.iconst 1, 1) := by decide +kernel
theorem dX12_sideOf_68 : decode cX12_sideOf 68 = .ok (.goto 4, 3) := by decide +kernel
theorem dX12_sideOf_71 : decode cX12_sideOf 71 = .ok (.iconst 3, 1) := by decide +kernel
theorem dX12_sideOf_72 : decode cX12_sideOf 72 = .ok (.ireturn, 1) := by decide +kernel
theorem dX12_loudAt_0 : decode cX12_loudAt 0 = .ok (.iload_n 1, 1) := by decide +kernel
theorem dX12_loudAt_1 : decode cX12_loudAt 1 = .ok (.aload_n 0, 1) := by decide +kernel
theorem dX12_loudAt_2 : decode cX12_loudAt 2 = .ok (.getfield 33, 3) := by decide +kernel
theorem dX12_loudAt_5 : decode cX12_loudAt 5 = .ok (.iconst 2, 1) := by decide +kernel
theorem dX12_loudAt_6 : decode cX12_loudAt 6 = .ok (.iaload, 1) := by decide +kernel
theorem dX12_loudAt_7 : decode cX12_loudAt 7 = .ok (.if_icmp .ne 13, 3) := by decide +kernel
theorem dX12_loudAt_10 : decode cX12_loudAt 10 = .ok (.aload_n 0, 1) := by decide +kernel
theorem dX12_loudAt_11 : decode cX12_loudAt 11 = .ok (.getfield 33, 3) := by decide +kernel
theorem dX12_loudAt_14 : decode cX12_loudAt 14 = .ok (.bipush 100, 2) := by decide +kernel
theorem dX12_loudAt_16 : decode cX12_loudAt 16 = .ok (.iaload, 1) := by decide +kernel
theorem dX12_loudAt_17 : decode cX12_loudAt 17 = .ok (.goto 12, 3) := by decide +kernel
theorem dX12_loudAt_20 : decode cX12_loudAt 20 = .ok (.aload_n 0, 1) := by decide +kernel
theorem dX12_loudAt_21 : decode cX12_loudAt 21 = .ok (.getfield 33, 3) := by decide +kernel
theorem dX12_loudAt_24 : decode cX12_loudAt 24 = .ok (.bipush 73, 2) := by decide +kernel
theorem dX12_loudAt_26 : decode cX12_loudAt 26 = .ok (.iload_n 1, 1) := by decide +kernel
theorem dX12_loudAt_27 : decode cX12_loudAt 27 = .ok (.iadd, 1) := by decide +kernel
theorem dX12_loudAt_28 : decode cX12_loudAt 28 = .ok (.iaload, 1) := by decide +kernel
theorem dX12_loudAt_29 : decode cX12_loudAt 29 = .ok (.aload_n 0, 1) := by decide +kernel
theorem dX12_loudAt_30 : decode cX12_loudAt 30 = .ok (.iload_n 2, 1) := by decide +kernel
theorem dX12_loudAt_31 : decode cX12_loudAt 31 = .ok (.aload_n 0, 1) := by decide +kernel
theorem dX12_loudAt_32 : decode cX12_loudAt 32 = .ok (.iload_n 1, 1) := by decide +kernel
theorem dX12_loudAt_33 : decode cX12_loudAt 33 = .ok (.invokevirtual 317, 3) := by decide +kernel
theorem dX12_loudAt_36 : decode cX12_loudAt 36 = .ok (.aload_n 0, 1) := by decide +kernel
theorem dX12_loudAt_37 : decode cX12_loudAt 37 = .ok (.iload_n 1, 1) := by decide +kernel
theorem dX12_loudAt_38 : decode cX12_loudAt 38 = .ok (.invokevirtual 320, 3) := by decide +kernel
theorem dX12_loudAt_41 : decode cX12_loudAt 41 = .ok (.invokevirtual 323, 3) := by decide +kernel
theorem dX12_loudAt_44 : decode cX12_loudAt 44 = .ok (.isub, 1) := by decide +kernel
theorem dX12_loudAt_45 : decode cX12_loudAt 45 = .ok (.ireturn, 1) := by decide +kernel
theorem dX12_kindOf_0 : decode cX12_kindOf 0 = .ok (.iload_n 1, 1) := by decide +kernel
theorem dX12_kindOf_1 : decode cX12_kindOf 1 = .ok (.aload_n 0, 1) := by decide +kernel
theorem dX12_kindOf_2 : decode cX12_kindOf 2 = .ok (.getfield 33, 3) := by decide +kernel
theorem dX12_kindOf_5 : decode cX12_kindOf 5 = .ok (.iconst 2, 1) := by decide +kernel
theorem dX12_kindOf_6 : decode cX12_kindOf 6 = .ok (.iaload, 1) := by decide +kernel
theorem dX12_kindOf_7 : decode cX12_kindOf 7 = .ok (.if_icmp .ne 7, 3) := by decide +kernel
theorem dX12_kindOf_10 : decode cX12_kindOf 10 = .ok (.iconst 1, 1) := by decide +kernel
theorem dX12_kindOf_11 : decode cX12_kindOf 11 = .ok (.goto 12, 3) := by decide +kernel
theorem dX12_kindOf_14 : decode cX12_kindOf 14 = .ok (.aload_n 0, 1) := by decide +kernel
theorem dX12_kindOf_15 : decode cX12_kindOf 15 = .ok (.getfield 33, 3) := by decide +kernel
theorem dX12_kindOf_18 : decode cX12_kindOf 18 = .ok (.bipush 49, 2) := by decide +kernel
theorem dX12_kindOf_20 : decode cX12_kindOf 20 = .ok (.iload_n 1, 1) := by decide +kernel
theorem dX12_kindOf_21 : decode cX12_kindOf 21 = .ok (.iadd, 1) := by decide +kernel
theorem dX12_kindOf_22 : decode cX12_kindOf 22 = .ok (.iaload, 1) := by decide +kernel
theorem dX12_kindOf_23 : decode cX12_kindOf 23 = .ok (.ireturn, 1) := by decide +kernel
theorem dX12_isHeard_0 : decode cX12_isHeard 0 = .ok (.aload_n 0, 1) := by decide +kernel
theorem dX12_isHeard_1 : decode cX12_isHeard 1 = .ok (.getfield 33, 3) := by decide +kernel
theorem dX12_isHeard_4 : decode cX12_isHeard 4 = .ok (.bipush 43, 2) := by decide +kernel
theorem dX12_isHeard_6 : decode cX12_isHeard 6 = .ok (.iload_n 1, 1) := by decide +kernel
theorem dX12_isHeard_7 : decode cX12_isHeard 7 = .ok (.iadd, 1) := by decide +kernel
theorem dX12_isHeard_8 : decode cX12_isHeard 8 = .ok (.iaload, 1) := by decide +kernel
theorem dX12_isHeard_9 : decode cX12_isHeard 9 = .ok (.iload_n 3, 1) := by decide +kernel
theorem dX12_isHeard_10 : decode cX12_isHeard 10 = .ok (.invokestatic 292, 3) := by decide +kernel
theorem dX12_isHeard_13 : decode cX12_isHeard 13 = .ok (.ifCond .ne 54, 3) := by decide +kernel
theorem dX12_isHeard_16 : decode cX12_isHeard 16 = .ok (.aload_n 0, 1) := by decide +kernel
theorem dX12_isHeard_17 : decode cX12_isHeard 17 = .ok (.iload_n 2, 1) := by decide +kernel
theorem dX12_isHeard_18 : decode cX12_isHeard 18 = .ok (.iload 4, 2) := by decide +kernel
theorem dX12_isHeard_20 : decode cX12_isHeard 20 = .ok (.iload 5, 2) := by decide +kernel
theorem dX12_isHeard_22 : decode cX12_isHeard 22 = .ok (.invokevirtual 327, 3) := by decide +kernel
theorem dX12_isHeard_25 : decode cX12_isHeard 25 = .ok (.aload_n 0, 1) := by decide +kernel
theorem dX12_isHeard_26 : decode cX12_isHeard 26 = .ok (.getfield 33, 3) := by decide +kernel
theorem dX12_isHeard_29 : decode cX12_isHeard 29 = .ok (.bipush 37, 2) := by decide +kernel
theorem dX12_isHeard_31 : decode cX12_isHeard 31 = .ok (.iload_n 1, 1) := by decide +kernel
theorem dX12_isHeard_32 : decode cX12_isHeard 32 = .ok (.iadd, 1) := by decide +kernel
theorem dX12_isHeard_33 : decode cX12_isHeard 33 = .ok (.iaload, 1) := by decide +kernel
theorem dX12_isHeard_34 : decode cX12_isHeard 34 = .ok (.iconst 1, 1) := by decide +kernel
theorem dX12_isHeard_35 : decode cX12_isHeard 35 = .ok (.isub, 1) := by decide +kernel
theorem dX12_isHeard_36 : decode cX12_isHeard 36 = .ok (.if_icmp .eq 31, 3) := by decide +kernel
theorem dX12_isHeard_39 : decode cX12_isHeard 39 = .ok (.iload 6, 2) := by decide +kernel
theorem dX12_isHeard_41 : decode cX12_isHeard 41 = .ok (.aload_n 0, 1) := by decide +kernel
theorem dX12_isHeard_42 : decode cX12_isHeard 42 = .ok (.iload_n 2, 1) := by decide +kernel
theorem dX12_isHeard_43 : decode cX12_isHeard 43 = .ok (.iload 4, 2) := by decide +kernel
theorem dX12_isHeard_45 : decode cX12_isHeard 45 = .ok (.iload 5, 2) := by decide +kernel
theorem dX12_isHeard_47 : decode cX12_isHeard 47 = .ok (.invokevirtual 323, 3) := by decide +kernel
theorem dX12_isHeard_50 : decode cX12_isHeard 50 = .ok (.isub, 1) := by decide +kernel
theorem dX12_isHeard_51 : decode cX12_isHeard 51 = .ok (.aload_n 0, 1) := by decide +kernel
theorem dX12_isHeard_52 : decode cX12_isHeard 52 = .ok (.getfield 33, 3) := by decide +kernel
theorem dX12_isHeard_55 : decode cX12_isHeard 55 = .ok (.bipush 31, 2) := by decide +kernel
theorem dX12_isHeard_57 : decode cX12_isHeard 57 = .ok (.iload_n 1, 1) := by decide +kernel
theorem dX12_isHeard_58 : decode cX12_isHeard 58 = .ok (.iadd, 1) := by decide +kernel
theorem dX12_isHeard_59 : decode cX12_isHeard 59 = .ok (.iaload, 1) := by decide +kernel
theorem dX12_isHeard_60 : decode cX12_isHeard 60 = .ok (.if_icmp .lt 7, 3) := by decide +kernel
theorem dX12_isHeard_63 : decode cX12_isHeard 63 = .ok (.iconst 1, 1) := by decide +kernel
theorem dX12_isHeard_64 : decode cX12_isHeard 64 = .ok (.goto 4, 3) := by decide +kernel
theorem dX12_isHeard_67 : decode cX12_isHeard 67 = .ok (.iconst 0, 1) := by decide +kernel
theorem dX12_isHeard_68 : decode cX12_isHeard 68 = .ok (.ireturn, 1) := by decide +kernel
theorem dX12_hearsOne_0 : decode cX12_hearsOne 0 = .ok (.aload_n 0, 1) := by decide +kernel
theorem dX12_hearsOne_1 : decode cX12_hearsOne 1 = .ok (.iload_n 1, 1) := by decide +kernel
theorem dX12_hearsOne_2 : decode cX12_hearsOne 2 = .ok (.iload_n 2, 1) := by decide +kernel
theorem dX12_hearsOne_3 : decode cX12_hearsOne 3 = .ok (.aload_n 0, 1) := by decide +kernel
theorem dX12_hearsOne_4 : decode cX12_hearsOne 4 = .ok (.iload_n 3, 1) := by decide +kernel
theorem dX12_hearsOne_5 : decode cX12_hearsOne 5 = .ok (.invokevirtual 330, 3) := by decide +kernel
theorem dX12_hearsOne_8 : decode cX12_hearsOne 8 = .ok (.aload_n 0, 1) := by decide +kernel
theorem dX12_hearsOne_9 : decode cX12_hearsOne 9 = .ok (.iload_n 3, 1) := by decide +kernel
theorem dX12_hearsOne_10 : decode cX12_hearsOne 10 = .ok (.invokevirtual 317, 3) := by decide +kernel
theorem dX12_hearsOne_13 : decode cX12_hearsOne 13 = .ok (.aload_n 0, 1) := by decide +kernel
theorem dX12_hearsOne_14 : decode cX12_hearsOne 14 = .ok (.iload_n 3, 1) := by decide +kernel
theorem dX12_hearsOne_15 : decode cX12_hearsOne 15 = .ok (.invokevirtual 320, 3) := by decide +kernel
theorem dX12_hearsOne_18 : decode cX12_hearsOne 18 = .ok (.iload_n 3, 1) := by decide +kernel
theorem dX12_hearsOne_19 : decode cX12_hearsOne 19 = .ok (.aload_n 0, 1) := by decide +kernel
theorem dX12_hearsOne_20 : decode cX12_hearsOne 20 = .ok (.getfield 33, 3) := by decide +kernel
theorem dX12_hearsOne_23 : decode cX12_hearsOne 23 = .ok (.iconst 2, 1) := by decide +kernel
theorem dX12_hearsOne_24 : decode cX12_hearsOne 24 = .ok (.iaload, 1) := by decide +kernel
theorem dX12_hearsOne_25 : decode cX12_hearsOne 25 = .ok (.if_icmp .ne 13, 3) := by decide +kernel
theorem dX12_hearsOne_28 : decode cX12_hearsOne 28 = .ok (.aload_n 0, 1) := by decide +kernel
theorem dX12_hearsOne_29 : decode cX12_hearsOne 29 = .ok (.getfield 33, 3) := by decide +kernel
theorem dX12_hearsOne_32 : decode cX12_hearsOne 32 = .ok (.bipush 100, 2) := by decide +kernel
theorem dX12_hearsOne_34 : decode cX12_hearsOne 34 = .ok (.iaload, 1) := by decide +kernel
theorem dX12_hearsOne_35 : decode cX12_hearsOne 35 = .ok (.goto 12, 3) := by decide +kernel
theorem dX12_hearsOne_38 : decode cX12_hearsOne 38 = .ok (.aload_n 0, 1) := by decide +kernel
theorem dX12_hearsOne_39 : decode cX12_hearsOne 39 = .ok (.getfield 33, 3) := by decide +kernel
theorem dX12_hearsOne_42 : decode cX12_hearsOne 42 = .ok (.bipush 73, 2) := by decide +kernel
theorem dX12_hearsOne_44 : decode cX12_hearsOne 44 = .ok (.iload_n 3, 1) := by decide +kernel
theorem dX12_hearsOne_45 : decode cX12_hearsOne 45 = .ok (.iadd, 1) := by decide +kernel
theorem dX12_hearsOne_46 : decode cX12_hearsOne 46 = .ok (.iaload, 1) := by decide +kernel
theorem dX12_hearsOne_47 : decode cX12_hearsOne 47 = .ok (.invokevirtual 333, 3) := by decide +kernel
theorem dX12_hearsOne_50 : decode cX12_hearsOne 50 = .ok (.ireturn, 1) := by decide +kernel
theorem dX12_heardBy_0 : decode cX12_heardBy 0 = .ok (.iconst 0, 1) := by decide +kernel
theorem dX12_heardBy_1 : decode cX12_heardBy 1 = .ok (.istore_n 3, 1) := by decide +kernel
theorem dX12_heardBy_2 : decode cX12_heardBy 2 = .ok (.iconst 0, 1) := by decide +kernel
theorem dX12_heardBy_3 : decode cX12_heardBy 3 = .ok (.istore 4, 2) := by decide +kernel
theorem dX12_heardBy_5 : decode cX12_heardBy 5 = .ok (.iload 4, 2) := by decide +kernel
theorem dX12_heardBy_7 : decode cX12_heardBy 7 = .ok (.aload_n 0, 1) := by decide +kernel
theorem dX12_heardBy_8 : decode cX12_heardBy 8 = .ok (.getfield 33, 3) := by decide +kernel
theorem dX12_heardBy_11 : decode cX12_heardBy 11 = .ok (.iconst 2, 1) := by decide +kernel
theorem dX12_heardBy_12 : decode cX12_heardBy 12 = .ok (.iaload, 1) := by decide +kernel
theorem dX12_heardBy_13 : decode cX12_heardBy 13 = .ok (.if_icmp .gt 47, 3) := by decide +kernel
theorem dX12_heardBy_16 : decode cX12_heardBy 16 = .ok (.aload_n 0, 1) := by decide +kernel
theorem dX12_heardBy_17 : decode cX12_heardBy 17 = .ok (.invokevirtual 337, 3) := by decide +kernel
theorem dX12_heardBy_20 : decode cX12_heardBy 20 = .ok (.ifCond .ne 40, 3) := by decide +kernel
theorem dX12_heardBy_23 : decode cX12_heardBy 23 = .ok (.iload_n 3, 1) := by decide +kernel
theorem dX12_heardBy_24 : decode cX12_heardBy 24 = .ok (.aload_n 0, 1) := by decide +kernel
theorem dX12_heardBy_25 : decode cX12_heardBy 25 = .ok (.iload 4, 2) := by decide +kernel
theorem dX12_heardBy_27 : decode cX12_heardBy 27 = .ok (.invokevirtual 340, 3) := by decide +kernel
theorem dX12_heardBy_30 : decode cX12_heardBy 30 = .ok (.ifCond .eq 21, 3) := by decide +kernel
theorem dX12_heardBy_33 : decode cX12_heardBy 33 = .ok (.aload_n 0, 1) := by decide +kernel
theorem dX12_heardBy_34 : decode cX12_heardBy 34 = .ok (.iload_n 1, 1) := by decide +kernel
theorem dX12_heardBy_35 : decode cX12_heardBy 35 = .ok (.iload_n 2, 1) := by decide +kernel
theorem dX12_heardBy_36 : decode cX12_heardBy 36 = .ok (.iload 4, 2) := by decide +kernel
theorem dX12_heardBy_38 : decode cX12_heardBy 38 = .ok (.invokevirtual 343, 3) := by decide +kernel
theorem dX12_heardBy_41 : decode cX12_heardBy 41 = .ok (.ifCond .eq 10, 3) := by decide +kernel
theorem dX12_heardBy_44 : decode cX12_heardBy 44 = .ok (.iconst 1, 1) := by decide +kernel
theorem dX12_heardBy_45 : decode cX12_heardBy 45 = .ok (.iload 4, 2) := by decide +kernel
theorem dX12_heardBy_47 : decode cX12_heardBy 47 = .ok (.ishl, 1) := by decide +kernel
theorem dX12_heardBy_48 : decode cX12_heardBy 48 = .ok (.goto 4, 3) := by decide +kernel
theorem dX12_heardBy_51 : decode cX12_heardBy 51 = .ok (.iconst 0, 1) := by decide +kernel
theorem dX12_heardBy_52 : decode cX12_heardBy 52 = .ok (.ior, 1) := by decide +kernel
theorem dX12_heardBy_53 : decode cX12_heardBy 53 = .ok (.istore_n 3, 1) := by decide +kernel
theorem dX12_heardBy_54 : decode cX12_heardBy 54 = .ok (.iinc 4 1, 3) := by decide +kernel
theorem dX12_heardBy_57 : decode cX12_heardBy 57 = .ok (.goto (-52), 3) := by decide +kernel
theorem dX12_heardBy_60 : decode cX12_heardBy 60 = .ok (.iload_n 3, 1) := by decide +kernel
theorem dX12_heardBy_61 : decode cX12_heardBy 61 = .ok (.ireturn, 1) := by decide +kernel
theorem dX12_seenBy_0 : decode cX12_seenBy 0 = .ok (.aload_n 0, 1) := by decide +kernel
theorem dX12_seenBy_1 : decode cX12_seenBy 1 = .ok (.iload_n 1, 1) := by decide +kernel
theorem dX12_seenBy_2 : decode cX12_seenBy 2 = .ok (.iload_n 2, 1) := by decide +kernel
theorem dX12_seenBy_3 : decode cX12_seenBy 3 = .ok (.invokevirtual 346, 3) := by decide +kernel
theorem dX12_seenBy_6 : decode cX12_seenBy 6 = .ok (.istore_n 3, 1) := by decide +kernel
theorem dX12_seenBy_7 : decode cX12_seenBy 7 = .ok (.iconst (-1), 1) := by decide +kernel
theorem dX12_seenBy_8 : decode cX12_seenBy 8 = .ok (.istore 4, 2) := by decide +kernel
theorem dX12_seenBy_10 : decode cX12_seenBy 10 = .ok (.iconst 0, 1) := by decide +kernel
theorem dX12_seenBy_11 : decode cX12_seenBy 11 = .ok (.istore 5, 2) := by decide +kernel
theorem dX12_seenBy_13 : decode cX12_seenBy 13 = .ok (.iload 5, 2) := by decide +kernel
theorem dX12_seenBy_15 : decode cX12_seenBy 15 = .ok (.aload_n 0, 1) := by decide +kernel
theorem dX12_seenBy_16 : decode cX12_seenBy 16 = .ok (.getfield 33, 3) := by decide +kernel
theorem dX12_seenBy_19 : decode cX12_seenBy 19 = .ok (.iconst 2, 1) := by decide +kernel
theorem dX12_seenBy_20 : decode cX12_seenBy 20 = .ok (.iaload, 1) := by decide +kernel
theorem dX12_seenBy_21 : decode cX12_seenBy 21 = .ok (.if_icmp .gt 44, 3) := by decide +kernel
theorem dX12_seenBy_24 : decode cX12_seenBy 24 = .ok (.iload_n 3, 1) := by decide +kernel
theorem dX12_seenBy_25 : decode cX12_seenBy 25 = .ok (.iload 5, 2) := by decide +kernel
theorem dX12_seenBy_27 : decode cX12_seenBy 27 = .ok (.invokestatic 292, 3) := by decide +kernel
theorem dX12_seenBy_30 : decode cX12_seenBy 30 = .ok (.ifCond .eq 29, 3) := by decide +kernel
theorem dX12_seenBy_33 : decode cX12_seenBy 33 = .ok (.iload 4, 2) := by decide +kernel
theorem dX12_seenBy_35 : decode cX12_seenBy 35 = .ok (.ifCond .lt 20, 3) := by decide +kernel
theorem dX12_seenBy_38 : decode cX12_seenBy 38 = .ok (.aload_n 0, 1) := by decide +kernel
theorem dX12_seenBy_39 : decode cX12_seenBy 39 = .ok (.iload 5, 2) := by decide +kernel
theorem dX12_seenBy_41 : decode cX12_seenBy 41 = .ok (.iload_n 2, 1) := by decide +kernel
theorem dX12_seenBy_42 : decode cX12_seenBy 42 = .ok (.invokevirtual 349, 3) := by decide +kernel
theorem dX12_seenBy_45 : decode cX12_seenBy 45 = .ok (.aload_n 0, 1) := by decide +kernel
theorem dX12_seenBy_46 : decode cX12_seenBy 46 = .ok (.iload 4, 2) := by decide +kernel
theorem dX12_seenBy_48 : decode cX12_seenBy 48 = .ok (.iload_n 2, 1) := by decide +kernel
theorem dX12_seenBy_49 : decode cX12_seenBy 49 = .ok (.invokevirtual 349, 3) := by decide +kernel
theorem dX12_seenBy_52 : decode cX12_seenBy 52 = .ok (.if_icmp .le 7, 3) := by decide +kernel
theorem dX12_seenBy_55 : decode cX12_seenBy 55 = .ok (.iload 5, 2) := by decide +kernel
theorem dX12_seenBy_57 : decode cX12_seenBy 57 = .ok (.istore 4, 2) := by decide +kernel
theorem dX12_seenBy_59 : decode cX12_seenBy 59 = .ok (.iinc 5 1, 3) := by decide +kernel
theorem dX12_seenBy_62 : decode cX12_seenBy 62 = .ok (.goto (-49), 3) := by decide +kernel
theorem dX12_seenBy_65 : decode cX12_seenBy 65 = .ok (.iload 4, 2) := by decide +kernel
theorem dX12_seenBy_67 : decode cX12_seenBy 67 = .ok (.ireturn, 1) := by decide +kernel
theorem dX12_lookBy_0 : decode cX12_lookBy 0 = .ok (.aload_n 0, 1) := by decide +kernel
theorem dX12_lookBy_1 : decode cX12_lookBy 1 = .ok (.iload_n 1, 1) := by decide +kernel
theorem dX12_lookBy_2 : decode cX12_lookBy 2 = .ok (.iload_n 2, 1) := by decide +kernel
theorem dX12_lookBy_3 : decode cX12_lookBy 3 = .ok (.invokevirtual 352, 3) := by decide +kernel
theorem dX12_lookBy_6 : decode cX12_lookBy 6 = .ok (.istore_n 3, 1) := by decide +kernel
theorem dX12_lookBy_7 : decode cX12_lookBy 7 = .ok (.iload_n 3, 1) := by decide +kernel
theorem dX12_lookBy_8 : decode cX12_lookBy 8 = .ok (.ifCond .ge 7, 3) := by decide +kernel
theorem dX12_lookBy_11 : decode cX12_lookBy 11 = .ok (.iconst (-1), 1) := by decide +kernel
theorem dX12_lookBy_12 : decode cX12_lookBy 12 = .ok (.goto 18, 3) := by decide +kernel
theorem dX12_lookBy_15 : decode cX12_lookBy 15 = .ok (.aload_n 0, 1) := by decide +kernel
theorem dX12_lookBy_16 : decode cX12_lookBy 16 = .ok (.iload_n 2, 1) := by decide +kernel
theorem dX12_lookBy_17 : decode cX12_lookBy 17 = .ok (.aload_n 0, 1) := by decide +kernel
theorem dX12_lookBy_18 : decode cX12_lookBy 18 = .ok (.iload_n 3, 1) := by decide +kernel
theorem dX12_lookBy_19 : decode cX12_lookBy 19 = .ok (.invokevirtual 317, 3) := by decide +kernel
theorem dX12_lookBy_22 : decode cX12_lookBy 22 = .ok (.aload_n 0, 1) := by decide +kernel
theorem dX12_lookBy_23 : decode cX12_lookBy 23 = .ok (.iload_n 3, 1) := by decide +kernel
theorem dX12_lookBy_24 : decode cX12_lookBy 24 = .ok (.invokevirtual 320, 3) := by decide +kernel
theorem dX12_lookBy_27 : decode cX12_lookBy 27 = .ok (.invokevirtual 327, 3) := by decide +kernel
theorem dX12_lookBy_30 : decode cX12_lookBy 30 = .ok (.ireturn, 1) := by decide +kernel
theorem dX12_owlBy_0 : decode cX12_owlBy 0 = .ok (.iconst 0, 1) := by decide +kernel
theorem dX12_owlBy_1 : decode cX12_owlBy 1 = .ok (.istore_n 2, 1) := by decide +kernel
theorem dX12_owlBy_2 : decode cX12_owlBy 2 = .ok (.iload_n 2, 1) := by decide +kernel
theorem dX12_owlBy_3 : decode cX12_owlBy 3 = .ok (.aload_n 0, 1) := by decide +kernel
theorem dX12_owlBy_4 : decode cX12_owlBy 4 = .ok (.getfield 33, 3) := by decide +kernel
theorem dX12_owlBy_7 : decode cX12_owlBy 7 = .ok (.iconst 1, 1) := by decide +kernel
theorem dX12_owlBy_8 : decode cX12_owlBy 8 = .ok (.iaload, 1) := by decide +kernel
theorem dX12_owlBy_9 : decode cX12_owlBy 9 = .ok (.if_icmp .ge 24, 3) := by decide +kernel
theorem dX12_owlBy_12 : decode cX12_owlBy 12 = .ok (.aload_n 0, 1) := by decide +kernel
theorem dX12_owlBy_13 : decode cX12_owlBy 13 = .ok (.getfield 33, 3) := by decide +kernel
theorem dX12_owlBy_16 : decode cX12_owlBy 16 = .ok (.bipush 103, 2) := by decide +kernel
theorem dX12_owlBy_18 : decode cX12_owlBy 18 = .ok (.iload_n 2, 1) := by decide +kernel
theorem dX12_owlBy_19 : decode cX12_owlBy 19 = .ok (.iadd, 1) := by decide +kernel
theorem dX12_owlBy_20 : decode cX12_owlBy 20 = .ok (.iaload, 1) := by decide +kernel
theorem dX12_owlBy_21 : decode cX12_owlBy 21 = .ok (.iload_n 1, 1) := by decide +kernel
theorem dX12_owlBy_22 : decode cX12_owlBy 22 = .ok (.if_icmp .ne 5, 3) := by decide +kernel
theorem dX12_owlBy_25 : decode cX12_owlBy 25 = .ok (.iload_n 2, 1) := by decide +kernel
theorem dX12_owlBy_26 : decode cX12_owlBy 26 = .ok (.ireturn, 1) := by decide +kernel
theorem dX12_owlBy_27 : decode cX12_owlBy 27 = .ok (.iinc 2 1, 3) := by decide +kernel
theorem dX12_owlBy_30 : decode cX12_owlBy 30 = .ok (.goto (-28), 3) := by decide +kernel
theorem dX12_owlBy_33 : decode cX12_owlBy 33 = .ok (.iconst (-1), 1) := by decide +kernel
theorem dX12_owlBy_34 : decode cX12_owlBy 34 = .ok (.ireturn, 1) := by decide +kernel
theorem dX12_bed_0 : decode cX12_bed 0 = .ok (.aload_n 0, 1) := by decide +kernel
theorem dX12_bed_1 : decode cX12_bed 1 = .ok (.aload_n 0, 1) := by decide +kernel
theorem dX12_bed_2 : decode cX12_bed 2 = .ok (.iload_n 1, 1) := by decide +kernel
theorem dX12_bed_3 : decode cX12_bed 3 = .ok (.invokevirtual 355, 3) := by decide +kernel
theorem dX12_bed_6 : decode cX12_bed 6 = .ok (.ifCond .eq 12, 3) := by decide +kernel
theorem dX12_bed_9 : decode cX12_bed 9 = .ok (.iload_n 2, 1) := by decide +kernel
theorem dX12_bed_10 : decode cX12_bed 10 = .ok (.iconst 0, 1) := by decide +kernel
theorem dX12_bed_11 : decode cX12_bed 11 = .ok (.iconst 5, 1) := by decide +kernel
theorem dX12_bed_12 : decode cX12_bed 12 = .ok (.invokestatic 223, 3) := by decide +kernel
theorem dX12_bed_15 : decode cX12_bed 15 = .ok (.ifCond .ne 7, 3) := by decide +kernel
theorem dX12_bed_18 : decode cX12_bed 18 = .ok (.iconst 1, 1) := by decide +kernel
theorem dX12_bed_19 : decode cX12_bed 19 = .ok (.goto 4, 3) := by decide +kernel
theorem dX12_bed_22 : decode cX12_bed 22 = .ok (.iconst 0, 1) := by decide +kernel
theorem dX12_bed_23 : decode cX12_bed 23 = .ok (.invokevirtual 358, 3) := by decide +kernel
theorem dX12_bed_26 : decode cX12_bed 26 = .ok (.ifCond .eq 5, 3) := by decide +kernel
theorem dX12_bed_29 : decode cX12_bed 29 = .ok (.iconst 0, 1) := by decide +kernel
theorem dX12_bed_30 : decode cX12_bed 30 = .ok (.ireturn, 1) := by decide +kernel
theorem dX12_bed_31 : decode cX12_bed 31 = .ok (.iload_n 2, 1) := by decide +kernel
theorem dX12_bed_32 : decode cX12_bed 32 = .ok (.tableswitch 84 0 4 #[36, 46, 56, 62, 74], 36) := by decide +kernel
theorem dX12_bed_68 : decode cX12_bed 68 = .ok (.aload_n 0, 1) := by decide +kernel
theorem dX12_bed_69 : decode cX12_bed 69 = .ok (.getfield 33, 3) := by decide +kernel
theorem dX12_bed_72 : decode cX12_bed 72 = .ok (.bipush 7, 2) := by decide +kernel
theorem dX12_bed_74 : decode cX12_bed 74 = .ok (.iload_n 1, 1) := by decide +kernel
theorem dX12_bed_75 : decode cX12_bed 75 = .ok (.iadd, 1) := by decide +kernel
theorem dX12_bed_76 : decode cX12_bed 76 = .ok (.iaload, 1) := by decide +kernel
theorem dX12_bed_77 : decode cX12_bed 77 = .ok (.ireturn, 1) := by decide +kernel
theorem dX12_bed_78 : decode cX12_bed 78 = .ok (.aload_n 0, 1) := by decide +kernel
theorem dX12_bed_79 : decode cX12_bed 79 = .ok (.getfield 33, 3) := by decide +kernel
theorem dX12_bed_82 : decode cX12_bed 82 = .ok (.bipush 13, 2) := by decide +kernel
theorem dX12_bed_84 : decode cX12_bed 84 = .ok (.iload_n 1, 1) := by decide +kernel
theorem dX12_bed_85 : decode cX12_bed 85 = .ok (.iadd, 1) := by decide +kernel
theorem dX12_bed_86 : decode cX12_bed 86 = .ok (.iaload, 1) := by decide +kernel
theorem dX12_bed_87 : decode cX12_bed 87 = .ok (.ireturn, 1) := by decide +kernel
theorem dX12_bed_88 : decode cX12_bed 88 = .ok (.aload_n 0, 1) := by decide +kernel
theorem dX12_bed_89 : decode cX12_bed 89 = .ok (.iload_n 1, 1) := by decide +kernel
theorem dX12_bed_90 : decode cX12_bed 90 = .ok (.invokevirtual 362, 3) := by decide +kernel
theorem dX12_bed_93 : decode cX12_bed 93 = .ok (.ireturn, 1) := by decide +kernel
theorem dX12_bed_94 : decode cX12_bed 94 = .ok (.aload_n 0, 1) := by decide +kernel
theorem dX12_bed_95 : decode cX12_bed 95 = .ok (.getfield 33, 3) := by decide +kernel
theorem dX12_bed_98 : decode cX12_bed 98 = .ok (.bipush 19, 2) := by decide +kernel
theorem dX12_bed_100 : decode cX12_bed 100 = .ok (.iload_n 1, 1) := by decide +kernel
theorem dX12_bed_101 : decode cX12_bed 101 = .ok (.iadd, 1) := by decide +kernel
theorem dX12_bed_102 : decode cX12_bed 102 = .ok (.iaload, 1) := by decide +kernel
theorem dX12_bed_103 : decode cX12_bed 103 = .ok (.iconst 1, 1) := by decide +kernel
theorem dX12_bed_104 : decode cX12_bed 104 = .ok (.isub, 1) := by decide +kernel
theorem dX12_bed_105 : decode cX12_bed 105 = .ok (.ireturn, 1) := by decide +kernel
theorem dX12_bed_106 : decode cX12_bed 106 = .ok (.aload_n 0, 1) := by decide +kernel
theorem dX12_bed_107 : decode cX12_bed 107 = .ok (.getfield 33, 3) := by decide +kernel
theorem dX12_bed_110 : decode cX12_bed 110 = .ok (.bipush 109, 2) := by decide +kernel
theorem dX12_bed_112 : decode cX12_bed 112 = .ok (.iload_n 1, 1) := by decide +kernel
theorem dX12_bed_113 : decode cX12_bed 113 = .ok (.iadd, 1) := by decide +kernel
theorem dX12_bed_114 : decode cX12_bed 114 = .ok (.iaload, 1) := by decide +kernel
theorem dX12_bed_115 : decode cX12_bed 115 = .ok (.ireturn, 1) := by decide +kernel
theorem dX12_bed_116 : decode cX12_bed 116 = .ok (.aload_n 0, 1) := by decide +kernel
theorem dX12_bed_117 : decode cX12_bed 117 = .ok (.getfield 33, 3) := by decide +kernel
theorem dX12_bed_120 : decode cX12_bed 120 = .ok (.bipush 115, 2) := by decide +kernel
theorem dX12_bed_122 : decode cX12_bed 122 = .ok (.iload_n 1, 1) := by decide +kernel
theorem dX12_bed_123 : decode cX12_bed 123 = .ok (.iadd, 1) := by decide +kernel
theorem dX12_bed_124 : decode cX12_bed 124 = .ok (.iaload, 1) := by decide +kernel
theorem dX12_bed_125 : decode cX12_bed 125 = .ok (.ireturn, 1) := by decide +kernel
theorem dX12_owl_0 : decode cX12_owl 0 = .ok (.aload_n 0, 1) := by decide +kernel
theorem dX12_owl_1 : decode cX12_owl 1 = .ok (.aload_n 0, 1) := by decide +kernel
theorem dX12_owl_2 : decode cX12_owl 2 = .ok (.iload_n 1, 1) := by decide +kernel
theorem dX12_owl_3 : decode cX12_owl 3 = .ok (.invokevirtual 365, 3) := by decide +kernel
theorem dX12_owl_6 : decode cX12_owl 6 = .ok (.ifCond .eq 12, 3) := by decide +kernel
theorem dX12_owl_9 : decode cX12_owl 9 = .ok (.iload_n 2, 1) := by decide +kernel
theorem dX12_owl_10 : decode cX12_owl 10 = .ok (.iconst 0, 1) := by decide +kernel
theorem dX12_owl_11 : decode cX12_owl 11 = .ok (.iconst 5, 1) := by decide +kernel
theorem dX12_owl_12 : decode cX12_owl 12 = .ok (.invokestatic 223, 3) := by decide +kernel
theorem dX12_owl_15 : decode cX12_owl 15 = .ok (.ifCond .ne 7, 3) := by decide +kernel
theorem dX12_owl_18 : decode cX12_owl 18 = .ok (.iconst 1, 1) := by decide +kernel
theorem dX12_owl_19 : decode cX12_owl 19 = .ok (.goto 4, 3) := by decide +kernel
theorem dX12_owl_22 : decode cX12_owl 22 = .ok (.iconst 0, 1) := by decide +kernel
theorem dX12_owl_23 : decode cX12_owl 23 = .ok (.invokevirtual 358, 3) := by decide +kernel
theorem dX12_owl_26 : decode cX12_owl 26 = .ok (.ifCond .eq 5, 3) := by decide +kernel
theorem dX12_owl_29 : decode cX12_owl 29 = .ok (.iconst 0, 1) := by decide +kernel
theorem dX12_owl_30 : decode cX12_owl 30 = .ok (.ireturn, 1) := by decide +kernel
theorem dX12_owl_31 : decode cX12_owl 31 = .ok (.iload_n 2, 1) := by decide +kernel
theorem dX12_owl_32 : decode cX12_owl 32 = .ok (.tableswitch 93 0 4 #[36, 46, 56, 68, 78], 36) := by decide +kernel
theorem dX12_owl_68 : decode cX12_owl 68 = .ok (.aload_n 0, 1) := by decide +kernel
theorem dX12_owl_69 : decode cX12_owl 69 = .ok (.getfield 33, 3) := by decide +kernel
theorem dX12_owl_72 : decode cX12_owl 72 = .ok (.bipush 103, 2) := by decide +kernel
theorem dX12_owl_74 : decode cX12_owl 74 = .ok (.iload_n 1, 1) := by decide +kernel
theorem dX12_owl_75 : decode cX12_owl 75 = .ok (.iadd, 1) := by decide +kernel
theorem dX12_owl_76 : decode cX12_owl 76 = .ok (.iaload, 1) := by decide +kernel
theorem dX12_owl_77 : decode cX12_owl 77 = .ok (.ireturn, 1) := by decide +kernel
theorem dX12_owl_78 : decode cX12_owl 78 = .ok (.aload_n 0, 1) := by decide +kernel
theorem dX12_owl_79 : decode cX12_owl 79 = .ok (.getfield 33, 3) := by decide +kernel
theorem dX12_owl_82 : decode cX12_owl 82 = .ok (.bipush 31, 2) := by decide +kernel
theorem dX12_owl_84 : decode cX12_owl 84 = .ok (.iload_n 1, 1) := by decide +kernel
theorem dX12_owl_85 : decode cX12_owl 85 = .ok (.iadd, 1) := by decide +kernel
theorem dX12_owl_86 : decode cX12_owl 86 = .ok (.iaload, 1) := by decide +kernel
theorem dX12_owl_87 : decode cX12_owl 87 = .ok (.ireturn, 1) := by decide +kernel
theorem dX12_owl_88 : decode cX12_owl 88 = .ok (.aload_n 0, 1) := by decide +kernel
theorem dX12_owl_89 : decode cX12_owl 89 = .ok (.getfield 33, 3) := by decide +kernel
theorem dX12_owl_92 : decode cX12_owl 92 = .ok (.bipush 37, 2) := by decide +kernel
theorem dX12_owl_94 : decode cX12_owl 94 = .ok (.iload_n 1, 1) := by decide +kernel
theorem dX12_owl_95 : decode cX12_owl 95 = .ok (.iadd, 1) := by decide +kernel
theorem dX12_owl_96 : decode cX12_owl 96 = .ok (.iaload, 1) := by decide +kernel
theorem dX12_owl_97 : decode cX12_owl 97 = .ok (.iconst 1, 1) := by decide +kernel
theorem dX12_owl_98 : decode cX12_owl 98 = .ok (.isub, 1) := by decide +kernel
theorem dX12_owl_99 : decode cX12_owl 99 = .ok (.ireturn, 1) := by decide +kernel
theorem dX12_owl_100 : decode cX12_owl 100 = .ok (.aload_n 0, 1) := by decide +kernel
theorem dX12_owl_101 : decode cX12_owl 101 = .ok (.getfield 33, 3) := by decide +kernel
theorem dX12_owl_104 : decode cX12_owl 104 = .ok (.bipush 43, 2) := by decide +kernel
theorem dX12_owl_106 : decode cX12_owl 106 = .ok (.iload_n 1, 1) := by decide +kernel
theorem dX12_owl_107 : decode cX12_owl 107 = .ok (.iadd, 1) := by decide +kernel
theorem dX12_owl_108 : decode cX12_owl 108 = .ok (.iaload, 1) := by decide +kernel
theorem dX12_owl_109 : decode cX12_owl 109 = .ok (.ireturn, 1) := by decide +kernel
theorem dX12_owl_110 : decode cX12_owl 110 = .ok (.aload_n 0, 1) := by decide +kernel
theorem dX12_owl_111 : decode cX12_owl 111 = .ok (.iload_n 1, 1) := by decide +kernel
theorem dX12_owl_112 : decode cX12_owl 112 = .ok (.aload_n 0, 1) := by decide +kernel
theorem dX12_owl_113 : decode cX12_owl 113 = .ok (.getfield 33, 3) := by decide +kernel
theorem dX12_owl_116 : decode cX12_owl 116 = .ok (.bipush 103, 2) := by decide +kernel
theorem dX12_owl_118 : decode cX12_owl 118 = .ok (.iload_n 1, 1) := by decide +kernel
theorem dX12_owl_119 : decode cX12_owl 119 = .ok (.iadd, 1) := by decide +kernel
theorem dX12_owl_120 : decode cX12_owl 120 = .ok (.iaload, 1) := by decide +kernel
theorem dX12_owl_121 : decode cX12_owl 121 = .ok (.invokevirtual 368, 3) := by decide +kernel
theorem dX12_owl_124 : decode cX12_owl 124 = .ok (.ireturn, 1) := by decide +kernel
theorem dX12_owl_125 : decode cX12_owl 125 = .ok (.aload_n 0, 1) := by decide +kernel
theorem dX12_owl_126 : decode cX12_owl 126 = .ok (.iload_n 1, 1) := by decide +kernel
theorem dX12_owl_127 : decode cX12_owl 127 = .ok (.aload_n 0, 1) := by decide +kernel
theorem dX12_owl_128 : decode cX12_owl 128 = .ok (.getfield 33, 3) := by decide +kernel
theorem dX12_owl_131 : decode cX12_owl 131 = .ok (.bipush 103, 2) := by decide +kernel
theorem dX12_owl_133 : decode cX12_owl 133 = .ok (.iload_n 1, 1) := by decide +kernel
theorem dX12_owl_134 : decode cX12_owl 134 = .ok (.iadd, 1) := by decide +kernel
theorem dX12_owl_135 : decode cX12_owl 135 = .ok (.iaload, 1) := by decide +kernel
theorem dX12_owl_136 : decode cX12_owl 136 = .ok (.invokevirtual 352, 3) := by decide +kernel
theorem dX12_owl_139 : decode cX12_owl 139 = .ok (.ireturn, 1) := by decide +kernel
theorem dX12_sound_0 : decode cX12_sound 0 = .ok (.aload_n 0, 1) := by decide +kernel
theorem dX12_sound_1 : decode cX12_sound 1 = .ok (.iconst 0, 1) := by decide +kernel
theorem dX12_sound_2 : decode cX12_sound 2 = .ok (.putfield 1, 3) := by decide +kernel
theorem dX12_sound_5 : decode cX12_sound 5 = .ok (.aload_n 0, 1) := by decide +kernel
theorem dX12_sound_6 : decode cX12_sound 6 = .ok (.iload_n 1, 1) := by decide +kernel
theorem dX12_sound_7 : decode cX12_sound 7 = .ok (.invokevirtual 371, 3) := by decide +kernel
theorem dX12_sound_10 : decode cX12_sound 10 = .ok (.ifCond .ne 5, 3) := by decide +kernel
theorem dX12_sound_13 : decode cX12_sound 13 = .ok (.iconst (-1), 1) := by decide +kernel
theorem dX12_sound_14 : decode cX12_sound 14 = .ok (.ireturn, 1) := by decide +kernel
theorem dX12_sound_15 : decode cX12_sound 15 = .ok (.iload_n 2, 1) := by decide +kernel
theorem dX12_sound_16 : decode cX12_sound 16 = .ok (.tableswitch 106 0 5 #[40, 50, 60, 70, 80, 94], 40) := by decide +kernel
theorem dX12_sound_56 : decode cX12_sound 56 = .ok (.aload_n 0, 1) := by decide +kernel
theorem dX12_sound_57 : decode cX12_sound 57 = .ok (.getfield 33, 3) := by decide +kernel
theorem dX12_sound_60 : decode cX12_sound 60 = .ok (.bipush 49, 2) := by decide +kernel
theorem dX12_sound_62 : decode cX12_sound 62 = .ok (.iload_n 1, 1) := by decide +kernel
theorem dX12_sound_63 : decode cX12_sound 63 = .ok (.iadd, 1) := by decide +kernel
theorem dX12_sound_64 : decode cX12_sound 64 = .ok (.iaload, 1) := by decide +kernel
theorem dX12_sound_65 : decode cX12_sound 65 = .ok (.ireturn, 1) := by decide +kernel
theorem dX12_sound_66 : decode cX12_sound 66 = .ok (.aload_n 0, 1) := by decide +kernel
theorem dX12_sound_67 : decode cX12_sound 67 = .ok (.getfield 33, 3) := by decide +kernel
theorem dX12_sound_70 : decode cX12_sound 70 = .ok (.bipush 57, 2) := by decide +kernel
theorem dX12_sound_72 : decode cX12_sound 72 = .ok (.iload_n 1, 1) := by decide +kernel
theorem dX12_sound_73 : decode cX12_sound 73 = .ok (.iadd, 1) := by decide +kernel
theorem dX12_sound_74 : decode cX12_sound 74 = .ok (.iaload, 1) := by decide +kernel
theorem dX12_sound_75 : decode cX12_sound 75 = .ok (.ireturn, 1) := by decide +kernel
theorem dX12_sound_76 : decode cX12_sound 76 = .ok (.aload_n 0, 1) := by decide +kernel
theorem dX12_sound_77 : decode cX12_sound 77 = .ok (.getfield 33, 3) := by decide +kernel
theorem dX12_sound_80 : decode cX12_sound 80 = .ok (.bipush 65, 2) := by decide +kernel
theorem dX12_sound_82 : decode cX12_sound 82 = .ok (.iload_n 1, 1) := by decide +kernel
theorem dX12_sound_83 : decode cX12_sound 83 = .ok (.iadd, 1) := by decide +kernel
theorem dX12_sound_84 : decode cX12_sound 84 = .ok (.iaload, 1) := by decide +kernel
theorem dX12_sound_85 : decode cX12_sound 85 = .ok (.ireturn, 1) := by decide +kernel
theorem dX12_sound_86 : decode cX12_sound 86 = .ok (.aload_n 0, 1) := by decide +kernel
theorem dX12_sound_87 : decode cX12_sound 87 = .ok (.getfield 33, 3) := by decide +kernel
theorem dX12_sound_90 : decode cX12_sound 90 = .ok (.bipush 73, 2) := by decide +kernel
theorem dX12_sound_92 : decode cX12_sound 92 = .ok (.iload_n 1, 1) := by decide +kernel
theorem dX12_sound_93 : decode cX12_sound 93 = .ok (.iadd, 1) := by decide +kernel
theorem dX12_sound_94 : decode cX12_sound 94 = .ok (.iaload, 1) := by decide +kernel
theorem dX12_sound_95 : decode cX12_sound 95 = .ok (.ireturn, 1) := by decide +kernel
theorem dX12_sound_96 : decode cX12_sound 96 = .ok (.aload_n 0, 1) := by decide +kernel
theorem dX12_sound_97 : decode cX12_sound 97 = .ok (.iload_n 1, 1) := by decide +kernel
theorem dX12_sound_98 : decode cX12_sound 98 = .ok (.invokevirtual 340, 3) := by decide +kernel
theorem dX12_sound_101 : decode cX12_sound 101 = .ok (.ifCond .eq 7, 3) := by decide +kernel
theorem dX12_sound_104 : decode cX12_sound 104 = .ok (.iconst 1, 1) := by decide +kernel
theorem dX12_sound_105 : decode cX12_sound 105 = .ok (.goto 4, 3) := by decide +kernel
theorem dX12_sound_108 : decode cX12_sound 108 = .ok (.iconst 0, 1) := by decide +kernel
theorem dX12_sound_109 : decode cX12_sound 109 = .ok (.ireturn, 1) := by decide +kernel
theorem dX12_sound_110 : decode cX12_sound 110 = .ok (.aload_n 0, 1) := by decide +kernel
theorem dX12_sound_111 : decode cX12_sound 111 = .ok (.getfield 33, 3) := by decide +kernel
theorem dX12_sound_114 : decode cX12_sound 114 = .ok (.bipush 98, 2) := by decide +kernel
theorem dX12_sound_116 : decode cX12_sound 116 = .ok (.iaload, 1) := by decide +kernel
theorem dX12_sound_117 : decode cX12_sound 117 = .ok (.iload_n 1, 1) := by decide +kernel
theorem dX12_sound_118 : decode cX12_sound 118 = .ok (.ishr, 1) := by decide +kernel
theorem dX12_sound_119 : decode cX12_sound 119 = .ok (.iconst 1, 1) := by decide +kernel
theorem dX12_sound_120 : decode cX12_sound 120 = .ok (.iand, 1) := by decide +kernel
theorem dX12_sound_121 : decode cX12_sound 121 = .ok (.ireturn, 1) := by decide +kernel
theorem dX12_sound_122 : decode cX12_sound 122 = .ok (.iconst (-1), 1) := by decide +kernel
theorem dX12_sound_123 : decode cX12_sound 123 = .ok (.ireturn, 1) := by decide +kernel
theorem dX12_sumOf_0 : decode cX12_sumOf 0 = .ok (.iconst 0, 1) := by decide +kernel
theorem dX12_sumOf_1 : decode cX12_sumOf 1 = .ok (.istore_n 2, 1) := by decide +kernel
theorem dX12_sumOf_2 : decode cX12_sumOf 2 = .ok (.iconst 0, 1) := by decide +kernel
theorem dX12_sumOf_3 : decode cX12_sumOf 3 = .ok (.istore_n 3, 1) := by decide +kernel
theorem dX12_sumOf_4 : decode cX12_sumOf 4 = .ok (.iload_n 3, 1) := by decide +kernel
theorem dX12_sumOf_5 : decode cX12_sumOf 5 = .ok (.aload_n 0, 1) := by decide +kernel
theorem dX12_sumOf_6 : decode cX12_sumOf 6 = .ok (.getfield 33, 3) := by decide +kernel
theorem dX12_sumOf_9 : decode cX12_sumOf 9 = .ok (.iconst 0, 1) := by decide +kernel
theorem dX12_sumOf_10 : decode cX12_sumOf 10 = .ok (.iaload, 1) := by decide +kernel
theorem dX12_sumOf_11 : decode cX12_sumOf 11 = .ok (.if_icmp .ge 20, 3) := by decide +kernel
theorem dX12_sumOf_14 : decode cX12_sumOf 14 = .ok (.iload_n 2, 1) := by decide +kernel
theorem dX12_sumOf_15 : decode cX12_sumOf 15 = .ok (.aload_n 0, 1) := by decide +kernel
theorem dX12_sumOf_16 : decode cX12_sumOf 16 = .ok (.getfield 33, 3) := by decide +kernel
theorem dX12_sumOf_19 : decode cX12_sumOf 19 = .ok (.iload_n 1, 1) := by decide +kernel
theorem dX12_sumOf_20 : decode cX12_sumOf 20 = .ok (.iload_n 3, 1) := by decide +kernel
theorem dX12_sumOf_21 : decode cX12_sumOf 21 = .ok (.iadd, 1) := by decide +kernel
theorem dX12_sumOf_22 : decode cX12_sumOf 22 = .ok (.iaload, 1) := by decide +kernel
theorem dX12_sumOf_23 : decode cX12_sumOf 23 = .ok (.iadd, 1) := by decide +kernel
theorem dX12_sumOf_24 : decode cX12_sumOf 24 = .ok (.istore_n 2, 1) := by decide +kernel
theorem dX12_sumOf_25 : decode cX12_sumOf 25 = .ok (.iinc 3 1, 3) := by decide +kernel
theorem dX12_sumOf_28 : decode cX12_sumOf 28 = .ok (.goto (-24), 3) := by decide +kernel
theorem dX12_sumOf_31 : decode cX12_sumOf 31 = .ok (.iload_n 2, 1) := by decide +kernel
theorem dX12_sumOf_32 : decode cX12_sumOf 32 = .ok (.ireturn, 1) := by decide +kernel
theorem dX12_lookers_0 : decode cX12_lookers 0 = .ok (.iconst 0, 1) := by decide +kernel
theorem dX12_lookers_1 : decode cX12_lookers 1 = .ok (.istore_n 1, 1) := by decide +kernel
theorem dX12_lookers_2 : decode cX12_lookers 2 = .ok (.iconst 0, 1) := by decide +kernel
theorem dX12_lookers_3 : decode cX12_lookers 3 = .ok (.istore_n 2, 1) := by decide +kernel
theorem dX12_lookers_4 : decode cX12_lookers 4 = .ok (.iload_n 2, 1) := by decide +kernel
theorem dX12_lookers_5 : decode cX12_lookers 5 = .ok (.aload_n 0, 1) := by decide +kernel
theorem dX12_lookers_6 : decode cX12_lookers 6 = .ok (.getfield 33, 3) := by decide +kernel
theorem dX12_lookers_9 : decode cX12_lookers 9 = .ok (.iconst 1, 1) := by decide +kernel
theorem dX12_lookers_10 : decode cX12_lookers 10 = .ok (.iaload, 1) := by decide +kernel
theorem dX12_lookers_11 : decode cX12_lookers 11 = .ok (.if_icmp .ge 36, 3) := by decide +kernel
theorem dX12_lookers_14 : decode cX12_lookers 14 = .ok (.iload_n 1, 1) := by decide +kernel
theorem dX12_lookers_15 : decode cX12_lookers 15 = .ok (.aload_n 0, 1) := by decide +kernel
theorem dX12_lookers_16 : decode cX12_lookers 16 = .ok (.iload_n 2, 1) := by decide +kernel
theorem dX12_lookers_17 : decode cX12_lookers 17 = .ok (.aload_n 0, 1) := by decide +kernel
theorem dX12_lookers_18 : decode cX12_lookers 18 = .ok (.getfield 33, 3) := by decide +kernel
theorem dX12_lookers_21 : decode cX12_lookers 21 = .ok (.bipush 103, 2) := by decide +kernel
theorem dX12_lookers_23 : decode cX12_lookers 23 = .ok (.iload_n 2, 1) := by decide +kernel
theorem dX12_lookers_24 : decode cX12_lookers 24 = .ok (.iadd, 1) := by decide +kernel
theorem dX12_lookers_25 : decode cX12_lookers 25 = .ok (.iaload, 1) := by decide +kernel
theorem dX12_lookers_26 : decode cX12_lookers 26 = .ok (.invokevirtual 352, 3) := by decide +kernel
theorem dX12_lookers_29 : decode cX12_lookers 29 = .ok (.ifCond .lt 9, 3) := by decide +kernel
theorem dX12_lookers_32 : decode cX12_lookers 32 = .ok (.iconst 1, 1) := by decide +kernel
theorem dX12_lookers_33 : decode cX12_lookers 33 = .ok (.iload_n 2, 1) := by decide +kernel
theorem dX12_lookers_34 : decode cX12_lookers 34 = .ok (.ishl, 1) := by decide +kernel
theorem dX12_lookers_35 : decode cX12_lookers 35 = .ok (.goto 4, 3) := by decide +kernel
theorem dX12_lookers_38 : decode cX12_lookers 38 = .ok (.iconst 0, 1) := by decide +kernel
theorem dX12_lookers_39 : decode cX12_lookers 39 = .ok (.ior, 1) := by decide +kernel
theorem dX12_lookers_40 : decode cX12_lookers 40 = .ok (.istore_n 1, 1) := by decide +kernel
theorem dX12_lookers_41 : decode cX12_lookers 41 = .ok (.iinc 2 1, 3) := by decide +kernel
theorem dX12_lookers_44 : decode cX12_lookers 44 = .ok (.goto (-40), 3) := by decide +kernel
theorem dX12_lookers_47 : decode cX12_lookers 47 = .ok (.iload_n 1, 1) := by decide +kernel
theorem dX12_lookers_48 : decode cX12_lookers 48 = .ok (.ireturn, 1) := by decide +kernel
theorem dX12_now_0 : decode cX12_now 0 = .ok (.aload_n 0, 1) := by decide +kernel
theorem dX12_now_1 : decode cX12_now 1 = .ok (.iconst 0, 1) := by decide +kernel
theorem dX12_now_2 : decode cX12_now 2 = .ok (.putfield 1, 3) := by decide +kernel
theorem dX12_now_5 : decode cX12_now 5 = .ok (.iconst 0, 1) := by decide +kernel
theorem dX12_now_6 : decode cX12_now 6 = .ok (.istore_n 2, 1) := by decide +kernel
theorem dX12_now_7 : decode cX12_now 7 = .ok (.iconst 0, 1) := by decide +kernel
theorem dX12_now_8 : decode cX12_now 8 = .ok (.istore_n 3, 1) := by decide +kernel
theorem dX12_now_9 : decode cX12_now 9 = .ok (.iload_n 3, 1) := by decide +kernel
theorem dX12_now_10 : decode cX12_now 10 = .ok (.aload_n 0, 1) := by decide +kernel
theorem dX12_now_11 : decode cX12_now 11 = .ok (.getfield 33, 3) := by decide +kernel
theorem dX12_now_14 : decode cX12_now 14 = .ok (.iconst 2, 1) := by decide +kernel
theorem dX12_now_15 : decode cX12_now 15 = .ok (.iaload, 1) := by decide +kernel
theorem dX12_now_16 : decode cX12_now 16 = .ok (.if_icmp .gt 27, 3) := by decide +kernel
theorem dX12_now_19 : decode cX12_now 19 = .ok (.iload_n 2, 1) := by decide +kernel
theorem dX12_now_20 : decode cX12_now 20 = .ok (.aload_n 0, 1) := by decide +kernel
theorem dX12_now_21 : decode cX12_now 21 = .ok (.iload_n 3, 1) := by decide +kernel
theorem dX12_now_22 : decode cX12_now 22 = .ok (.invokevirtual 340, 3) := by decide +kernel
theorem dX12_now_25 : decode cX12_now 25 = .ok (.ifCond .eq 9, 3) := by decide +kernel
theorem dX12_now_28 : decode cX12_now 28 = .ok (.iconst 1, 1) := by decide +kernel
theorem dX12_now_29 : decode cX12_now 29 = .ok (.iload_n 3, 1) := by decide +kernel
theorem dX12_now_30 : decode cX12_now 30 = .ok (.ishl, 1) := by decide +kernel
theorem dX12_now_31 : decode cX12_now 31 = .ok (.goto 4, 3) := by decide +kernel
theorem dX12_now_34 : decode cX12_now 34 = .ok (.iconst 0, 1) := by decide +kernel
theorem dX12_now_35 : decode cX12_now 35 = .ok (.ior, 1) := by decide +kernel
theorem dX12_now_36 : decode cX12_now 36 = .ok (.istore_n 2, 1) := by decide +kernel
theorem dX12_now_37 : decode cX12_now 37 = .ok (.iinc 3 1, 3) := by decide +kernel
theorem dX12_now_40 : decode cX12_now 40 = .ok (.goto (-31), 3) := by decide +kernel
theorem dX12_now_43 : decode cX12_now 43 = .ok (.iload_n 1, 1) := by decide +kernel
theorem dX12_now_44 : decode cX12_now 44 = .ok (.tableswitch 106 0 7 #[48, 56, 58, 66, 71, 84, 91, 98], 48) := by decide +kernel
theorem dX12_now_92 : decode cX12_now 92 = .ok (.aload_n 0, 1) := by decide +kernel
theorem dX12_now_93 : decode cX12_now 93 = .ok (.getfield 33, 3) := by decide +kernel
theorem dX12_now_96 : decode cX12_now 96 = .ok (.bipush 97, 2) := by decide +kernel
theorem dX12_now_98 : decode cX12_now 98 = .ok (.iaload, 1) := by decide +kernel
theorem dX12_now_99 : decode cX12_now 99 = .ok (.ireturn, 1) := by decide +kernel
theorem dX12_now_100 : decode cX12_now 100 = .ok (.iload_n 2, 1) := by decide +kernel
theorem dX12_now_101 : decode cX12_now 101 = .ok (.ireturn, 1) := by decide +kernel
theorem dX12_now_102 : decode cX12_now 102 = .ok (.aload_n 0, 1) := by decide +kernel
theorem dX12_now_103 : decode cX12_now 103 = .ok (.getfield 33, 3) := by decide +kernel
theorem dX12_now_106 : decode cX12_now 106 = .ok (.bipush 98, 2) := by decide +kernel
theorem dX12_now_108 : decode cX12_now 108 = .ok (.iaload, 1) := by decide +kernel
theorem dX12_now_109 : decode cX12_now 109 = .ok (.ireturn, 1) := by decide +kernel
theorem dX12_now_110 : decode cX12_now 110 = .ok (.aload_n 0, 1) := by decide +kernel
theorem dX12_now_111 : decode cX12_now 111 = .ok (.invokevirtual 374, 3) := by decide +kernel
theorem dX12_now_114 : decode cX12_now 114 = .ok (.ireturn, 1) := by decide +kernel
theorem dX12_now_115 : decode cX12_now 115 = .ok (.aload_n 0, 1) := by decide +kernel
theorem dX12_now_116 : decode cX12_now 116 = .ok (.invokevirtual 337, 3) := by decide +kernel
theorem dX12_now_119 : decode cX12_now 119 = .ok (.ifCond .eq 7, 3) := by decide +kernel
theorem dX12_now_122 : decode cX12_now 122 = .ok (.iconst 1, 1) := by decide +kernel
theorem dX12_now_123 : decode cX12_now 123 = .ok (.goto 4, 3) := by decide +kernel
theorem dX12_now_126 : decode cX12_now 126 = .ok (.iconst 0, 1) := by decide +kernel
theorem dX12_now_127 : decode cX12_now 127 = .ok (.ireturn, 1) := by decide +kernel
theorem dX12_now_128 : decode cX12_now 128 = .ok (.aload_n 0, 1) := by decide +kernel
theorem dX12_now_129 : decode cX12_now 129 = .ok (.bipush 109, 2) := by decide +kernel
theorem dX12_now_131 : decode cX12_now 131 = .ok (.invokevirtual 377, 3) := by decide +kernel
theorem dX12_now_134 : decode cX12_now 134 = .ok (.ireturn, 1) := by decide +kernel
theorem dX12_now_135 : decode cX12_now 135 = .ok (.aload_n 0, 1) := by decide +kernel
theorem dX12_now_136 : decode cX12_now 136 = .ok (.bipush 115, 2) := by decide +kernel
theorem dX12_now_138 : decode cX12_now 138 = .ok (.invokevirtual 377, 3) := by decide +kernel
theorem dX12_now_141 : decode cX12_now 141 = .ok (.ireturn, 1) := by decide +kernel
theorem dX12_now_142 : decode cX12_now 142 = .ok (.aload_n 0, 1) := by decide +kernel
theorem dX12_now_143 : decode cX12_now 143 = .ok (.getfield 33, 3) := by decide +kernel
theorem dX12_now_146 : decode cX12_now 146 = .ok (.bipush 99, 2) := by decide +kernel
theorem dX12_now_148 : decode cX12_now 148 = .ok (.iaload, 1) := by decide +kernel
theorem dX12_now_149 : decode cX12_now 149 = .ok (.ireturn, 1) := by decide +kernel
theorem dX12_now_150 : decode cX12_now 150 = .ok (.iconst (-1), 1) := by decide +kernel
theorem dX12_now_151 : decode cX12_now 151 = .ok (.ireturn, 1) := by decide +kernel
theorem dX12_whyLend_0 : decode cX12_whyLend 0 = .ok (.aload_n 0, 1) := by decide +kernel
theorem dX12_whyLend_1 : decode cX12_whyLend 1 = .ok (.getfield 33, 3) := by decide +kernel
theorem dX12_whyLend_4 : decode cX12_whyLend 4 = .ok (.bipush 103, 2) := by decide +kernel
theorem dX12_whyLend_6 : decode cX12_whyLend 6 = .ok (.iload_n 1, 1) := by decide +kernel
theorem dX12_whyLend_7 : decode cX12_whyLend 7 = .ok (.iadd, 1) := by decide +kernel
theorem dX12_whyLend_8 : decode cX12_whyLend 8 = .ok (.iaload, 1) := by decide +kernel
theorem dX12_whyLend_9 : decode cX12_whyLend 9 = .ok (.iload_n 2, 1) := by decide +kernel
theorem dX12_whyLend_10 : decode cX12_whyLend 10 = .ok (.if_icmp .ne 7, 3) := by decide +kernel
theorem dX12_whyLend_13 : decode cX12_whyLend 13 = .ok (.iconst 1, 1) := by decide +kernel
theorem dX12_whyLend_14 : decode cX12_whyLend 14 = .ok (.goto 16, 3) := by decide +kernel
theorem dX12_whyLend_17 : decode cX12_whyLend 17 = .ok (.aload_n 0, 1) := by decide +kernel
theorem dX12_whyLend_18 : decode cX12_whyLend 18 = .ok (.iload_n 2, 1) := by decide +kernel
theorem dX12_whyLend_19 : decode cX12_whyLend 19 = .ok (.invokevirtual 362, 3) := by decide +kernel
theorem dX12_whyLend_22 : decode cX12_whyLend 22 = .ok (.ifCond .lt 7, 3) := by decide +kernel
theorem dX12_whyLend_25 : decode cX12_whyLend 25 = .ok (.iconst 2, 1) := by decide +kernel
theorem dX12_whyLend_26 : decode cX12_whyLend 26 = .ok (.goto 4, 3) := by decide +kernel
theorem dX12_whyLend_29 : decode cX12_whyLend 29 = .ok (.iconst 0, 1) := by decide +kernel
theorem dX12_whyLend_30 : decode cX12_whyLend 30 = .ok (.ireturn, 1) := by decide +kernel
theorem dX12_cries_0 : decode cX12_cries 0 = .ok (.aload_n 0, 1) := by decide +kernel
theorem dX12_cries_1 : decode cX12_cries 1 = .ok (.getfield 33, 3) := by decide +kernel
theorem dX12_cries_4 : decode cX12_cries 4 = .ok (.bipush 101, 2) := by decide +kernel
theorem dX12_cries_6 : decode cX12_cries 6 = .ok (.iload_n 1, 1) := by decide +kernel
theorem dX12_cries_7 : decode cX12_cries 7 = .ok (.iastore, 1) := by decide +kernel
theorem dX12_cries_8 : decode cX12_cries 8 = .ok (.aload_n 0, 1) := by decide +kernel
theorem dX12_cries_9 : decode cX12_cries 9 = .ok (.getfield 33, 3) := by decide +kernel
theorem dX12_cries_12 : decode cX12_cries 12 = .ok (.bipush 102, 2) := by decide +kernel
theorem dX12_cries_14 : decode cX12_cries 14 = .ok (.iload_n 2, 1) := by decide +kernel
theorem dX12_cries_15 : decode cX12_cries 15 = .ok (.iastore, 1) := by decide +kernel
theorem dX12_cries_16 : decode cX12_cries 16 = .ok (.aload_n 0, 1) := by decide +kernel
theorem dX12_cries_17 : decode cX12_cries 17 = .ok (.getfield 33, 3) := by decide +kernel
theorem dX12_cries_20 : decode cX12_cries 20 = .ok (.bipush 100, 2) := by decide +kernel
theorem dX12_cries_22 : decode cX12_cries 22 = .ok (.iload_n 3, 1) := by decide +kernel
theorem dX12_cries_23 : decode cX12_cries 23 = .ok (.iastore, 1) := by decide +kernel
theorem dX12_cries_24 : decode cX12_cries 24 = .ok (.aload_n 0, 1) := by decide +kernel
theorem dX12_cries_25 : decode cX12_cries 25 = .ok (.getfield 33, 3) := by decide +kernel
theorem dX12_cries_28 : decode cX12_cries 28 = .ok (.bipush 99, 2) := by decide +kernel
theorem dX12_cries_30 : decode cX12_cries 30 = .ok (.dup2, 1) := by decide +kernel
theorem dX12_cries_31 : decode cX12_cries 31 = .ok (.iaload, 1) := by decide +kernel
theorem dX12_cries_32 : decode cX12_cries 32 = .ok (.iconst 1, 1) := by decide +kernel
theorem dX12_cries_33 : decode cX12_cries 33 = .ok (.iadd, 1) := by decide +kernel
theorem dX12_cries_34 : decode cX12_cries 34 = .ok (.iastore, 1) := by decide +kernel
theorem dX12_cries_35 : decode cX12_cries 35 = .ok (.return_, 1) := by decide +kernel
theorem dX12_hour_0 : decode cX12_hour 0 = .ok (.iconst 0, 1) := by decide +kernel
theorem dX12_hour_1 : decode cX12_hour 1 = .ok (.istore_n 1, 1) := by decide +kernel
theorem dX12_hour_2 : decode cX12_hour 2 = .ok (.iload_n 1, 1) := by decide +kernel
theorem dX12_hour_3 : decode cX12_hour 3 = .ok (.aload_n 0, 1) := by decide +kernel
theorem dX12_hour_4 : decode cX12_hour 4 = .ok (.getfield 33, 3) := by decide +kernel
theorem dX12_hour_7 : decode cX12_hour 7 = .ok (.iconst 0, 1) := by decide +kernel
theorem dX12_hour_8 : decode cX12_hour 8 = .ok (.iaload, 1) := by decide +kernel
theorem dX12_hour_9 : decode cX12_hour 9 = .ok (.if_icmp .ge 114, 3) := by decide +kernel
theorem dX12_hour_12 : decode cX12_hour 12 = .ok (.aload_n 0, 1) := by decide +kernel
theorem dX12_hour_13 : decode cX12_hour 13 = .ok (.iload_n 1, 1) := by decide +kernel
theorem dX12_hour_14 : decode cX12_hour 14 = .ok (.invokevirtual 362, 3) := by decide +kernel
theorem dX12_hour_17 : decode cX12_hour 17 = .ok (.istore_n 2, 1) := by decide +kernel
theorem dX12_hour_18 : decode cX12_hour 18 = .ok (.iload_n 2, 1) := by decide +kernel
theorem dX12_hour_19 : decode cX12_hour 19 = .ok (.ifCond .ge 7, 3) := by decide +kernel
theorem dX12_hour_22 : decode cX12_hour 22 = .ok (.iconst (-1), 1) := by decide +kernel
theorem dX12_hour_23 : decode cX12_hour 23 = .ok (.goto 9, 3) := by decide +kernel
theorem dX12_hour_26 : decode cX12_hour 26 = .ok (.aload_n 0, 1) := by decide +kernel
theorem dX12_hour_27 : decode cX12_hour 27 = .ok (.iload_n 2, 1) := by decide +kernel
theorem dX12_hour_28 : decode cX12_hour 28 = .ok (.iload_n 1, 1) := by decide +kernel
theorem dX12_hour_29 : decode cX12_hour 29 = .ok (.invokevirtual 352, 3) := by decide +kernel
theorem dX12_hour_32 : decode cX12_hour 32 = .ok (.istore_n 3, 1) := by decide +kernel
theorem dX12_hour_33 : decode cX12_hour 33 = .ok (.aload_n 0, 1) := by decide +kernel
theorem dX12_hour_34 : decode cX12_hour 34 = .ok (.getfield 33, 3) := by decide +kernel
theorem dX12_hour_37 : decode cX12_hour 37 = .ok (.bipush 109, 2) := by decide +kernel
theorem dX12_hour_39 : decode cX12_hour 39 = .ok (.iload_n 1, 1) := by decide +kernel
theorem dX12_hour_40 : decode cX12_hour 40 = .ok (.iadd, 1) := by decide +kernel
theorem dX12_hour_41 : decode cX12_hour 41 = .ok (.dup2, 1) := by decide +kernel
theorem dX12_hour_42 : decode cX12_hour 42 = .ok (.iaload, 1) := by decide +kernel
theorem dX12_hour_43 : decode cX12_hour 43 = .ok (.iload_n 3, 1) := by decide +kernel
theorem dX12_hour_44 : decode cX12_hour 44 = .ok (.ifCond .lt 7, 3) := by decide +kernel
theorem dX12_hour_47 : decode cX12_hour 47 = .ok (.iconst 1, 1) := by decide +kernel
theorem dX12_hour_48 : decode cX12_hour 48 = .ok (.goto 4, 3) := by decide +kernel
theorem dX12_hour_51 : decode cX12_hour 51 = .ok (.iconst 0, 1) := by decide +kernel
theorem dX12_hour_52 : decode cX12_hour 52 = .ok (.iadd, 1) := by decide +kernel
theorem dX12_hour_53 : decode cX12_hour 53 = .ok (.iastore, 1) := by decide +kernel
theorem dX12_hour_54 : decode cX12_hour 54 = .ok (.iconst 0, 1) := by decide +kernel
theorem dX12_hour_55 : decode cX12_hour 55 = .ok (.istore 4, 2) := by decide +kernel
theorem dX12_hour_57 : decode cX12_hour 57 = .ok (.iload 4, 2) := by decide +kernel
theorem dX12_hour_59 : decode cX12_hour 59 = .ok (.aload_n 0, 1) := by decide +kernel
theorem dX12_hour_60 : decode cX12_hour 60 = .ok (.getfield 33, 3) := by decide +kernel
theorem dX12_hour_63 : decode cX12_hour 63 = .ok (.iconst 2, 1) := by decide +kernel
theorem dX12_hour_64 : decode cX12_hour 64 = .ok (.iaload, 1) := by decide +kernel
theorem dX12_hour_65 : decode cX12_hour 65 = .ok (.if_icmp .gt 52, 3) := by decide +kernel
theorem dX12_hour_68 : decode cX12_hour 68 = .ok (.aload_n 0, 1) := by decide +kernel
theorem dX12_hour_69 : decode cX12_hour 69 = .ok (.getfield 33, 3) := by decide +kernel
theorem dX12_hour_72 : decode cX12_hour 72 = .ok (.bipush 115, 2) := by decide +kernel
theorem dX12_hour_74 : decode cX12_hour 74 = .ok (.iload_n 1, 1) := by decide +kernel
theorem dX12_hour_75 : decode cX12_hour 75 = .ok (.iadd, 1) := by decide +kernel
theorem dX12_hour_76 : decode cX12_hour 76 = .ok (.dup2, 1) := by decide +kernel
theorem dX12_hour_77 : decode cX12_hour 77 = .ok (.iaload, 1) := by decide +kernel
theorem dX12_hour_78 : decode cX12_hour 78 = .ok (.iload 4, 2) := by decide +kernel
theorem dX12_hour_80 : decode cX12_hour 80 = .ok (.iload_n 3, 1) := by decide +kernel
theorem dX12_hour_81 : decode cX12_hour 81 = .ok (.if_icmp .eq 27, 3) := by decide +kernel
theorem dX12_hour_84 : decode cX12_hour 84 = .ok (.aload_n 0, 1) := by decide +kernel
theorem dX12_hour_85 : decode cX12_hour 85 = .ok (.iload 4, 2) := by decide +kernel
theorem dX12_hour_87 : decode cX12_hour 87 = .ok (.invokevirtual 340, 3) := by decide +kernel
theorem dX12_hour_90 : decode cX12_hour 90 = .ok (.ifCond .eq 18, 3) := by decide +kernel
theorem dX12_hour_93 : decode cX12_hour 93 = .ok (.aload_n 0, 1) := by decide +kernel
theorem dX12_hour_94 : decode cX12_hour 94 = .ok (.iload 4, 2) := by decide +kernel
theorem dX12_hour_96 : decode cX12_hour 96 = .ok (.iload_n 1, 1) := by decide +kernel
theorem dX12_hour_97 : decode cX12_hour 97 = .ok (.invokevirtual 349, 3) := by decide +kernel
theorem dX12_hour_100 : decode cX12_hour 100 = .ok (.iconst 5, 1) := by decide +kernel
theorem dX12_hour_101 : decode cX12_hour 101 = .ok (.if_icmp .lt 7, 3) := by decide +kernel
theorem dX12_hour_104 : decode cX12_hour 104 = .ok (.iconst 1, 1) := by decide +kernel
theorem dX12_hour_105 : decode cX12_hour 105 = .ok (.goto 4, 3) := by decide +kernel
theorem dX12_hour_108 : decode cX12_hour 108 = .ok (.iconst 0, 1) := by decide +kernel
theorem dX12_hour_109 : decode cX12_hour 109 = .ok (.iadd, 1) := by decide +kernel
theorem dX12_hour_110 : decode cX12_hour 110 = .ok (.iastore, 1) := by decide +kernel
theorem dX12_hour_111 : decode cX12_hour 111 = .ok (.iinc 4 1, 3) := by decide +kernel
theorem dX12_hour_114 : decode cX12_hour 114 = .ok (.goto (-57), 3) := by decide +kernel
theorem dX12_hour_117 : decode cX12_hour 117 = .ok (.iinc 1 1, 3) := by decide +kernel
theorem dX12_hour_120 : decode cX12_hour 120 = .ok (.goto (-118), 3) := by decide +kernel
theorem dX12_hour_123 : decode cX12_hour 123 = .ok (.aload_n 0, 1) := by decide +kernel
theorem dX12_hour_124 : decode cX12_hour 124 = .ok (.getfield 33, 3) := by decide +kernel
theorem dX12_hour_127 : decode cX12_hour 127 = .ok (.bipush 100, 2) := by decide +kernel
theorem dX12_hour_129 : decode cX12_hour 129 = .ok (.iconst 0, 1) := by decide +kernel
theorem dX12_hour_130 : decode cX12_hour 130 = .ok (.iastore, 1) := by decide +kernel
theorem dX12_hour_131 : decode cX12_hour 131 = .ok (.aload_n 0, 1) := by decide +kernel
theorem dX12_hour_132 : decode cX12_hour 132 = .ok (.getfield 33, 3) := by decide +kernel
theorem dX12_hour_135 : decode cX12_hour 135 = .ok (.bipush 97, 2) := by decide +kernel
theorem dX12_hour_137 : decode cX12_hour 137 = .ok (.dup2, 1) := by decide +kernel
theorem dX12_hour_138 : decode cX12_hour 138 = .ok (.iaload, 1) := by decide +kernel
theorem dX12_hour_139 : decode cX12_hour 139 = .ok (.iconst 1, 1) := by decide +kernel
theorem dX12_hour_140 : decode cX12_hour 140 = .ok (.iadd, 1) := by decide +kernel
theorem dX12_hour_141 : decode cX12_hour 141 = .ok (.iastore, 1) := by decide +kernel
theorem dX12_hour_142 : decode cX12_hour 142 = .ok (.return_, 1) := by decide +kernel
theorem dX12_goesOn_0 : decode cX12_goesOn 0 = .ok (.iconst 0, 1) := by decide +kernel
theorem dX12_goesOn_1 : decode cX12_goesOn 1 = .ok (.istore_n 2, 1) := by decide +kernel
theorem dX12_goesOn_2 : decode cX12_goesOn 2 = .ok (.iload_n 2, 1) := by decide +kernel
theorem dX12_goesOn_3 : decode cX12_goesOn 3 = .ok (.iload_n 1, 1) := by decide +kernel
theorem dX12_goesOn_4 : decode cX12_goesOn 4 = .ok (.if_icmp .ge 26, 3) := by decide +kernel
theorem dX12_goesOn_7 : decode cX12_goesOn 7 = .ok (.aload_n 0, 1) := by decide +kernel
theorem dX12_goesOn_8 : decode cX12_goesOn 8 = .ok (.getfield 33, 3) := by decide +kernel
theorem dX12_goesOn_11 : decode cX12_goesOn 11 = .ok (.bipush 97, 2) := by decide +kernel
theorem dX12_goesOn_13 : decode cX12_goesOn 13 = .ok (.iaload, 1) := by decide +kernel
theorem dX12_goesOn_14 : decode cX12_goesOn 14 = .ok (.sipush 400, 3) := by decide +kernel
theorem dX12_goesOn_17 : decode cX12_goesOn 17 = .ok (.if_icmp .ge 13, 3) := by decide +kernel
theorem dX12_goesOn_20 : decode cX12_goesOn 20 = .ok (.aload_n 0, 1) := by decide +kernel
theorem dX12_goesOn_21 : decode cX12_goesOn 21 = .ok (.invokevirtual 380, 3) := by decide +kernel
theorem dX12_goesOn_24 : decode cX12_goesOn 24 = .ok (.iinc 2 1, 3) := by decide +kernel
theorem dX12_goesOn_27 : decode cX12_goesOn 27 = .ok (.goto (-25), 3) := by decide +kernel
theorem dX12_goesOn_30 : decode cX12_goesOn 30 = .ok (.iload_n 2, 1) := by decide +kernel
theorem dX12_goesOn_31 : decode cX12_goesOn 31 = .ok (.ireturn, 1) := by decide +kernel
theorem dX12_lend_0 : decode cX12_lend 0 = .ok (.aload_n 0, 1) := by decide +kernel
theorem dX12_lend_1 : decode cX12_lend 1 = .ok (.iconst 0, 1) := by decide +kernel
theorem dX12_lend_2 : decode cX12_lend 2 = .ok (.putfield 1, 3) := by decide +kernel
theorem dX12_lend_5 : decode cX12_lend 5 = .ok (.aload_n 0, 1) := by decide +kernel
theorem dX12_lend_6 : decode cX12_lend 6 = .ok (.iload_n 1, 1) := by decide +kernel
theorem dX12_lend_7 : decode cX12_lend 7 = .ok (.invokevirtual 365, 3) := by decide +kernel
theorem dX12_lend_10 : decode cX12_lend 10 = .ok (.ifCond .eq 11, 3) := by decide +kernel
theorem dX12_lend_13 : decode cX12_lend 13 = .ok (.aload_n 0, 1) := by decide +kernel
theorem dX12_lend_14 : decode cX12_lend 14 = .ok (.iload_n 2, 1) := by decide +kernel
theorem dX12_lend_15 : decode cX12_lend 15 = .ok (.invokevirtual 355, 3) := by decide +kernel
theorem dX12_lend_18 : decode cX12_lend 18 = .ok (.ifCond .ne 5, 3) := by decide +kernel
theorem dX12_lend_21 : decode cX12_lend 21 = .ok (.iconst (-1), 1) := by decide +kernel
theorem dX12_lend_22 : decode cX12_lend 22 = .ok (.ireturn, 1) := by decide +kernel
theorem dX12_lend_23 : decode cX12_lend 23 = .ok (.aload_n 0, 1) := by decide +kernel
theorem dX12_lend_24 : decode cX12_lend 24 = .ok (.iload_n 1, 1) := by decide +kernel
theorem dX12_lend_25 : decode cX12_lend 25 = .ok (.iload_n 2, 1) := by decide +kernel
theorem dX12_lend_26 : decode cX12_lend 26 = .ok (.invokevirtual 383, 3) := by decide +kernel
theorem dX12_lend_29 : decode cX12_lend 29 = .ok (.istore_n 3, 1) := by decide +kernel
theorem dX12_lend_30 : decode cX12_lend 30 = .ok (.iload_n 3, 1) := by decide +kernel
theorem dX12_lend_31 : decode cX12_lend 31 = .ok (.ifCond .le 5, 3) := by decide +kernel
theorem dX12_lend_34 : decode cX12_lend 34 = .ok (.iload_n 3, 1) := by decide +kernel
theorem dX12_lend_35 : decode cX12_lend 35 = .ok (.ireturn, 1) := by decide +kernel
theorem dX12_lend_36 : decode cX12_lend 36 = .ok (.aload_n 0, 1) := by decide +kernel
theorem dX12_lend_37 : decode cX12_lend 37 = .ok (.invokevirtual 386, 3) := by decide +kernel
theorem dX12_lend_40 : decode cX12_lend 40 = .ok (.aload_n 0, 1) := by decide +kernel
theorem dX12_lend_41 : decode cX12_lend 41 = .ok (.getfield 33, 3) := by decide +kernel
theorem dX12_lend_44 : decode cX12_lend 44 = .ok (.bipush 103, 2) := by decide +kernel
theorem dX12_lend_46 : decode cX12_lend 46 = .ok (.iload_n 1, 1) := by decide +kernel
theorem dX12_lend_47 : decode cX12_lend 47 = .ok (.iadd, 1) := by decide +kernel
theorem dX12_lend_48 : decode cX12_lend 48 = .ok (.iload_n 2, 1) := by decide +kernel
theorem dX12_lend_49 : decode cX12_lend 49 = .ok (.iastore, 1) := by decide +kernel
theorem dX12_lend_50 : decode cX12_lend 50 = .ok (.iconst 0, 1) := by decide +kernel
theorem dX12_lend_51 : decode cX12_lend 51 = .ok (.ireturn, 1) := by decide +kernel
theorem dX12_turns_0 : decode cX12_turns 0 = .ok (.aload_n 0, 1) := by decide +kernel
theorem dX12_turns_1 : decode cX12_turns 1 = .ok (.iconst 0, 1) := by decide +kernel
theorem dX12_turns_2 : decode cX12_turns 2 = .ok (.putfield 1, 3) := by decide +kernel
theorem dX12_turns_5 : decode cX12_turns 5 = .ok (.aload_n 0, 1) := by decide +kernel
theorem dX12_turns_6 : decode cX12_turns 6 = .ok (.iload_n 1, 1) := by decide +kernel
theorem dX12_turns_7 : decode cX12_turns 7 = .ok (.invokevirtual 371, 3) := by decide +kernel
theorem dX12_turns_10 : decode cX12_turns 10 = .ok (.ifCond .ne 5, 3) := by decide +kernel
theorem dX12_turns_13 : decode cX12_turns 13 = .ok (.iconst (-1), 1) := by decide +kernel
theorem dX12_turns_14 : decode cX12_turns 14 = .ok (.ireturn, 1) := by decide +kernel
theorem dX12_turns_15 : decode cX12_turns 15 = .ok (.aload_n 0, 1) := by decide +kernel
theorem dX12_turns_16 : decode cX12_turns 16 = .ok (.getfield 33, 3) := by decide +kernel
theorem dX12_turns_19 : decode cX12_turns 19 = .ok (.bipush 98, 2) := by decide +kernel
theorem dX12_turns_21 : decode cX12_turns 21 = .ok (.iaload, 1) := by decide +kernel
theorem dX12_turns_22 : decode cX12_turns 22 = .ok (.iload_n 1, 1) := by decide +kernel
theorem dX12_turns_23 : decode cX12_turns 23 = .ok (.ishr, 1) := by decide +kernel
theorem dX12_turns_24 : decode cX12_turns 24 = .ok (.iconst 1, 1) := by decide +kernel
theorem dX12_turns_25 : decode cX12_turns 25 = .ok (.iand, 1) := by decide +kernel
theorem dX12_turns_26 : decode cX12_turns 26 = .ok (.iload_n 2, 1) := by decide +kernel
theorem dX12_turns_27 : decode cX12_turns 27 = .ok (.if_icmp .ne 5, 3) := by decide +kernel
theorem dX12_turns_30 : decode cX12_turns 30 = .ok (.iconst 1, 1) := by decide +kernel
theorem dX12_turns_31 : decode cX12_turns 31 = .ok (.ireturn, 1) := by decide +kernel
theorem dX12_turns_32 : decode cX12_turns 32 = .ok (.aload_n 0, 1) := by decide +kernel
theorem dX12_turns_33 : decode cX12_turns 33 = .ok (.invokevirtual 386, 3) := by decide +kernel
theorem dX12_turns_36 : decode cX12_turns 36 = .ok (.aload_n 0, 1) := by decide +kernel
theorem dX12_turns_37 : decode cX12_turns 37 = .ok (.getfield 33, 3) := by decide +kernel
theorem dX12_turns_40 : decode cX12_turns 40 = .ok (.bipush 98, 2) := by decide +kernel
theorem dX12_turns_42 : decode cX12_turns 42 = .ok (.dup2, 1) := by decide +kernel
theorem dX12_turns_43 : decode cX12_turns 43 = .ok (.iaload, 1) := by decide +kernel
theorem dX12_turns_44 : decode cX12_turns 44 = .ok (.iconst 1, 1) := by decide +kernel
theorem dX12_turns_45 : decode cX12_turns 45 = .ok (.iload_n 1, 1) := by decide +kernel
theorem dX12_turns_46 : decode cX12_turns 46 = .ok (.ishl, 1) := by decide +kernel
theorem dX12_turns_47 : decode cX12_turns 47 = .ok (.ixor, 1) := by decide +kernel
theorem dX12_turns_48 : decode cX12_turns 48 = .ok (.iastore, 1) := by decide +kernel
theorem dX12_turns_49 : decode cX12_turns 49 = .ok (.iconst 0, 1) := by decide +kernel
theorem dX12_turns_50 : decode cX12_turns 50 = .ok (.ireturn, 1) := by decide +kernel
theorem dX12_hush_0 : decode cX12_hush 0 = .ok (.aload_n 0, 1) := by decide +kernel
theorem dX12_hush_1 : decode cX12_hush 1 = .ok (.iload_n 1, 1) := by decide +kernel
theorem dX12_hush_2 : decode cX12_hush 2 = .ok (.iconst 1, 1) := by decide +kernel
theorem dX12_hush_3 : decode cX12_hush 3 = .ok (.invokevirtual 389, 3) := by decide +kernel
theorem dX12_hush_6 : decode cX12_hush 6 = .ok (.ireturn, 1) := by decide +kernel
theorem dX12_let_0 : decode cX12_let 0 = .ok (.aload_n 0, 1) := by decide +kernel
theorem dX12_let_1 : decode cX12_let 1 = .ok (.iload_n 1, 1) := by decide +kernel
theorem dX12_let_2 : decode cX12_let 2 = .ok (.iconst 0, 1) := by decide +kernel
theorem dX12_let_3 : decode cX12_let 3 = .ok (.invokevirtual 389, 3) := by decide +kernel
theorem dX12_let_6 : decode cX12_let 6 = .ok (.ireturn, 1) := by decide +kernel
theorem dX12_shout_0 : decode cX12_shout 0 = .ok (.aload_n 0, 1) := by decide +kernel
theorem dX12_shout_1 : decode cX12_shout 1 = .ok (.iconst 0, 1) := by decide +kernel
theorem dX12_shout_2 : decode cX12_shout 2 = .ok (.putfield 1, 3) := by decide +kernel
theorem dX12_shout_5 : decode cX12_shout 5 = .ok (.aload_n 0, 1) := by decide +kernel
theorem dX12_shout_6 : decode cX12_shout 6 = .ok (.iload_n 1, 1) := by decide +kernel
theorem dX12_shout_7 : decode cX12_shout 7 = .ok (.iload_n 2, 1) := by decide +kernel
theorem dX12_shout_8 : decode cX12_shout 8 = .ok (.invokevirtual 392, 3) := by decide +kernel
theorem dX12_shout_11 : decode cX12_shout 11 = .ok (.ifCond .eq 13, 3) := by decide +kernel
theorem dX12_shout_14 : decode cX12_shout 14 = .ok (.iload_n 3, 1) := by decide +kernel
theorem dX12_shout_15 : decode cX12_shout 15 = .ok (.iconst 1, 1) := by decide +kernel
theorem dX12_shout_16 : decode cX12_shout 16 = .ok (.bipush 30, 2) := by decide +kernel
theorem dX12_shout_18 : decode cX12_shout 18 = .ok (.invokestatic 223, 3) := by decide +kernel
theorem dX12_shout_21 : decode cX12_shout 21 = .ok (.ifCond .ne 5, 3) := by decide +kernel
theorem dX12_shout_24 : decode cX12_shout 24 = .ok (.iconst (-1), 1) := by decide +kernel
theorem dX12_shout_25 : decode cX12_shout 25 = .ok (.ireturn, 1) := by decide +kernel
theorem dX12_shout_26 : decode cX12_shout 26 = .ok (.aload_n 0, 1) := by decide +kernel
theorem dX12_shout_27 : decode cX12_shout 27 = .ok (.getfield 33, 3) := by decide +kernel
theorem dX12_shout_30 : decode cX12_shout 30 = .ok (.bipush 100, 2) := by decide +kernel
theorem dX12_shout_32 : decode cX12_shout 32 = .ok (.iaload, 1) := by decide +kernel
theorem dX12_shout_33 : decode cX12_shout 33 = .ok (.ifCond .le 5, 3) := by decide +kernel
theorem dX12_shout_36 : decode cX12_shout 36 = .ok (.iconst 1, 1) := by decide +kernel
theorem dX12_shout_37 : decode cX12_shout 37 = .ok (.ireturn, 1) := by decide +kernel
theorem dX12_shout_38 : decode cX12_shout 38 = .ok (.aload_n 0, 1) := by decide +kernel
theorem dX12_shout_39 : decode cX12_shout 39 = .ok (.invokevirtual 386, 3) := by decide +kernel
theorem dX12_shout_42 : decode cX12_shout 42 = .ok (.aload_n 0, 1) := by decide +kernel
theorem dX12_shout_43 : decode cX12_shout 43 = .ok (.iload_n 1, 1) := by decide +kernel
theorem dX12_shout_44 : decode cX12_shout 44 = .ok (.iload_n 2, 1) := by decide +kernel
theorem dX12_shout_45 : decode cX12_shout 45 = .ok (.iload_n 3, 1) := by decide +kernel
theorem dX12_shout_46 : decode cX12_shout 46 = .ok (.invokevirtual 395, 3) := by decide +kernel
theorem dX12_shout_49 : decode cX12_shout 49 = .ok (.iconst 0, 1) := by decide +kernel
theorem dX12_shout_50 : decode cX12_shout 50 = .ok (.ireturn, 1) := by decide +kernel
theorem dX12_hours_0 : decode cX12_hours 0 = .ok (.aload_n 0, 1) := by decide +kernel
theorem dX12_hours_1 : decode cX12_hours 1 = .ok (.iconst 0, 1) := by decide +kernel
theorem dX12_hours_2 : decode cX12_hours 2 = .ok (.putfield 1, 3) := by decide +kernel
theorem dX12_hours_5 : decode cX12_hours 5 = .ok (.iload_n 1, 1) := by decide +kernel
theorem dX12_hours_6 : decode cX12_hours 6 = .ok (.iconst 1, 1) := by decide +kernel
theorem dX12_hours_7 : decode cX12_hours 7 = .ok (.bipush 60, 2) := by decide +kernel
theorem dX12_hours_9 : decode cX12_hours 9 = .ok (.invokestatic 223, 3) := by decide +kernel
theorem dX12_hours_12 : decode cX12_hours 12 = .ok (.ifCond .ne 5, 3) := by decide +kernel
theorem dX12_hours_15 : decode cX12_hours 15 = .ok (.iconst (-1), 1) := by decide +kernel
theorem dX12_hours_16 : decode cX12_hours 16 = .ok (.ireturn, 1) := by decide +kernel
theorem dX12_hours_17 : decode cX12_hours 17 = .ok (.aload_n 0, 1) := by decide +kernel
theorem dX12_hours_18 : decode cX12_hours 18 = .ok (.getfield 33, 3) := by decide +kernel
theorem dX12_hours_21 : decode cX12_hours 21 = .ok (.bipush 97, 2) := by decide +kernel
theorem dX12_hours_23 : decode cX12_hours 23 = .ok (.iaload, 1) := by decide +kernel
theorem dX12_hours_24 : decode cX12_hours 24 = .ok (.sipush 400, 3) := by decide +kernel
theorem dX12_hours_27 : decode cX12_hours 27 = .ok (.if_icmp .ne 5, 3) := by decide +kernel
theorem dX12_hours_30 : decode cX12_hours 30 = .ok (.iconst 0, 1) := by decide +kernel
theorem dX12_hours_31 : decode cX12_hours 31 = .ok (.ireturn, 1) := by decide +kernel
theorem dX12_hours_32 : decode cX12_hours 32 = .ok (.aload_n 0, 1) := by decide +kernel
theorem dX12_hours_33 : decode cX12_hours 33 = .ok (.invokevirtual 386, 3) := by decide +kernel
theorem dX12_hours_36 : decode cX12_hours 36 = .ok (.aload_n 0, 1) := by decide +kernel
theorem dX12_hours_37 : decode cX12_hours 37 = .ok (.iload_n 1, 1) := by decide +kernel
theorem dX12_hours_38 : decode cX12_hours 38 = .ok (.invokevirtual 399, 3) := by decide +kernel
theorem dX12_hours_41 : decode cX12_hours 41 = .ok (.ireturn, 1) := by decide +kernel
theorem dX12_keep_0 : decode cX12_keep 0 = .ok (.aload_n 0, 1) := by decide +kernel
theorem dX12_keep_1 : decode cX12_keep 1 = .ok (.getfield 307, 3) := by decide +kernel
theorem dX12_keep_4 : decode cX12_keep 4 = .ok (.bipush 8, 2) := by decide +kernel
theorem dX12_keep_6 : decode cX12_keep 6 = .ok (.if_icmp .ne 39, 3) := by decide +kernel
theorem dX12_keep_9 : decode cX12_keep 9 = .ok (.iconst 0, 1) := by decide +kernel
theorem dX12_keep_10 : decode cX12_keep 10 = .ok (.istore_n 1, 1) := by decide +kernel
theorem dX12_keep_11 : decode cX12_keep 11 = .ok (.iload_n 1, 1) := by decide +kernel
theorem dX12_keep_12 : decode cX12_keep 12 = .ok (.sipush 168, 3) := by decide +kernel
theorem dX12_keep_15 : decode cX12_keep 15 = .ok (.if_icmp .ge 24, 3) := by decide +kernel
theorem dX12_keep_18 : decode cX12_keep 18 = .ok (.aload_n 0, 1) := by decide +kernel
theorem dX12_keep_19 : decode cX12_keep 19 = .ok (.getfield 50, 3) := by decide +kernel
theorem dX12_keep_22 : decode cX12_keep 22 = .ok (.iload_n 1, 1) := by decide +kernel
theorem dX12_keep_23 : decode cX12_keep 23 = .ok (.aload_n 0, 1) := by decide +kernel
theorem dX12_keep_24 : decode cX12_keep 24 = .ok (.getfield 50, 3) := by decide +kernel
theorem dX12_keep_27 : decode cX12_keep 27 = .ok (.iload_n 1, 1) := by decide +kernel
theorem dX12_keep_28 : decode cX12_keep 28 = .ok (.bipush 24, 2) := by decide +kernel
theorem dX12_keep_30 : decode cX12_keep 30 = .ok (.iadd, 1) := by decide +kernel
theorem dX12_keep_31 : decode cX12_keep 31 = .ok (.iaload, 1) := by decide +kernel
theorem dX12_keep_32 : decode cX12_keep 32 = .ok (.iastore, 1) := by decide +kernel
theorem dX12_keep_33 : decode cX12_keep 33 = .ok (.iinc 1 1, 3) := by decide +kernel
theorem dX12_keep_36 : decode cX12_keep 36 = .ok (.goto (-25), 3) := by decide +kernel
theorem dX12_keep_39 : decode cX12_keep 39 = .ok (.aload_n 0, 1) := by decide +kernel
theorem dX12_keep_40 : decode cX12_keep 40 = .ok (.bipush 7, 2) := by decide +kernel
theorem dX12_keep_42 : decode cX12_keep 42 = .ok (.putfield 307, 3) := by decide +kernel
theorem dX12_keep_45 : decode cX12_keep 45 = .ok (.iconst 0, 1) := by decide +kernel
theorem dX12_keep_46 : decode cX12_keep 46 = .ok (.istore_n 1, 1) := by decide +kernel
theorem dX12_keep_47 : decode cX12_keep 47 = .ok (.iload_n 1, 1) := by decide +kernel
theorem dX12_keep_48 : decode cX12_keep 48 = .ok (.bipush 24, 2) := by decide +kernel
theorem dX12_keep_50 : decode cX12_keep 50 = .ok (.if_icmp .ge 32, 3) := by decide +kernel
theorem dX12_keep_53 : decode cX12_keep 53 = .ok (.aload_n 0, 1) := by decide +kernel
theorem dX12_keep_54 : decode cX12_keep 54 = .ok (.getfield 50, 3) := by decide +kernel
theorem dX12_keep_57 : decode cX12_keep 57 = .ok (.bipush 24, 2) := by decide +kernel
theorem dX12_keep_59 : decode cX12_keep 59 = .ok (.aload_n 0, 1) := by decide +kernel
theorem dX12_keep_60 : decode cX12_keep 60 = .ok (.getfield 307, 3) := by decide +kernel
theorem dX12_keep_63 : decode cX12_keep 63 = .ok (.imul, 1) := by decide +kernel
theorem dX12_keep_64 : decode cX12_keep 64 = .ok (.iload_n 1, 1) := by decide +kernel
theorem dX12_keep_65 : decode cX12_keep 65 = .ok (.iadd, 1) := by decide +kernel
theorem dX12_keep_66 : decode cX12_keep 66 = .ok (.aload_n 0, 1) := by decide +kernel
theorem dX12_keep_67 : decode cX12_keep 67 = .ok (.getfield 33, 3) := by decide +kernel
theorem dX12_keep_70 : decode cX12_keep 70 = .ok (.bipush 97, 2) := by decide +kernel
theorem dX12_keep_72 : decode cX12_keep 72 = .ok (.iload_n 1, 1) := by decide +kernel
theorem dX12_keep_73 : decode cX12_keep 73 = .ok (.iadd, 1) := by decide +kernel
theorem dX12_keep_74 : decode cX12_keep 74 = .ok (.iaload, 1) := by decide +kernel
theorem dX12_keep_75 : decode cX12_keep 75 = .ok (.iastore, 1) := by decide +kernel
theorem dX12_keep_76 : decode cX12_keep 76 = .ok (.iinc 1 1, 3) := by decide +kernel
theorem dX12_keep_79 : decode cX12_keep 79 = .ok (.goto (-32), 3) := by decide +kernel
theorem dX12_keep_82 : decode cX12_keep 82 = .ok (.aload_n 0, 1) := by decide +kernel
theorem dX12_keep_83 : decode cX12_keep 83 = .ok (.dup, 1) := by decide +kernel
theorem dX12_keep_84 : decode cX12_keep 84 = .ok (.getfield 307, 3) := by decide +kernel
theorem dX12_keep_87 : decode cX12_keep 87 = .ok (.iconst 1, 1) := by decide +kernel
theorem dX12_keep_88 : decode cX12_keep 88 = .ok (.iadd, 1) := by decide +kernel
theorem dX12_keep_89 : decode cX12_keep 89 = .ok (.putfield 307, 3) := by decide +kernel
theorem dX12_keep_92 : decode cX12_keep 92 = .ok (.return_, 1) := by decide +kernel
theorem dX12_undo_0 : decode cX12_undo 0 = .ok (.aload_n 0, 1) := by decide +kernel
theorem dX12_undo_1 : decode cX12_undo 1 = .ok (.iconst 0, 1) := by decide +kernel
theorem dX12_undo_2 : decode cX12_undo 2 = .ok (.putfield 1, 3) := by decide +kernel
theorem dX12_undo_5 : decode cX12_undo 5 = .ok (.aload_n 0, 1) := by decide +kernel
theorem dX12_undo_6 : decode cX12_undo 6 = .ok (.getfield 307, 3) := by decide +kernel
theorem dX12_undo_9 : decode cX12_undo 9 = .ok (.ifCond .ne 5, 3) := by decide +kernel
theorem dX12_undo_12 : decode cX12_undo 12 = .ok (.iconst (-1), 1) := by decide +kernel
theorem dX12_undo_13 : decode cX12_undo 13 = .ok (.ireturn, 1) := by decide +kernel
theorem dX12_undo_14 : decode cX12_undo 14 = .ok (.aload_n 0, 1) := by decide +kernel
theorem dX12_undo_15 : decode cX12_undo 15 = .ok (.dup, 1) := by decide +kernel
theorem dX12_undo_16 : decode cX12_undo 16 = .ok (.getfield 307, 3) := by decide +kernel
theorem dX12_undo_19 : decode cX12_undo 19 = .ok (.iconst 1, 1) := by decide +kernel
theorem dX12_undo_20 : decode cX12_undo 20 = .ok (.isub, 1) := by decide +kernel
theorem dX12_undo_21 : decode cX12_undo 21 = .ok (.putfield 307, 3) := by decide +kernel
theorem dX12_undo_24 : decode cX12_undo 24 = .ok (.iconst 0, 1) := by decide +kernel
theorem dX12_undo_25 : decode cX12_undo 25 = .ok (.istore_n 1, 1) := by decide +kernel
theorem dX12_undo_26 : decode cX12_undo 26 = .ok (.iload_n 1, 1) := by decide +kernel
theorem dX12_undo_27 : decode cX12_undo 27 = .ok (.bipush 24, 2) := by decide +kernel
theorem dX12_undo_29 : decode cX12_undo 29 = .ok (.if_icmp .ge 32, 3) := by decide +kernel
theorem dX12_undo_32 : decode cX12_undo 32 = .ok (.aload_n 0, 1) := by decide +kernel
theorem dX12_undo_33 : decode cX12_undo 33 = .ok (.getfield 33, 3) := by decide +kernel
theorem dX12_undo_36 : decode cX12_undo 36 = .ok (.bipush 97, 2) := by decide +kernel
theorem dX12_undo_38 : decode cX12_undo 38 = .ok (.iload_n 1, 1) := by decide +kernel
theorem dX12_undo_39 : decode cX12_undo 39 = .ok (.iadd, 1) := by decide +kernel
theorem dX12_undo_40 : decode cX12_undo 40 = .ok (.aload_n 0, 1) := by decide +kernel
theorem dX12_undo_41 : decode cX12_undo 41 = .ok (.getfield 50, 3) := by decide +kernel
theorem dX12_undo_44 : decode cX12_undo 44 = .ok (.bipush 24, 2) := by decide +kernel
theorem dX12_undo_46 : decode cX12_undo 46 = .ok (.aload_n 0, 1) := by decide +kernel
theorem dX12_undo_47 : decode cX12_undo 47 = .ok (.getfield 307, 3) := by decide +kernel
theorem dX12_undo_50 : decode cX12_undo 50 = .ok (.imul, 1) := by decide +kernel
theorem dX12_undo_51 : decode cX12_undo 51 = .ok (.iload_n 1, 1) := by decide +kernel
theorem dX12_undo_52 : decode cX12_undo 52 = .ok (.iadd, 1) := by decide +kernel
theorem dX12_undo_53 : decode cX12_undo 53 = .ok (.iaload, 1) := by decide +kernel
theorem dX12_undo_54 : decode cX12_undo 54 = .ok (.iastore, 1) := by decide +kernel
theorem dX12_undo_55 : decode cX12_undo 55 = .ok (.iinc 1 1, 3) := by decide +kernel
theorem dX12_undo_58 : decode cX12_undo 58 = .ok (.goto (-32), 3) := by decide +kernel
theorem dX12_undo_61 : decode cX12_undo 61 = .ok (.aload_n 0, 1) := by decide +kernel
theorem dX12_undo_62 : decode cX12_undo 62 = .ok (.getfield 307, 3) := by decide +kernel
theorem dX12_undo_65 : decode cX12_undo 65 = .ok (.ireturn, 1) := by decide +kernel
theorem dX12_tries_0 : decode cX12_tries 0 = .ok (.iconst 0, 1) := by decide +kernel
theorem dX12_tries_1 : decode cX12_tries 1 = .ok (.istore_n 1, 1) := by decide +kernel
theorem dX12_tries_2 : decode cX12_tries 2 = .ok (.iload_n 1, 1) := by decide +kernel
theorem dX12_tries_3 : decode cX12_tries 3 = .ok (.bipush 24, 2) := by decide +kernel
theorem dX12_tries_5 : decode cX12_tries 5 = .ok (.if_icmp .ge 24, 3) := by decide +kernel
theorem dX12_tries_8 : decode cX12_tries 8 = .ok (.aload_n 0, 1) := by decide +kernel
theorem dX12_tries_9 : decode cX12_tries 9 = .ok (.getfield 53, 3) := by decide +kernel
theorem dX12_tries_12 : decode cX12_tries 12 = .ok (.iload_n 1, 1) := by decide +kernel
theorem dX12_tries_13 : decode cX12_tries 13 = .ok (.aload_n 0, 1) := by decide +kernel
theorem dX12_tries_14 : decode cX12_tries 14 = .ok (.getfield 33, 3) := by decide +kernel
theorem dX12_tries_17 : decode cX12_tries 17 = .ok (.bipush 97, 2) := by decide +kernel
theorem dX12_tries_19 : decode cX12_tries 19 = .ok (.iload_n 1, 1) := by decide +kernel
theorem dX12_tries_20 : decode cX12_tries 20 = .ok (.iadd, 1) := by decide +kernel
theorem dX12_tries_21 : decode cX12_tries 21 = .ok (.iaload, 1) := by decide +kernel
theorem dX12_tries_22 : decode cX12_tries 22 = .ok (.iastore, 1) := by decide +kernel
theorem dX12_tries_23 : decode cX12_tries 23 = .ok (.iinc 1 1, 3) := by decide +kernel
theorem dX12_tries_26 : decode cX12_tries 26 = .ok (.goto (-24), 3) := by decide +kernel
theorem dX12_tries_29 : decode cX12_tries 29 = .ok (.return_, 1) := by decide +kernel
theorem dX12_back_0 : decode cX12_back 0 = .ok (.iconst 0, 1) := by decide +kernel
theorem dX12_back_1 : decode cX12_back 1 = .ok (.istore_n 1, 1) := by decide +kernel
theorem dX12_back_2 : decode cX12_back 2 = .ok (.iload_n 1, 1) := by decide +kernel
theorem dX12_back_3 : decode cX12_back 3 = .ok (.bipush 24, 2) := by decide +kernel
theorem dX12_back_5 : decode cX12_back 5 = .ok (.if_icmp .ge 24, 3) := by decide +kernel
theorem dX12_back_8 : decode cX12_back 8 = .ok (.aload_n 0, 1) := by decide +kernel
theorem dX12_back_9 : decode cX12_back 9 = .ok (.getfield 33, 3) := by decide +kernel
theorem dX12_back_12 : decode cX12_back 12 = .ok (.bipush 97, 2) := by decide +kernel
theorem dX12_back_14 : decode cX12_back 14 = .ok (.iload_n 1, 1) := by decide +kernel
theorem dX12_back_15 : decode cX12_back 15 = .ok (.iadd, 1) := by decide +kernel
theorem dX12_back_16 : decode cX12_back 16 = .ok (.aload_n 0, 1) := by decide +kernel
theorem dX12_back_17 : decode cX12_back 17 = .ok (.getfield 53, 3) := by decide +kernel
theorem dX12_back_20 : decode cX12_back 20 = .ok (.iload_n 1, 1) := by decide +kernel
theorem dX12_back_21 : decode cX12_back 21 = .ok (.iaload, 1) := by decide +kernel
theorem dX12_back_22 : decode cX12_back 22 = .ok (.iastore, 1) := by decide +kernel
theorem dX12_back_23 : decode cX12_back 23 = .ok (.iinc 1 1, 3) := by decide +kernel
theorem dX12_back_26 : decode cX12_back 26 = .ok (.goto (-24), 3) := by decide +kernel
theorem dX12_back_29 : decode cX12_back 29 = .ok (.return_, 1) := by decide +kernel
theorem dX12_hears_0 : decode cX12_hears 0 = .ok (.aload_n 0, 1) := by decide +kernel
theorem dX12_hears_1 : decode cX12_hears 1 = .ok (.iconst 0, 1) := by decide +kernel
theorem dX12_hears_2 : decode cX12_hears 2 = .ok (.putfield 1, 3) := by decide +kernel
theorem dX12_hears_5 : decode cX12_hears 5 = .ok (.aload_n 0, 1) := by decide +kernel
theorem dX12_hears_6 : decode cX12_hears 6 = .ok (.iload_n 1, 1) := by decide +kernel
theorem dX12_hears_7 : decode cX12_hears 7 = .ok (.invokevirtual 365, 3) := by decide +kernel
theorem dX12_hears_10 : decode cX12_hears 10 = .ok (.ifCond .eq 20, 3) := by decide +kernel
theorem dX12_hears_13 : decode cX12_hears 13 = .ok (.aload_n 0, 1) := by decide +kernel
theorem dX12_hears_14 : decode cX12_hears 14 = .ok (.iload_n 1, 1) := by decide +kernel
theorem dX12_hears_15 : decode cX12_hears 15 = .ok (.aload_n 0, 1) := by decide +kernel
theorem dX12_hears_16 : decode cX12_hears 16 = .ok (.getfield 33, 3) := by decide +kernel
theorem dX12_hears_19 : decode cX12_hears 19 = .ok (.bipush 103, 2) := by decide +kernel
theorem dX12_hears_21 : decode cX12_hears 21 = .ok (.iload_n 1, 1) := by decide +kernel
theorem dX12_hears_22 : decode cX12_hears 22 = .ok (.iadd, 1) := by decide +kernel
theorem dX12_hears_23 : decode cX12_hears 23 = .ok (.iaload, 1) := by decide +kernel
theorem dX12_hears_24 : decode cX12_hears 24 = .ok (.invokevirtual 346, 3) := by decide +kernel
theorem dX12_hears_27 : decode cX12_hears 27 = .ok (.goto 4, 3) := by decide +kernel
theorem dX12_hears_30 : decode cX12_hears 30 = .ok (.iconst (-1), 1) := by decide +kernel
theorem dX12_hears_31 : decode cX12_hears 31 = .ok (.ireturn, 1) := by decide +kernel
theorem dX12_would_0 : decode cX12_would 0 = .ok (.aload_n 0, 1) := by decide +kernel
theorem dX12_would_1 : decode cX12_would 1 = .ok (.iconst 0, 1) := by decide +kernel
theorem dX12_would_2 : decode cX12_would 2 = .ok (.putfield 1, 3) := by decide +kernel
theorem dX12_would_5 : decode cX12_would 5 = .ok (.aload_n 0, 1) := by decide +kernel
theorem dX12_would_6 : decode cX12_would 6 = .ok (.iload_n 1, 1) := by decide +kernel
theorem dX12_would_7 : decode cX12_would 7 = .ok (.invokevirtual 365, 3) := by decide +kernel
theorem dX12_would_10 : decode cX12_would 10 = .ok (.ifCond .eq 20, 3) := by decide +kernel
theorem dX12_would_13 : decode cX12_would 13 = .ok (.aload_n 0, 1) := by decide +kernel
theorem dX12_would_14 : decode cX12_would 14 = .ok (.iload_n 2, 1) := by decide +kernel
theorem dX12_would_15 : decode cX12_would 15 = .ok (.invokevirtual 355, 3) := by decide +kernel
theorem dX12_would_18 : decode cX12_would 18 = .ok (.ifCond .eq 12, 3) := by decide +kernel
theorem dX12_would_21 : decode cX12_would 21 = .ok (.aload_n 0, 1) := by decide +kernel
theorem dX12_would_22 : decode cX12_would 22 = .ok (.iload_n 1, 1) := by decide +kernel
theorem dX12_would_23 : decode cX12_would 23 = .ok (.iload_n 2, 1) := by decide +kernel
theorem dX12_would_24 : decode cX12_would 24 = .ok (.invokevirtual 368, 3) := by decide +kernel
theorem dX12_would_27 : decode cX12_would 27 = .ok (.goto 4, 3) := by decide +kernel
theorem dX12_would_30 : decode cX12_would 30 = .ok (.iconst (-1), 1) := by decide +kernel
theorem dX12_would_31 : decode cX12_would 31 = .ok (.ireturn, 1) := by decide +kernel
theorem dX12_when_0 : decode cX12_when 0 = .ok (.aload_n 0, 1) := by decide +kernel
theorem dX12_when_1 : decode cX12_when 1 = .ok (.iconst 0, 1) := by decide +kernel
theorem dX12_when_2 : decode cX12_when 2 = .ok (.putfield 1, 3) := by decide +kernel
theorem dX12_when_5 : decode cX12_when 5 = .ok (.aload_n 0, 1) := by decide +kernel
theorem dX12_when_6 : decode cX12_when 6 = .ok (.iload_n 1, 1) := by decide +kernel
theorem dX12_when_7 : decode cX12_when 7 = .ok (.invokevirtual 365, 3) := by decide +kernel
theorem dX12_when_10 : decode cX12_when 10 = .ok (.ifCond .eq 12, 3) := by decide +kernel
theorem dX12_when_13 : decode cX12_when 13 = .ok (.iload_n 2, 1) := by decide +kernel
theorem dX12_when_14 : decode cX12_when 14 = .ok (.iconst 0, 1) := by decide +kernel
theorem dX12_when_15 : decode cX12_when 15 = .ok (.iconst 4, 1) := by decide +kernel
theorem dX12_when_16 : decode cX12_when 16 = .ok (.invokestatic 223, 3) := by decide +kernel
theorem dX12_when_19 : decode cX12_when 19 = .ok (.ifCond .ne 5, 3) := by decide +kernel
theorem dX12_when_22 : decode cX12_when 22 = .ok (.iconst (-1), 1) := by decide +kernel
theorem dX12_when_23 : decode cX12_when 23 = .ok (.ireturn, 1) := by decide +kernel
theorem dX12_when_24 : decode cX12_when 24 = .ok (.aload_n 0, 1) := by decide +kernel
theorem dX12_when_25 : decode cX12_when 25 = .ok (.invokevirtual 402, 3) := by decide +kernel
theorem dX12_when_28 : decode cX12_when 28 = .ok (.iconst (-1), 1) := by decide +kernel
theorem dX12_when_29 : decode cX12_when 29 = .ok (.istore_n 3, 1) := by decide +kernel
theorem dX12_when_30 : decode cX12_when 30 = .ok (.iconst 0, 1) := by decide +kernel
theorem dX12_when_31 : decode cX12_when 31 = .ok (.istore 4, 2) := by decide +kernel
theorem dX12_when_33 : decode cX12_when 33 = .ok (.iload 4, 2) := by decide +kernel
theorem dX12_when_35 : decode cX12_when 35 = .ok (.bipush 48, 2) := by decide +kernel
theorem dX12_when_37 : decode cX12_when 37 = .ok (.if_icmp .gt 66, 3) := by decide +kernel
theorem dX12_when_40 : decode cX12_when 40 = .ok (.iload_n 3, 1) := by decide +kernel
theorem dX12_when_41 : decode cX12_when 41 = .ok (.ifCond .ge 62, 3) := by decide +kernel
theorem dX12_when_44 : decode cX12_when 44 = .ok (.aload_n 0, 1) := by decide +kernel
theorem dX12_when_45 : decode cX12_when 45 = .ok (.getfield 33, 3) := by decide +kernel
theorem dX12_when_48 : decode cX12_when 48 = .ok (.bipush 97, 2) := by decide +kernel
theorem dX12_when_50 : decode cX12_when 50 = .ok (.iaload, 1) := by decide +kernel
theorem dX12_when_51 : decode cX12_when 51 = .ok (.sipush 400, 3) := by decide +kernel
theorem dX12_when_54 : decode cX12_when 54 = .ok (.if_icmp .gt 49, 3) := by decide +kernel
theorem dX12_when_57 : decode cX12_when 57 = .ok (.aload_n 0, 1) := by decide +kernel
theorem dX12_when_58 : decode cX12_when 58 = .ok (.iload_n 1, 1) := by decide +kernel
theorem dX12_when_59 : decode cX12_when 59 = .ok (.aload_n 0, 1) := by decide +kernel
theorem dX12_when_60 : decode cX12_when 60 = .ok (.getfield 33, 3) := by decide +kernel
theorem dX12_when_63 : decode cX12_when 63 = .ok (.bipush 103, 2) := by decide +kernel
theorem dX12_when_65 : decode cX12_when 65 = .ok (.iload_n 1, 1) := by decide +kernel
theorem dX12_when_66 : decode cX12_when 66 = .ok (.iadd, 1) := by decide +kernel
theorem dX12_when_67 : decode cX12_when 67 = .ok (.iaload, 1) := by decide +kernel
theorem dX12_when_68 : decode cX12_when 68 = .ok (.invokevirtual 368, 3) := by decide +kernel
theorem dX12_when_71 : decode cX12_when 71 = .ok (.iload_n 2, 1) := by decide +kernel
theorem dX12_when_72 : decode cX12_when 72 = .ok (.if_icmp .ne 6, 3) := by decide +kernel
theorem dX12_when_75 : decode cX12_when 75 = .ok (.iload 4, 2) := by decide +kernel
theorem dX12_when_77 : decode cX12_when 77 = .ok (.istore_n 3, 1) := by decide +kernel
theorem dX12_when_78 : decode cX12_when 78 = .ok (.aload_n 0, 1) := by decide +kernel
theorem dX12_when_79 : decode cX12_when 79 = .ok (.getfield 33, 3) := by decide +kernel
theorem dX12_when_82 : decode cX12_when 82 = .ok (.bipush 97, 2) := by decide +kernel
theorem dX12_when_84 : decode cX12_when 84 = .ok (.dup2, 1) := by decide +kernel
theorem dX12_when_85 : decode cX12_when 85 = .ok (.iaload, 1) := by decide +kernel
theorem dX12_when_86 : decode cX12_when 86 = .ok (.iconst 1, 1) := by decide +kernel
theorem dX12_when_87 : decode cX12_when 87 = .ok (.iadd, 1) := by decide +kernel
theorem dX12_when_88 : decode cX12_when 88 = .ok (.iastore, 1) := by decide +kernel
theorem dX12_when_89 : decode cX12_when 89 = .ok (.aload_n 0, 1) := by decide +kernel
theorem dX12_when_90 : decode cX12_when 90 = .ok (.getfield 33, 3) := by decide +kernel
theorem dX12_when_93 : decode cX12_when 93 = .ok (.bipush 100, 2) := by decide +kernel
theorem dX12_when_95 : decode cX12_when 95 = .ok (.iconst 0, 1) := by decide +kernel
theorem dX12_when_96 : decode cX12_when 96 = .ok (.iastore, 1) := by decide +kernel
theorem dX12_when_97 : decode cX12_when 97 = .ok (.iinc 4 1, 3) := by decide +kernel
theorem dX12_when_100 : decode cX12_when 100 = .ok (.goto (-67), 3) := by decide +kernel
theorem dX12_when_103 : decode cX12_when 103 = .ok (.aload_n 0, 1) := by decide +kernel
theorem dX12_when_104 : decode cX12_when 104 = .ok (.invokevirtual 405, 3) := by decide +kernel
theorem dX12_when_107 : decode cX12_when 107 = .ok (.iload_n 3, 1) := by decide +kernel
theorem dX12_when_108 : decode cX12_when 108 = .ok (.ireturn, 1) := by decide +kernel
theorem dX12_loud_0 : decode cX12_loud 0 = .ok (.aload_n 0, 1) := by decide +kernel
theorem dX12_loud_1 : decode cX12_loud 1 = .ok (.aload_n 0, 1) := by decide +kernel
theorem dX12_loud_2 : decode cX12_loud 2 = .ok (.iload_n 1, 1) := by decide +kernel
theorem dX12_loud_3 : decode cX12_loud 3 = .ok (.invokevirtual 371, 3) := by decide +kernel
theorem dX12_loud_6 : decode cX12_loud 6 = .ok (.ifCond .eq 11, 3) := by decide +kernel
theorem dX12_loud_9 : decode cX12_loud 9 = .ok (.aload_n 0, 1) := by decide +kernel
theorem dX12_loud_10 : decode cX12_loud 10 = .ok (.iload_n 2, 1) := by decide +kernel
theorem dX12_loud_11 : decode cX12_loud 11 = .ok (.invokevirtual 355, 3) := by decide +kernel
theorem dX12_loud_14 : decode cX12_loud 14 = .ok (.ifCond .ne 7, 3) := by decide +kernel
theorem dX12_loud_17 : decode cX12_loud 17 = .ok (.iconst 1, 1) := by decide +kernel
theorem dX12_loud_18 : decode cX12_loud 18 = .ok (.goto 4, 3) := by decide +kernel
theorem dX12_loud_21 : decode cX12_loud 21 = .ok (.iconst 0, 1) := by decide +kernel
theorem dX12_loud_22 : decode cX12_loud 22 = .ok (.invokevirtual 358, 3) := by decide +kernel
theorem dX12_loud_25 : decode cX12_loud 25 = .ok (.ifCond .eq 5, 3) := by decide +kernel
theorem dX12_loud_28 : decode cX12_loud 28 = .ok (.iconst 0, 1) := by decide +kernel
theorem dX12_loud_29 : decode cX12_loud 29 = .ok (.ireturn, 1) := by decide +kernel
theorem dX12_loud_30 : decode cX12_loud 30 = .ok (.aload_n 0, 1) := by decide +kernel
theorem dX12_loud_31 : decode cX12_loud 31 = .ok (.iload_n 1, 1) := by decide +kernel
theorem dX12_loud_32 : decode cX12_loud 32 = .ok (.iload_n 2, 1) := by decide +kernel
theorem dX12_loud_33 : decode cX12_loud 33 = .ok (.invokevirtual 349, 3) := by decide +kernel
theorem dX12_loud_36 : decode cX12_loud 36 = .ok (.ireturn, 1) := by decide +kernel
theorem dX12_lookAlone_0 : decode cX12_lookAlone 0 = .ok (.aload_n 0, 1) := by decide +kernel
theorem dX12_lookAlone_1 : decode cX12_lookAlone 1 = .ok (.iload_n 1, 1) := by decide +kernel
theorem dX12_lookAlone_2 : decode cX12_lookAlone 2 = .ok (.aload_n 0, 1) := by decide +kernel
theorem dX12_lookAlone_3 : decode cX12_lookAlone 3 = .ok (.getfield 33, 3) := by decide +kernel
theorem dX12_lookAlone_6 : decode cX12_lookAlone 6 = .ok (.bipush 103, 2) := by decide +kernel
theorem dX12_lookAlone_8 : decode cX12_lookAlone 8 = .ok (.iload_n 1, 1) := by decide +kernel
theorem dX12_lookAlone_9 : decode cX12_lookAlone 9 = .ok (.iadd, 1) := by decide +kernel
theorem dX12_lookAlone_10 : decode cX12_lookAlone 10 = .ok (.iaload, 1) := by decide +kernel
theorem dX12_lookAlone_11 : decode cX12_lookAlone 11 = .ok (.iconst 1, 1) := by decide +kernel
theorem dX12_lookAlone_12 : decode cX12_lookAlone 12 = .ok (.iload_n 2, 1) := by decide +kernel
theorem dX12_lookAlone_13 : decode cX12_lookAlone 13 = .ok (.iload_n 3, 1) := by decide +kernel
theorem dX12_lookAlone_14 : decode cX12_lookAlone 14 = .ok (.iload 4, 2) := by decide +kernel
theorem dX12_lookAlone_16 : decode cX12_lookAlone 16 = .ok (.invokevirtual 333, 3) := by decide +kernel
theorem dX12_lookAlone_19 : decode cX12_lookAlone 19 = .ok (.ifCond .eq 21, 3) := by decide +kernel
theorem dX12_lookAlone_22 : decode cX12_lookAlone 22 = .ok (.aload_n 0, 1) := by decide +kernel
theorem dX12_lookAlone_23 : decode cX12_lookAlone 23 = .ok (.aload_n 0, 1) := by decide +kernel
theorem dX12_lookAlone_24 : decode cX12_lookAlone 24 = .ok (.getfield 33, 3) := by decide +kernel
theorem dX12_lookAlone_27 : decode cX12_lookAlone 27 = .ok (.bipush 103, 2) := by decide +kernel
theorem dX12_lookAlone_29 : decode cX12_lookAlone 29 = .ok (.iload_n 1, 1) := by decide +kernel
theorem dX12_lookAlone_30 : decode cX12_lookAlone 30 = .ok (.iadd, 1) := by decide +kernel
theorem dX12_lookAlone_31 : decode cX12_lookAlone 31 = .ok (.iaload, 1) := by decide +kernel
theorem dX12_lookAlone_32 : decode cX12_lookAlone 32 = .ok (.iload_n 2, 1) := by decide +kernel
theorem dX12_lookAlone_33 : decode cX12_lookAlone 33 = .ok (.iload_n 3, 1) := by decide +kernel
theorem dX12_lookAlone_34 : decode cX12_lookAlone 34 = .ok (.invokevirtual 327, 3) := by decide +kernel
theorem dX12_lookAlone_37 : decode cX12_lookAlone 37 = .ok (.goto 6, 3) := by decide +kernel
theorem dX12_lookAlone_40 : decode cX12_lookAlone 40 = .ok (.sipush 255, 3) := by decide +kernel
theorem dX12_lookAlone_43 : decode cX12_lookAlone 43 = .ok (.ireturn, 1) := by decide +kernel
theorem dX12_isSpot_0 : decode cX12_isSpot 0 = .ok (.iconst 1, 1) := by decide +kernel
theorem dX12_isSpot_1 : decode cX12_isSpot 1 = .ok (.istore_n 3, 1) := by decide +kernel
theorem dX12_isSpot_2 : decode cX12_isSpot 2 = .ok (.iconst 1, 1) := by decide +kernel
theorem dX12_isSpot_3 : decode cX12_isSpot 3 = .ok (.istore 4, 2) := by decide +kernel
theorem dX12_isSpot_5 : decode cX12_isSpot 5 = .ok (.iload 4, 2) := by decide +kernel
theorem dX12_isSpot_7 : decode cX12_isSpot 7 = .ok (.aload_n 0, 1) := by decide +kernel
theorem dX12_isSpot_8 : decode cX12_isSpot 8 = .ok (.getfield 18, 3) := by decide +kernel
theorem dX12_isSpot_11 : decode cX12_isSpot 11 = .ok (.if_icmp .ge 47, 3) := by decide +kernel
theorem dX12_isSpot_14 : decode cX12_isSpot 14 = .ok (.iload_n 3, 1) := by decide +kernel
theorem dX12_isSpot_15 : decode cX12_isSpot 15 = .ok (.ifCond .eq 35, 3) := by decide +kernel
theorem dX12_isSpot_18 : decode cX12_isSpot 18 = .ok (.aload_n 0, 1) := by decide +kernel
theorem dX12_isSpot_19 : decode cX12_isSpot 19 = .ok (.aload_n 0, 1) := by decide +kernel
theorem dX12_isSpot_20 : decode cX12_isSpot 20 = .ok (.iload 4, 2) := by decide +kernel
theorem dX12_isSpot_22 : decode cX12_isSpot 22 = .ok (.invokevirtual 408, 3) := by decide +kernel
theorem dX12_isSpot_25 : decode cX12_isSpot 25 = .ok (.iload_n 1, 1) := by decide +kernel
theorem dX12_isSpot_26 : decode cX12_isSpot 26 = .ok (.iload_n 2, 1) := by decide +kernel
theorem dX12_isSpot_27 : decode cX12_isSpot 27 = .ok (.aload_n 0, 1) := by decide +kernel
theorem dX12_isSpot_28 : decode cX12_isSpot 28 = .ok (.iconst 0, 1) := by decide +kernel
theorem dX12_isSpot_29 : decode cX12_isSpot 29 = .ok (.invokevirtual 408, 3) := by decide +kernel
theorem dX12_isSpot_32 : decode cX12_isSpot 32 = .ok (.invokevirtual 411, 3) := by decide +kernel
theorem dX12_isSpot_35 : decode cX12_isSpot 35 = .ok (.aload_n 0, 1) := by decide +kernel
theorem dX12_isSpot_36 : decode cX12_isSpot 36 = .ok (.iload 4, 2) := by decide +kernel
theorem dX12_isSpot_38 : decode cX12_isSpot 38 = .ok (.iconst 1, 1) := by decide +kernel
theorem dX12_isSpot_39 : decode cX12_isSpot 39 = .ok (.iadd, 1) := by decide +kernel
theorem dX12_isSpot_40 : decode cX12_isSpot 40 = .ok (.invokevirtual 408, 3) := by decide +kernel
theorem dX12_isSpot_43 : decode cX12_isSpot 43 = .ok (.if_icmp .ne 7, 3) := by decide +kernel
theorem dX12_isSpot_46 : decode cX12_isSpot 46 = .ok (.iconst 1, 1) := by decide +kernel
theorem dX12_isSpot_47 : decode cX12_isSpot 47 = .ok (.goto 4, 3) := by decide +kernel
theorem dX12_isSpot_50 : decode cX12_isSpot 50 = .ok (.iconst 0, 1) := by decide +kernel
theorem dX12_isSpot_51 : decode cX12_isSpot 51 = .ok (.istore_n 3, 1) := by decide +kernel
theorem dX12_isSpot_52 : decode cX12_isSpot 52 = .ok (.iinc 4 2, 3) := by decide +kernel
theorem dX12_isSpot_55 : decode cX12_isSpot 55 = .ok (.goto (-50), 3) := by decide +kernel
theorem dX12_isSpot_58 : decode cX12_isSpot 58 = .ok (.iload_n 3, 1) := by decide +kernel
theorem dX12_isSpot_59 : decode cX12_isSpot 59 = .ok (.ireturn, 1) := by decide +kernel
theorem dX12_leftBy_0 : decode cX12_leftBy 0 = .ok (.iconst 0, 1) := by decide +kernel
theorem dX12_leftBy_1 : decode cX12_leftBy 1 = .ok (.istore_n 2, 1) := by decide +kernel
theorem dX12_leftBy_2 : decode cX12_leftBy 2 = .ok (.iload_n 2, 1) := by decide +kernel
theorem dX12_leftBy_3 : decode cX12_leftBy 3 = .ok (.bipush 6, 2) := by decide +kernel
theorem dX12_leftBy_5 : decode cX12_leftBy 5 = .ok (.if_icmp .ge 16, 3) := by decide +kernel
theorem dX12_leftBy_8 : decode cX12_leftBy 8 = .ok (.aload_n 0, 1) := by decide +kernel
theorem dX12_leftBy_9 : decode cX12_leftBy 9 = .ok (.getfield 59, 3) := by decide +kernel
theorem dX12_leftBy_12 : decode cX12_leftBy 12 = .ok (.iload_n 2, 1) := by decide +kernel
theorem dX12_leftBy_13 : decode cX12_leftBy 13 = .ok (.iconst 0, 1) := by decide +kernel
theorem dX12_leftBy_14 : decode cX12_leftBy 14 = .ok (.iastore, 1) := by decide +kernel
theorem dX12_leftBy_15 : decode cX12_leftBy 15 = .ok (.iinc 2 1, 3) := by decide +kernel
theorem dX12_leftBy_18 : decode cX12_leftBy 18 = .ok (.goto (-16), 3) := by decide +kernel
theorem dX12_leftBy_21 : decode cX12_leftBy 21 = .ok (.iconst 0, 1) := by decide +kernel
theorem dX12_leftBy_22 : decode cX12_leftBy 22 = .ok (.istore_n 2, 1) := by decide +kernel
theorem dX12_leftBy_23 : decode cX12_leftBy 23 = .ok (.iconst 0, 1) := by decide +kernel
theorem dX12_leftBy_24 : decode cX12_leftBy 24 = .ok (.istore_n 3, 1) := by decide +kernel
theorem dX12_leftBy_25 : decode cX12_leftBy 25 = .ok (.iload_n 3, 1) := by decide +kernel
theorem dX12_leftBy_26 : decode cX12_leftBy 26 = .ok (.aload_n 0, 1) := by decide +kernel
theorem dX12_leftBy_27 : decode cX12_leftBy 27 = .ok (.getfield 62, 3) := by decide +kernel
theorem dX12_leftBy_30 : decode cX12_leftBy 30 = .ok (.if_icmp .ge 78, 3) := by decide +kernel
theorem dX12_leftBy_33 : decode cX12_leftBy 33 = .ok (.aload_n 0, 1) := by decide +kernel
theorem dX12_leftBy_34 : decode cX12_leftBy 34 = .ok (.iload_n 1, 1) := by decide +kernel
theorem dX12_leftBy_35 : decode cX12_leftBy 35 = .ok (.aload_n 0, 1) := by decide +kernel
theorem dX12_leftBy_36 : decode cX12_leftBy 36 = .ok (.getfield 56, 3) := by decide +kernel
theorem dX12_leftBy_39 : decode cX12_leftBy 39 = .ok (.iload_n 3, 1) := by decide +kernel
theorem dX12_leftBy_40 : decode cX12_leftBy 40 = .ok (.iaload, 1) := by decide +kernel
theorem dX12_leftBy_41 : decode cX12_leftBy 41 = .ok (.bipush 9, 2) := by decide +kernel
theorem dX12_leftBy_43 : decode cX12_leftBy 43 = .ok (.irem, 1) := by decide +kernel
theorem dX12_leftBy_44 : decode cX12_leftBy 44 = .ok (.aload_n 0, 1) := by decide +kernel
theorem dX12_leftBy_45 : decode cX12_leftBy 45 = .ok (.getfield 56, 3) := by decide +kernel
theorem dX12_leftBy_48 : decode cX12_leftBy 48 = .ok (.iload_n 3, 1) := by decide +kernel
theorem dX12_leftBy_49 : decode cX12_leftBy 49 = .ok (.iaload, 1) := by decide +kernel
theorem dX12_leftBy_50 : decode cX12_leftBy 50 = .ok (.bipush 9, 2) := by decide +kernel
theorem dX12_leftBy_52 : decode cX12_leftBy 52 = .ok (.idiv, 1) := by decide +kernel
theorem dX12_leftBy_53 : decode cX12_leftBy 53 = .ok (.aload_n 0, 1) := by decide +kernel
theorem dX12_leftBy_54 : decode cX12_leftBy 54 = .ok (.iconst 0, 1) := by decide +kernel
theorem dX12_leftBy_55 : decode cX12_leftBy 55 = .ok (.invokevirtual 408, 3) := by decide +kernel
theorem dX12_leftBy_58 : decode cX12_leftBy 58 = .ok (.invokevirtual 411, 3) := by decide +kernel
theorem dX12_leftBy_61 : decode cX12_leftBy 61 = .ok (.istore 4, 2) := by decide +kernel
theorem dX12_leftBy_63 : decode cX12_leftBy 63 = .ok (.iload 4, 2) := by decide +kernel
theorem dX12_leftBy_65 : decode cX12_leftBy 65 = .ok (.sipush 255, 3) := by decide +kernel
theorem dX12_leftBy_68 : decode cX12_leftBy 68 = .ok (.if_icmp .ne 7, 3) := by decide +kernel
theorem dX12_leftBy_71 : decode cX12_leftBy 71 = .ok (.iconst 5, 1) := by decide +kernel
theorem dX12_leftBy_72 : decode cX12_leftBy 72 = .ok (.goto 5, 3) := by decide +kernel
theorem dX12_leftBy_75 : decode cX12_leftBy 75 = .ok (.iload 4, 2) := by decide +kernel
theorem dX12_leftBy_77 : decode cX12_leftBy 77 = .ok (.istore 5, 2) := by decide +kernel
theorem dX12_leftBy_79 : decode cX12_leftBy 79 = .ok (.aload_n 0, 1) := by decide +kernel
theorem dX12_leftBy_80 : decode cX12_leftBy 80 = .ok (.getfield 59, 3) := by decide +kernel
theorem dX12_leftBy_83 : decode cX12_leftBy 83 = .ok (.iload 5, 2) := by decide +kernel
theorem dX12_leftBy_85 : decode cX12_leftBy 85 = .ok (.dup2, 1) := by decide +kernel
theorem dX12_leftBy_86 : decode cX12_leftBy 86 = .ok (.iaload, 1) := by decide +kernel
theorem dX12_leftBy_87 : decode cX12_leftBy 87 = .ok (.iconst 1, 1) := by decide +kernel
theorem dX12_leftBy_88 : decode cX12_leftBy 88 = .ok (.iadd, 1) := by decide +kernel
theorem dX12_leftBy_89 : decode cX12_leftBy 89 = .ok (.iastore, 1) := by decide +kernel
theorem dX12_leftBy_90 : decode cX12_leftBy 90 = .ok (.iload_n 2, 1) := by decide +kernel
theorem dX12_leftBy_91 : decode cX12_leftBy 91 = .ok (.aload_n 0, 1) := by decide +kernel
theorem dX12_leftBy_92 : decode cX12_leftBy 92 = .ok (.getfield 59, 3) := by decide +kernel
theorem dX12_leftBy_95 : decode cX12_leftBy 95 = .ok (.iload 5, 2) := by decide +kernel
theorem dX12_leftBy_97 : decode cX12_leftBy 97 = .ok (.iaload, 1) := by decide +kernel
theorem dX12_leftBy_98 : decode cX12_leftBy 98 = .ok (.invokestatic 415, 3) := by decide +kernel
theorem dX12_leftBy_101 : decode cX12_leftBy 101 = .ok (.istore_n 2, 1) := by decide +kernel
theorem dX12_leftBy_102 : decode cX12_leftBy 102 = .ok (.iinc 3 1, 3) := by decide +kernel
theorem dX12_leftBy_105 : decode cX12_leftBy 105 = .ok (.goto (-80), 3) := by decide +kernel
theorem dX12_leftBy_108 : decode cX12_leftBy 108 = .ok (.iload_n 2, 1) := by decide +kernel
theorem dX12_leftBy_109 : decode cX12_leftBy 109 = .ok (.ireturn, 1) := by decide +kernel
theorem dX12_spots_0 : decode cX12_spots 0 = .ok (.aload_n 0, 1) := by decide +kernel
theorem dX12_spots_1 : decode cX12_spots 1 = .ok (.iconst 0, 1) := by decide +kernel
theorem dX12_spots_2 : decode cX12_spots 2 = .ok (.putfield 1, 3) := by decide +kernel
theorem dX12_spots_5 : decode cX12_spots 5 = .ok (.aload_n 0, 1) := by decide +kernel
theorem dX12_spots_6 : decode cX12_spots 6 = .ok (.sipush 940, 3) := by decide +kernel
theorem dX12_spots_9 : decode cX12_spots 9 = .ok (.invokevirtual 295, 3) := by decide +kernel
theorem dX12_spots_12 : decode cX12_spots 12 = .ok (.aload_n 0, 1) := by decide +kernel
theorem dX12_spots_13 : decode cX12_spots 13 = .ok (.getfield 18, 3) := by decide +kernel
theorem dX12_spots_16 : decode cX12_spots 16 = .ok (.iconst 3, 1) := by decide +kernel
theorem dX12_spots_17 : decode cX12_spots 17 = .ok (.bipush 13, 2) := by decide +kernel
theorem dX12_spots_19 : decode cX12_spots 19 = .ok (.invokestatic 223, 3) := by decide +kernel
theorem dX12_spots_22 : decode cX12_spots 22 = .ok (.ifCond .eq 26, 3) := by decide +kernel
theorem dX12_spots_25 : decode cX12_spots 25 = .ok (.aload_n 0, 1) := by decide +kernel
theorem dX12_spots_26 : decode cX12_spots 26 = .ok (.getfield 18, 3) := by decide +kernel
theorem dX12_spots_29 : decode cX12_spots 29 = .ok (.iconst 2, 1) := by decide +kernel
theorem dX12_spots_30 : decode cX12_spots 30 = .ok (.irem, 1) := by decide +kernel
theorem dX12_spots_31 : decode cX12_spots 31 = .ok (.ifCond .eq 17, 3) := by decide +kernel
theorem dX12_spots_34 : decode cX12_spots 34 = .ok (.aload_n 0, 1) := by decide +kernel
theorem dX12_spots_35 : decode cX12_spots 35 = .ok (.iconst 0, 1) := by decide +kernel
theorem dX12_spots_36 : decode cX12_spots 36 = .ok (.invokevirtual 408, 3) := by decide +kernel
theorem dX12_spots_39 : decode cX12_spots 39 = .ok (.iconst 1, 1) := by decide +kernel
theorem dX12_spots_40 : decode cX12_spots 40 = .ok (.bipush 30, 2) := by decide +kernel
theorem dX12_spots_42 : decode cX12_spots 42 = .ok (.invokestatic 223, 3) := by decide +kernel
theorem dX12_spots_45 : decode cX12_spots 45 = .ok (.ifCond .ne 5, 3) := by decide +kernel
theorem dX12_spots_48 : decode cX12_spots 48 = .ok (.iconst (-1), 1) := by decide +kernel
theorem dX12_spots_49 : decode cX12_spots 49 = .ok (.ireturn, 1) := by decide +kernel
theorem dX12_spots_50 : decode cX12_spots 50 = .ok (.iconst 1, 1) := by decide +kernel
theorem dX12_spots_51 : decode cX12_spots 51 = .ok (.istore_n 1, 1) := by decide +kernel
theorem dX12_spots_52 : decode cX12_spots 52 = .ok (.iload_n 1, 1) := by decide +kernel
theorem dX12_spots_53 : decode cX12_spots 53 = .ok (.aload_n 0, 1) := by decide +kernel
theorem dX12_spots_54 : decode cX12_spots 54 = .ok (.getfield 18, 3) := by decide +kernel
theorem dX12_spots_57 : decode cX12_spots 57 = .ok (.if_icmp .ge 47, 3) := by decide +kernel
theorem dX12_spots_60 : decode cX12_spots 60 = .ok (.aload_n 0, 1) := by decide +kernel
theorem dX12_spots_61 : decode cX12_spots 61 = .ok (.aload_n 0, 1) := by decide +kernel
theorem dX12_spots_62 : decode cX12_spots 62 = .ok (.iload_n 1, 1) := by decide +kernel
theorem dX12_spots_63 : decode cX12_spots 63 = .ok (.invokevirtual 408, 3) := by decide +kernel
theorem dX12_spots_66 : decode cX12_spots 66 = .ok (.invokevirtual 365, 3) := by decide +kernel
theorem dX12_spots_69 : decode cX12_spots 69 = .ok (.ifCond .eq 27, 3) := by decide +kernel
theorem dX12_spots_72 : decode cX12_spots 72 = .ok (.aload_n 0, 1) := by decide +kernel
theorem dX12_spots_73 : decode cX12_spots 73 = .ok (.iload_n 1, 1) := by decide +kernel
theorem dX12_spots_74 : decode cX12_spots 74 = .ok (.iconst 1, 1) := by decide +kernel
theorem dX12_spots_75 : decode cX12_spots 75 = .ok (.iadd, 1) := by decide +kernel
theorem dX12_spots_76 : decode cX12_spots 76 = .ok (.invokevirtual 408, 3) := by decide +kernel
theorem dX12_spots_79 : decode cX12_spots 79 = .ok (.iconst 4, 1) := by decide +kernel
theorem dX12_spots_80 : decode cX12_spots 80 = .ok (.if_icmp .le 18, 3) := by decide +kernel
theorem dX12_spots_83 : decode cX12_spots 83 = .ok (.aload_n 0, 1) := by decide +kernel
theorem dX12_spots_84 : decode cX12_spots 84 = .ok (.iload_n 1, 1) := by decide +kernel
theorem dX12_spots_85 : decode cX12_spots 85 = .ok (.iconst 1, 1) := by decide +kernel
theorem dX12_spots_86 : decode cX12_spots 86 = .ok (.iadd, 1) := by decide +kernel
theorem dX12_spots_87 : decode cX12_spots 87 = .ok (.invokevirtual 408, 3) := by decide +kernel
theorem dX12_spots_90 : decode cX12_spots 90 = .ok (.sipush 255, 3) := by decide +kernel
theorem dX12_spots_93 : decode cX12_spots 93 = .ok (.if_icmp .eq 5, 3) := by decide +kernel
theorem dX12_spots_96 : decode cX12_spots 96 = .ok (.iconst (-1), 1) := by decide +kernel
theorem dX12_spots_97 : decode cX12_spots 97 = .ok (.ireturn, 1) := by decide +kernel
theorem dX12_spots_98 : decode cX12_spots 98 = .ok (.iinc 1 2, 3) := by decide +kernel
theorem dX12_spots_101 : decode cX12_spots 101 = .ok (.goto (-49), 3) := by decide +kernel
theorem dX12_spots_104 : decode cX12_spots 104 = .ok (.iconst 0, 1) := by decide +kernel
theorem dX12_spots_105 : decode cX12_spots 105 = .ok (.istore_n 1, 1) := by decide +kernel
theorem dX12_spots_106 : decode cX12_spots 106 = .ok (.iconst 0, 1) := by decide +kernel
theorem dX12_spots_107 : decode cX12_spots 107 = .ok (.istore_n 2, 1) := by decide +kernel
theorem dX12_spots_108 : decode cX12_spots 108 = .ok (.iload_n 2, 1) := by decide +kernel
theorem dX12_spots_109 : decode cX12_spots 109 = .ok (.aload_n 0, 1) := by decide +kernel
theorem dX12_spots_110 : decode cX12_spots 110 = .ok (.getfield 33, 3) := by decide +kernel
theorem dX12_spots_113 : decode cX12_spots 113 = .ok (.iconst 4, 1) := by decide +kernel
theorem dX12_spots_114 : decode cX12_spots 114 = .ok (.iaload, 1) := by decide +kernel
theorem dX12_spots_115 : decode cX12_spots 115 = .ok (.if_icmp .ge 44, 3) := by decide +kernel
theorem dX12_spots_118 : decode cX12_spots 118 = .ok (.iconst 0, 1) := by decide +kernel
theorem dX12_spots_119 : decode cX12_spots 119 = .ok (.istore_n 3, 1) := by decide +kernel
theorem dX12_spots_120 : decode cX12_spots 120 = .ok (.iload_n 3, 1) := by decide +kernel
theorem dX12_spots_121 : decode cX12_spots 121 = .ok (.aload_n 0, 1) := by decide +kernel
theorem dX12_spots_122 : decode cX12_spots 122 = .ok (.getfield 33, 3) := by decide +kernel
theorem dX12_spots_125 : decode cX12_spots 125 = .ok (.iconst 3, 1) := by decide +kernel
theorem dX12_spots_126 : decode cX12_spots 126 = .ok (.iaload, 1) := by decide +kernel
theorem dX12_spots_127 : decode cX12_spots 127 = .ok (.if_icmp .ge 26, 3) := by decide +kernel
theorem dX12_spots_130 : decode cX12_spots 130 = .ok (.iload_n 1, 1) := by decide +kernel
theorem dX12_spots_131 : decode cX12_spots 131 = .ok (.aload_n 0, 1) := by decide +kernel
theorem dX12_spots_132 : decode cX12_spots 132 = .ok (.iload_n 3, 1) := by decide +kernel
theorem dX12_spots_133 : decode cX12_spots 133 = .ok (.iload_n 2, 1) := by decide +kernel
theorem dX12_spots_134 : decode cX12_spots 134 = .ok (.invokevirtual 418, 3) := by decide +kernel
theorem dX12_spots_137 : decode cX12_spots 137 = .ok (.ifCond .eq 7, 3) := by decide +kernel
theorem dX12_spots_140 : decode cX12_spots 140 = .ok (.iconst 1, 1) := by decide +kernel
theorem dX12_spots_141 : decode cX12_spots 141 = .ok (.goto 4, 3) := by decide +kernel
theorem dX12_spots_144 : decode cX12_spots 144 = .ok (.iconst 0, 1) := by decide +kernel
theorem dX12_spots_145 : decode cX12_spots 145 = .ok (.iadd, 1) := by decide +kernel
theorem dX12_spots_146 : decode cX12_spots 146 = .ok (.istore_n 1, 1) := by decide +kernel
theorem dX12_spots_147 : decode cX12_spots 147 = .ok (.iinc 3 1, 3) := by decide +kernel
theorem dX12_spots_150 : decode cX12_spots 150 = .ok (.goto (-30), 3) := by decide +kernel
theorem dX12_spots_153 : decode cX12_spots 153 = .ok (.iinc 2 1, 3) := by decide +kernel
theorem dX12_spots_156 : decode cX12_spots 156 = .ok (.goto (-48), 3) := by decide +kernel
theorem dX12_spots_159 : decode cX12_spots 159 = .ok (.iload_n 1, 1) := by decide +kernel
theorem dX12_spots_160 : decode cX12_spots 160 = .ok (.ifCond .ne 5, 3) := by decide +kernel
theorem dX12_spots_163 : decode cX12_spots 163 = .ok (.iconst 0, 1) := by decide +kernel
theorem dX12_spots_164 : decode cX12_spots 164 = .ok (.ireturn, 1) := by decide +kernel
theorem dX12_spots_165 : decode cX12_spots 165 = .ok (.aload_n 0, 1) := by decide +kernel
theorem dX12_spots_166 : decode cX12_spots 166 = .ok (.iconst 0, 1) := by decide +kernel
theorem dX12_spots_167 : decode cX12_spots 167 = .ok (.putfield 62, 3) := by decide +kernel
theorem dX12_spots_170 : decode cX12_spots 170 = .ok (.iconst 0, 1) := by decide +kernel
theorem dX12_spots_171 : decode cX12_spots 171 = .ok (.istore_n 2, 1) := by decide +kernel
theorem dX12_spots_172 : decode cX12_spots 172 = .ok (.iload_n 2, 1) := by decide +kernel
theorem dX12_spots_173 : decode cX12_spots 173 = .ok (.bipush 81, 2) := by decide +kernel
theorem dX12_spots_175 : decode cX12_spots 175 = .ok (.if_icmp .ge 62, 3) := by decide +kernel
theorem dX12_spots_178 : decode cX12_spots 178 = .ok (.aload_n 0, 1) := by decide +kernel
theorem dX12_spots_179 : decode cX12_spots 179 = .ok (.iload_n 2, 1) := by decide +kernel
theorem dX12_spots_180 : decode cX12_spots 180 = .ok (.bipush 9, 2) := by decide +kernel
theorem dX12_spots_182 : decode cX12_spots 182 = .ok (.irem, 1) := by decide +kernel
theorem dX12_spots_183 : decode cX12_spots 183 = .ok (.iload_n 2, 1) := by decide +kernel
theorem dX12_spots_184 : decode cX12_spots 184 = .ok (.bipush 9, 2) := by decide +kernel
theorem dX12_spots_186 : decode cX12_spots 186 = .ok (.idiv, 1) := by decide +kernel
theorem dX12_spots_187 : decode cX12_spots 187 = .ok (.invokevirtual 392, 3) := by decide +kernel
theorem dX12_spots_190 : decode cX12_spots 190 = .ok (.ifCond .eq 41, 3) := by decide +kernel
theorem dX12_spots_193 : decode cX12_spots 193 = .ok (.aload_n 0, 1) := by decide +kernel
theorem dX12_spots_194 : decode cX12_spots 194 = .ok (.iload_n 2, 1) := by decide +kernel
theorem dX12_spots_195 : decode cX12_spots 195 = .ok (.bipush 9, 2) := by decide +kernel
theorem dX12_spots_197 : decode cX12_spots 197 = .ok (.irem, 1) := by decide +kernel
theorem dX12_spots_198 : decode cX12_spots 198 = .ok (.iload_n 2, 1) := by decide +kernel
theorem dX12_spots_199 : decode cX12_spots 199 = .ok (.bipush 9, 2) := by decide +kernel
theorem dX12_spots_201 : decode cX12_spots 201 = .ok (.idiv, 1) := by decide +kernel
theorem dX12_spots_202 : decode cX12_spots 202 = .ok (.invokevirtual 418, 3) := by decide +kernel
theorem dX12_spots_205 : decode cX12_spots 205 = .ok (.ifCond .ne 6, 3) := by decide +kernel
theorem dX12_spots_208 : decode cX12_spots 208 = .ok (.goto 23, 3) := by decide +kernel
theorem dX12_spots_211 : decode cX12_spots 211 = .ok (.aload_n 0, 1) := by decide +kernel
theorem dX12_spots_212 : decode cX12_spots 212 = .ok (.getfield 56, 3) := by decide +kernel
theorem dX12_spots_215 : decode cX12_spots 215 = .ok (.aload_n 0, 1) := by decide +kernel
theorem dX12_spots_216 : decode cX12_spots 216 = .ok (.getfield 62, 3) := by decide +kernel
theorem dX12_spots_219 : decode cX12_spots 219 = .ok (.iload_n 2, 1) := by decide +kernel
theorem dX12_spots_220 : decode cX12_spots 220 = .ok (.iastore, 1) := by decide +kernel
theorem dX12_spots_221 : decode cX12_spots 221 = .ok (.aload_n 0, 1) := by decide +kernel
theorem dX12_spots_222 : decode cX12_spots 222 = .ok (.dup, 1) := by decide +kernel
theorem dX12_spots_223 : decode cX12_spots 223 = .ok (.getfield 62, 3) := by decide +kernel
theorem dX12_spots_226 : decode cX12_spots 226 = .ok (.iconst 1, 1) := by decide +kernel
theorem dX12_spots_227 : decode cX12_spots 227 = .ok (.iadd, 1) := by decide +kernel
theorem dX12_spots_228 : decode cX12_spots 228 = .ok (.putfield 62, 3) := by decide +kernel
theorem dX12_spots_231 : decode cX12_spots 231 = .ok (.iinc 2 1, 3) := by decide +kernel
theorem dX12_spots_234 : decode cX12_spots 234 = .ok (.goto (-62), 3) := by decide +kernel
theorem dX12_spots_237 : decode cX12_spots 237 = .ok (.aload_n 0, 1) := by decide +kernel
theorem dX12_spots_238 : decode cX12_spots 238 = .ok (.iconst 0, 1) := by decide +kernel
theorem dX12_spots_239 : decode cX12_spots 239 = .ok (.putfield 65, 3) := by decide +kernel
theorem dX12_spots_242 : decode cX12_spots 242 = .ok (.iconst 1, 1) := by decide +kernel
theorem dX12_spots_243 : decode cX12_spots 243 = .ok (.istore_n 2, 1) := by decide +kernel
theorem dX12_spots_244 : decode cX12_spots 244 = .ok (.iload_n 2, 1) := by decide +kernel
theorem dX12_spots_245 : decode cX12_spots 245 = .ok (.aload_n 0, 1) := by decide +kernel
theorem dX12_spots_246 : decode cX12_spots 246 = .ok (.getfield 33, 3) := by decide +kernel
theorem dX12_spots_249 : decode cX12_spots 249 = .ok (.iconst 1, 1) := by decide +kernel
theorem dX12_spots_250 : decode cX12_spots 250 = .ok (.iaload, 1) := by decide +kernel
theorem dX12_spots_251 : decode cX12_spots 251 = .ok (.if_icmp .ge 30, 3) := by decide +kernel
theorem dX12_spots_254 : decode cX12_spots 254 = .ok (.aload_n 0, 1) := by decide +kernel
theorem dX12_spots_255 : decode cX12_spots 255 = .ok (.iload_n 2, 1) := by decide +kernel
theorem dX12_spots_256 : decode cX12_spots 256 = .ok (.invokevirtual 421, 3) := by decide +kernel
theorem dX12_spots_259 : decode cX12_spots 259 = .ok (.aload_n 0, 1) := by decide +kernel
theorem dX12_spots_260 : decode cX12_spots 260 = .ok (.aload_n 0, 1) := by decide +kernel
theorem dX12_spots_261 : decode cX12_spots 261 = .ok (.getfield 65, 3) := by decide +kernel
theorem dX12_spots_264 : decode cX12_spots 264 = .ok (.invokevirtual 421, 3) := by decide +kernel
theorem dX12_spots_267 : decode cX12_spots 267 = .ok (.if_icmp .ge 8, 3) := by decide +kernel
theorem dX12_spots_270 : decode cX12_spots 270 = .ok (.aload_n 0, 1) := by decide +kernel
theorem dX12_spots_271 : decode cX12_spots 271 = .ok (.iload_n 2, 1) := by decide +kernel
theorem dX12_spots_272 : decode cX12_spots 272 = .ok (.putfield 65, 3) := by decide +kernel
theorem dX12_spots_275 : decode cX12_spots 275 = .ok (.iinc 2 1, 3) := by decide +kernel
theorem dX12_spots_278 : decode cX12_spots 278 = .ok (.goto (-34), 3) := by decide +kernel
theorem dX12_spots_281 : decode cX12_spots 281 = .ok (.iload_n 1, 1) := by decide +kernel
theorem dX12_spots_282 : decode cX12_spots 282 = .ok (.ireturn, 1) := by decide +kernel
theorem dX12_spotAt_0 : decode cX12_spotAt 0 = .ok (.aload_n 0, 1) := by decide +kernel
theorem dX12_spotAt_1 : decode cX12_spotAt 1 = .ok (.iconst 0, 1) := by decide +kernel
theorem dX12_spotAt_2 : decode cX12_spotAt 2 = .ok (.putfield 1, 3) := by decide +kernel
theorem dX12_spotAt_5 : decode cX12_spotAt 5 = .ok (.iload_n 1, 1) := by decide +kernel
theorem dX12_spotAt_6 : decode cX12_spotAt 6 = .ok (.iconst 0, 1) := by decide +kernel
theorem dX12_spotAt_7 : decode cX12_spotAt 7 = .ok (.aload_n 0, 1) := by decide +kernel
theorem dX12_spotAt_8 : decode cX12_spotAt 8 = .ok (.getfield 62, 3) := by decide +kernel
theorem dX12_spotAt_11 : decode cX12_spotAt 11 = .ok (.iconst 1, 1) := by decide +kernel
theorem dX12_spotAt_12 : decode cX12_spotAt 12 = .ok (.isub, 1) := by decide +kernel
theorem dX12_spotAt_13 : decode cX12_spotAt 13 = .ok (.invokestatic 223, 3) := by decide +kernel
theorem dX12_spotAt_16 : decode cX12_spotAt 16 = .ok (.ifCond .eq 12, 3) := by decide +kernel
theorem dX12_spotAt_19 : decode cX12_spotAt 19 = .ok (.aload_n 0, 1) := by decide +kernel
theorem dX12_spotAt_20 : decode cX12_spotAt 20 = .ok (.getfield 56, 3) := by decide +kernel
theorem dX12_spotAt_23 : decode cX12_spotAt 23 = .ok (.iload_n 1, 1) := by decide +kernel
theorem dX12_spotAt_24 : decode cX12_spotAt 24 = .ok (.iaload, 1) := by decide +kernel
theorem dX12_spotAt_25 : decode cX12_spotAt 25 = .ok (.goto 4, 3) := by decide +kernel
theorem dX12_spotAt_28 : decode cX12_spotAt 28 = .ok (.iconst (-1), 1) := by decide +kernel
theorem dX12_spotAt_29 : decode cX12_spotAt 29 = .ok (.ireturn, 1) := by decide +kernel
theorem dX12_next_0 : decode cX12_next 0 = .ok (.aload_n 0, 1) := by decide +kernel
theorem dX12_next_1 : decode cX12_next 1 = .ok (.iconst 0, 1) := by decide +kernel
theorem dX12_next_2 : decode cX12_next 2 = .ok (.putfield 1, 3) := by decide +kernel
theorem dX12_next_5 : decode cX12_next 5 = .ok (.aload_n 0, 1) := by decide +kernel
theorem dX12_next_6 : decode cX12_next 6 = .ok (.getfield 65, 3) := by decide +kernel
theorem dX12_next_9 : decode cX12_next 9 = .ok (.ireturn, 1) := by decide +kernel
theorem dX12_isKeen_0 : decode cX12_isKeen 0 = .ok (.iconst 1, 1) := by decide +kernel
theorem dX12_isKeen_1 : decode cX12_isKeen 1 = .ok (.istore_n 2, 1) := by decide +kernel
theorem dX12_isKeen_2 : decode cX12_isKeen 2 = .ok (.iconst 0, 1) := by decide +kernel
theorem dX12_isKeen_3 : decode cX12_isKeen 3 = .ok (.istore_n 3, 1) := by decide +kernel
theorem dX12_isKeen_4 : decode cX12_isKeen 4 = .ok (.iload_n 3, 1) := by decide +kernel
theorem dX12_isKeen_5 : decode cX12_isKeen 5 = .ok (.aload_n 0, 1) := by decide +kernel
theorem dX12_isKeen_6 : decode cX12_isKeen 6 = .ok (.getfield 18, 3) := by decide +kernel
theorem dX12_isKeen_9 : decode cX12_isKeen 9 = .ok (.if_icmp .ge 60, 3) := by decide +kernel
theorem dX12_isKeen_12 : decode cX12_isKeen 12 = .ok (.iload_n 2, 1) := by decide +kernel
theorem dX12_isKeen_13 : decode cX12_isKeen 13 = .ok (.ifCond .eq 48, 3) := by decide +kernel
theorem dX12_isKeen_16 : decode cX12_isKeen 16 = .ok (.aload_n 0, 1) := by decide +kernel
theorem dX12_isKeen_17 : decode cX12_isKeen 17 = .ok (.iload_n 3, 1) := by decide +kernel
theorem dX12_isKeen_18 : decode cX12_isKeen 18 = .ok (.invokevirtual 408, 3) := by decide +kernel
theorem dX12_isKeen_21 : decode cX12_isKeen 21 = .ok (.aload_n 0, 1) := by decide +kernel
theorem dX12_isKeen_22 : decode cX12_isKeen 22 = .ok (.iload_n 3, 1) := by decide +kernel
theorem dX12_isKeen_23 : decode cX12_isKeen 23 = .ok (.iconst 1, 1) := by decide +kernel
theorem dX12_isKeen_24 : decode cX12_isKeen 24 = .ok (.iadd, 1) := by decide +kernel
theorem dX12_isKeen_25 : decode cX12_isKeen 25 = .ok (.invokevirtual 408, 3) := by decide +kernel
theorem dX12_isKeen_28 : decode cX12_isKeen 28 = .ok (.isub, 1) := by decide +kernel
theorem dX12_isKeen_29 : decode cX12_isKeen 29 = .ok (.iload_n 1, 1) := by decide +kernel
theorem dX12_isKeen_30 : decode cX12_isKeen 30 = .ok (.if_icmp .lt 7, 3) := by decide +kernel
theorem dX12_isKeen_33 : decode cX12_isKeen 33 = .ok (.iconst 1, 1) := by decide +kernel
theorem dX12_isKeen_34 : decode cX12_isKeen 34 = .ok (.goto 4, 3) := by decide +kernel
theorem dX12_isKeen_37 : decode cX12_isKeen 37 = .ok (.iconst 0, 1) := by decide +kernel
theorem dX12_isKeen_38 : decode cX12_isKeen 38 = .ok (.aload_n 0, 1) := by decide +kernel
theorem dX12_isKeen_39 : decode cX12_isKeen 39 = .ok (.iload_n 3, 1) := by decide +kernel
theorem dX12_isKeen_40 : decode cX12_isKeen 40 = .ok (.iconst 2, 1) := by decide +kernel
theorem dX12_isKeen_41 : decode cX12_isKeen 41 = .ok (.iadd, 1) := by decide +kernel
theorem dX12_isKeen_42 : decode cX12_isKeen 42 = .ok (.invokevirtual 408, 3) := by decide +kernel
theorem dX12_isKeen_45 : decode cX12_isKeen 45 = .ok (.iconst 1, 1) := by decide +kernel
theorem dX12_isKeen_46 : decode cX12_isKeen 46 = .ok (.if_icmp .ne 7, 3) := by decide +kernel
theorem dX12_isKeen_49 : decode cX12_isKeen 49 = .ok (.iconst 1, 1) := by decide +kernel
theorem dX12_isKeen_50 : decode cX12_isKeen 50 = .ok (.goto 4, 3) := by decide +kernel
theorem dX12_isKeen_53 : decode cX12_isKeen 53 = .ok (.iconst 0, 1) := by decide +kernel
theorem dX12_isKeen_54 : decode cX12_isKeen 54 = .ok (.if_icmp .ne 7, 3) := by decide +kernel
theorem dX12_isKeen_57 : decode cX12_isKeen 57 = .ok (.iconst 1, 1) := by decide +kernel
theorem dX12_isKeen_58 : decode cX12_isKeen 58 = .ok (.goto 4, 3) := by decide +kernel
theorem dX12_isKeen_61 : decode cX12_isKeen 61 = .ok (.iconst 0, 1) := by decide +kernel
theorem dX12_isKeen_62 : decode cX12_isKeen 62 = .ok (.istore_n 2, 1) := by decide +kernel
theorem dX12_isKeen_63 : decode cX12_isKeen 63 = .ok (.iinc 3 3, 3) := by decide +kernel
theorem dX12_isKeen_66 : decode cX12_isKeen 66 = .ok (.goto (-62), 3) := by decide +kernel
theorem dX12_isKeen_69 : decode cX12_isKeen 69 = .ok (.iload_n 2, 1) := by decide +kernel
theorem dX12_isKeen_70 : decode cX12_isKeen 70 = .ok (.ireturn, 1) := by decide +kernel
theorem dX12_keen_0 : decode cX12_keen 0 = .ok (.aload_n 0, 1) := by decide +kernel
theorem dX12_keen_1 : decode cX12_keen 1 = .ok (.iconst 0, 1) := by decide +kernel
theorem dX12_keen_2 : decode cX12_keen 2 = .ok (.putfield 1, 3) := by decide +kernel
theorem dX12_keen_5 : decode cX12_keen 5 = .ok (.aload_n 0, 1) := by decide +kernel
theorem dX12_keen_6 : decode cX12_keen 6 = .ok (.sipush 940, 3) := by decide +kernel
theorem dX12_keen_9 : decode cX12_keen 9 = .ok (.invokevirtual 295, 3) := by decide +kernel
theorem dX12_keen_12 : decode cX12_keen 12 = .ok (.aload_n 0, 1) := by decide +kernel
theorem dX12_keen_13 : decode cX12_keen 13 = .ok (.getfield 18, 3) := by decide +kernel
theorem dX12_keen_16 : decode cX12_keen 16 = .ok (.iconst 3, 1) := by decide +kernel
theorem dX12_keen_17 : decode cX12_keen 17 = .ok (.bipush 18, 2) := by decide +kernel
theorem dX12_keen_19 : decode cX12_keen 19 = .ok (.invokestatic 223, 3) := by decide +kernel
theorem dX12_keen_22 : decode cX12_keen 22 = .ok (.ifCond .eq 12, 3) := by decide +kernel
theorem dX12_keen_25 : decode cX12_keen 25 = .ok (.aload_n 0, 1) := by decide +kernel
theorem dX12_keen_26 : decode cX12_keen 26 = .ok (.getfield 18, 3) := by decide +kernel
theorem dX12_keen_29 : decode cX12_keen 29 = .ok (.iconst 3, 1) := by decide +kernel
theorem dX12_keen_30 : decode cX12_keen 30 = .ok (.irem, 1) := by decide +kernel
theorem dX12_keen_31 : decode cX12_keen 31 = .ok (.ifCond .eq 5, 3) := by decide +kernel
theorem dX12_keen_34 : decode cX12_keen 34 = .ok (.iconst (-1), 1) := by decide +kernel
theorem dX12_keen_35 : decode cX12_keen 35 = .ok (.ireturn, 1) := by decide +kernel
theorem dX12_keen_36 : decode cX12_keen 36 = .ok (.iconst 0, 1) := by decide +kernel
theorem dX12_keen_37 : decode cX12_keen 37 = .ok (.istore_n 1, 1) := by decide +kernel
theorem dX12_keen_38 : decode cX12_keen 38 = .ok (.iload_n 1, 1) := by decide +kernel
theorem dX12_keen_39 : decode cX12_keen 39 = .ok (.aload_n 0, 1) := by decide +kernel
theorem dX12_keen_40 : decode cX12_keen 40 = .ok (.getfield 18, 3) := by decide +kernel
theorem dX12_keen_43 : decode cX12_keen 43 = .ok (.if_icmp .ge 22, 3) := by decide +kernel
theorem dX12_keen_46 : decode cX12_keen 46 = .ok (.aload_n 0, 1) := by decide +kernel
theorem dX12_keen_47 : decode cX12_keen 47 = .ok (.iload_n 1, 1) := by decide +kernel
theorem dX12_keen_48 : decode cX12_keen 48 = .ok (.iconst 2, 1) := by decide +kernel
theorem dX12_keen_49 : decode cX12_keen 49 = .ok (.iadd, 1) := by decide +kernel
theorem dX12_keen_50 : decode cX12_keen 50 = .ok (.invokevirtual 408, 3) := by decide +kernel
theorem dX12_keen_53 : decode cX12_keen 53 = .ok (.iconst 1, 1) := by decide +kernel
theorem dX12_keen_54 : decode cX12_keen 54 = .ok (.if_icmp .le 5, 3) := by decide +kernel
theorem dX12_keen_57 : decode cX12_keen 57 = .ok (.iconst (-1), 1) := by decide +kernel
theorem dX12_keen_58 : decode cX12_keen 58 = .ok (.ireturn, 1) := by decide +kernel
theorem dX12_keen_59 : decode cX12_keen 59 = .ok (.iinc 1 3, 3) := by decide +kernel
theorem dX12_keen_62 : decode cX12_keen 62 = .ok (.goto (-24), 3) := by decide +kernel
theorem dX12_keen_65 : decode cX12_keen 65 = .ok (.iconst 0, 1) := by decide +kernel
theorem dX12_keen_66 : decode cX12_keen 66 = .ok (.istore_n 1, 1) := by decide +kernel
theorem dX12_keen_67 : decode cX12_keen 67 = .ok (.iconst (-1), 1) := by decide +kernel
theorem dX12_keen_68 : decode cX12_keen 68 = .ok (.istore_n 2, 1) := by decide +kernel
theorem dX12_keen_69 : decode cX12_keen 69 = .ok (.iconst (-1), 1) := by decide +kernel
theorem dX12_keen_70 : decode cX12_keen 70 = .ok (.istore_n 3, 1) := by decide +kernel
theorem dX12_keen_71 : decode cX12_keen 71 = .ok (.iconst 1, 1) := by decide +kernel
theorem dX12_keen_72 : decode cX12_keen 72 = .ok (.istore 4, 2) := by decide +kernel
theorem dX12_keen_74 : decode cX12_keen 74 = .ok (.iload 4, 2) := by decide +kernel
theorem dX12_keen_76 : decode cX12_keen 76 = .ok (.bipush 20, 2) := by decide +kernel
theorem dX12_keen_78 : decode cX12_keen 78 = .ok (.if_icmp .gt 38, 3) := by decide +kernel
theorem dX12_keen_81 : decode cX12_keen 81 = .ok (.aload_n 0, 1) := by decide +kernel
theorem dX12_keen_82 : decode cX12_keen 82 = .ok (.iload 4, 2) := by decide +kernel
theorem dX12_keen_84 : decode cX12_keen 84 = .ok (.invokevirtual 424, 3) := by decide +kernel
theorem dX12_keen_87 : decode cX12_keen 87 = .ok (.ifCond .ne 6, 3) := by decide +kernel
theorem dX12_keen_90 : decode cX12_keen 90 = .ok (.goto 20, 3) := by decide +kernel
theorem dX12_keen_93 : decode cX12_keen 93 = .ok (.iload_n 1, 1) := by decide +kernel
theorem dX12_keen_94 : decode cX12_keen 94 = .ok (.ifCond .ne 8, 3) := by decide +kernel
theorem dX12_keen_97 : decode cX12_keen 97 = .ok (.iload 4, 2) := by decide +kernel
theorem dX12_keen_99 : decode cX12_keen 99 = .ok (.goto 4, 3) := by decide +kernel
theorem dX12_keen_102 : decode cX12_keen 102 = .ok (.iload_n 2, 1) := by decide +kernel
theorem dX12_keen_103 : decode cX12_keen 103 = .ok (.istore_n 2, 1) := by decide +kernel
theorem dX12_keen_104 : decode cX12_keen 104 = .ok (.iload 4, 2) := by decide +kernel
theorem dX12_keen_106 : decode cX12_keen 106 = .ok (.istore_n 3, 1) := by decide +kernel
theorem dX12_keen_107 : decode cX12_keen 107 = .ok (.iinc 1 1, 3) := by decide +kernel
theorem dX12_keen_110 : decode cX12_keen 110 = .ok (.iinc 4 1, 3) := by decide +kernel
theorem dX12_keen_113 : decode cX12_keen 113 = .ok (.goto (-39), 3) := by decide +kernel
theorem dX12_keen_116 : decode cX12_keen 116 = .ok (.iload_n 1, 1) := by decide +kernel
theorem dX12_keen_117 : decode cX12_keen 117 = .ok (.ifCond .ne 5, 3) := by decide +kernel
theorem dX12_keen_120 : decode cX12_keen 120 = .ok (.iconst 0, 1) := by decide +kernel
theorem dX12_keen_121 : decode cX12_keen 121 = .ok (.ireturn, 1) := by decide +kernel
theorem dX12_keen_122 : decode cX12_keen 122 = .ok (.aload_n 0, 1) := by decide +kernel
theorem dX12_keen_123 : decode cX12_keen 123 = .ok (.iconst 1, 1) := by decide +kernel
theorem dX12_keen_124 : decode cX12_keen 124 = .ok (.putfield 427, 3) := by decide +kernel
theorem dX12_keen_127 : decode cX12_keen 127 = .ok (.aload_n 0, 1) := by decide +kernel
theorem dX12_keen_128 : decode cX12_keen 128 = .ok (.iload_n 2, 1) := by decide +kernel
theorem dX12_keen_129 : decode cX12_keen 129 = .ok (.putfield 430, 3) := by decide +kernel
theorem dX12_keen_132 : decode cX12_keen 132 = .ok (.aload_n 0, 1) := by decide +kernel
theorem dX12_keen_133 : decode cX12_keen 133 = .ok (.iload_n 3, 1) := by decide +kernel
theorem dX12_keen_134 : decode cX12_keen 134 = .ok (.putfield 433, 3) := by decide +kernel
theorem dX12_keen_137 : decode cX12_keen 137 = .ok (.iload_n 1, 1) := by decide +kernel
theorem dX12_keen_138 : decode cX12_keen 138 = .ok (.ireturn, 1) := by decide +kernel
theorem dX12_keenLeast_0 : decode cX12_keenLeast 0 = .ok (.aload_n 0, 1) := by decide +kernel
theorem dX12_keenLeast_1 : decode cX12_keenLeast 1 = .ok (.iconst 0, 1) := by decide +kernel
theorem dX12_keenLeast_2 : decode cX12_keenLeast 2 = .ok (.putfield 1, 3) := by decide +kernel
theorem dX12_keenLeast_5 : decode cX12_keenLeast 5 = .ok (.aload_n 0, 1) := by decide +kernel
theorem dX12_keenLeast_6 : decode cX12_keenLeast 6 = .ok (.getfield 427, 3) := by decide +kernel
theorem dX12_keenLeast_9 : decode cX12_keenLeast 9 = .ok (.ifCond .eq 10, 3) := by decide +kernel
theorem dX12_keenLeast_12 : decode cX12_keenLeast 12 = .ok (.aload_n 0, 1) := by decide +kernel
theorem dX12_keenLeast_13 : decode cX12_keenLeast 13 = .ok (.getfield 430, 3) := by decide +kernel
theorem dX12_keenLeast_16 : decode cX12_keenLeast 16 = .ok (.goto 4, 3) := by decide +kernel
theorem dX12_keenLeast_19 : decode cX12_keenLeast 19 = .ok (.iconst (-1), 1) := by decide +kernel
theorem dX12_keenLeast_20 : decode cX12_keenLeast 20 = .ok (.ireturn, 1) := by decide +kernel
theorem dX12_keenMost_0 : decode cX12_keenMost 0 = .ok (.aload_n 0, 1) := by decide +kernel
theorem dX12_keenMost_1 : decode cX12_keenMost 1 = .ok (.iconst 0, 1) := by decide +kernel
theorem dX12_keenMost_2 : decode cX12_keenMost 2 = .ok (.putfield 1, 3) := by decide +kernel
theorem dX12_keenMost_5 : decode cX12_keenMost 5 = .ok (.aload_n 0, 1) := by decide +kernel
theorem dX12_keenMost_6 : decode cX12_keenMost 6 = .ok (.getfield 427, 3) := by decide +kernel
theorem dX12_keenMost_9 : decode cX12_keenMost 9 = .ok (.ifCond .eq 10, 3) := by decide +kernel
theorem dX12_keenMost_12 : decode cX12_keenMost 12 = .ok (.aload_n 0, 1) := by decide +kernel
theorem dX12_keenMost_13 : decode cX12_keenMost 13 = .ok (.getfield 433, 3) := by decide +kernel
theorem dX12_keenMost_16 : decode cX12_keenMost 16 = .ok (.goto 4, 3) := by decide +kernel
theorem dX12_keenMost_19 : decode cX12_keenMost 19 = .ok (.iconst (-1), 1) := by decide +kernel
theorem dX12_keenMost_20 : decode cX12_keenMost 20 = .ok (.ireturn, 1) := by decide +kernel
theorem dX12_laysWorths_0 : decode cX12_laysWorths 0 = .ok (.aload_n 0, 1) := by decide +kernel
theorem dX12_laysWorths_1 : decode cX12_laysWorths 1 = .ok (.invokevirtual 402, 3) := by decide +kernel
theorem dX12_laysWorths_4 : decode cX12_laysWorths 4 = .ok (.aload_n 0, 1) := by decide +kernel
theorem dX12_laysWorths_5 : decode cX12_laysWorths 5 = .ok (.getfield 33, 3) := by decide +kernel
theorem dX12_laysWorths_8 : decode cX12_laysWorths 8 = .ok (.bipush 100, 2) := by decide +kernel
theorem dX12_laysWorths_10 : decode cX12_laysWorths 10 = .ok (.iconst 0, 1) := by decide +kernel
theorem dX12_laysWorths_11 : decode cX12_laysWorths 11 = .ok (.iastore, 1) := by decide +kernel
theorem dX12_laysWorths_12 : decode cX12_laysWorths 12 = .ok (.iconst 0, 1) := by decide +kernel
theorem dX12_laysWorths_13 : decode cX12_laysWorths 13 = .ok (.istore_n 1, 1) := by decide +kernel
theorem dX12_laysWorths_14 : decode cX12_laysWorths 14 = .ok (.iload_n 1, 1) := by decide +kernel
theorem dX12_laysWorths_15 : decode cX12_laysWorths 15 = .ok (.bipush 36, 2) := by decide +kernel
theorem dX12_laysWorths_17 : decode cX12_laysWorths 17 = .ok (.if_icmp .ge 16, 3) := by decide +kernel
theorem dX12_laysWorths_20 : decode cX12_laysWorths 20 = .ok (.aload_n 0, 1) := by decide +kernel
theorem dX12_laysWorths_21 : decode cX12_laysWorths 21 = .ok (.getfield 68, 3) := by decide +kernel
theorem dX12_laysWorths_24 : decode cX12_laysWorths 24 = .ok (.iload_n 1, 1) := by decide +kernel
theorem dX12_laysWorths_25 : decode cX12_laysWorths 25 = .ok (.iconst 0, 1) := by decide +kernel
theorem dX12_laysWorths_26 : decode cX12_laysWorths 26 = .ok (.iastore, 1) := by decide +kernel
theorem dX12_laysWorths_27 : decode cX12_laysWorths 27 = .ok (.iinc 1 1, 3) := by decide +kernel
theorem dX12_laysWorths_30 : decode cX12_laysWorths 30 = .ok (.goto (-16), 3) := by decide +kernel
theorem dX12_laysWorths_33 : decode cX12_laysWorths 33 = .ok (.iconst 0, 1) := by decide +kernel
theorem dX12_laysWorths_34 : decode cX12_laysWorths 34 = .ok (.istore_n 1, 1) := by decide +kernel
theorem dX12_laysWorths_35 : decode cX12_laysWorths 35 = .ok (.iload_n 1, 1) := by decide +kernel
theorem dX12_laysWorths_36 : decode cX12_laysWorths 36 = .ok (.bipush 24, 2) := by decide +kernel
theorem dX12_laysWorths_38 : decode cX12_laysWorths 38 = .ok (.if_icmp .ge 112, 3) := by decide +kernel
theorem dX12_laysWorths_41 : decode cX12_laysWorths 41 = .ok (.iconst 0, 1) := by decide +kernel
theorem dX12_laysWorths_42 : decode cX12_laysWorths 42 = .ok (.istore_n 2, 1) := by decide +kernel
theorem dX12_laysWorths_43 : decode cX12_laysWorths 43 = .ok (.iload_n 2, 1) := by decide +kernel
theorem dX12_laysWorths_44 : decode cX12_laysWorths 44 = .ok (.aload_n 0, 1) := by decide +kernel
theorem dX12_laysWorths_45 : decode cX12_laysWorths 45 = .ok (.getfield 33, 3) := by decide +kernel
theorem dX12_laysWorths_48 : decode cX12_laysWorths 48 = .ok (.iconst 1, 1) := by decide +kernel
theorem dX12_laysWorths_49 : decode cX12_laysWorths 49 = .ok (.iaload, 1) := by decide +kernel
theorem dX12_laysWorths_50 : decode cX12_laysWorths 50 = .ok (.if_icmp .ge 83, 3) := by decide +kernel
theorem dX12_laysWorths_53 : decode cX12_laysWorths 53 = .ok (.iconst 0, 1) := by decide +kernel
theorem dX12_laysWorths_54 : decode cX12_laysWorths 54 = .ok (.istore_n 3, 1) := by decide +kernel
theorem dX12_laysWorths_55 : decode cX12_laysWorths 55 = .ok (.iload_n 3, 1) := by decide +kernel
theorem dX12_laysWorths_56 : decode cX12_laysWorths 56 = .ok (.aload_n 0, 1) := by decide +kernel
theorem dX12_laysWorths_57 : decode cX12_laysWorths 57 = .ok (.getfield 33, 3) := by decide +kernel
theorem dX12_laysWorths_60 : decode cX12_laysWorths 60 = .ok (.iconst 0, 1) := by decide +kernel
theorem dX12_laysWorths_61 : decode cX12_laysWorths 61 = .ok (.iaload, 1) := by decide +kernel
theorem dX12_laysWorths_62 : decode cX12_laysWorths 62 = .ok (.if_icmp .ge 65, 3) := by decide +kernel
theorem dX12_laysWorths_65 : decode cX12_laysWorths 65 = .ok (.aload_n 0, 1) := by decide +kernel
theorem dX12_laysWorths_66 : decode cX12_laysWorths 66 = .ok (.iload_n 2, 1) := by decide +kernel
theorem dX12_laysWorths_67 : decode cX12_laysWorths 67 = .ok (.iload_n 3, 1) := by decide +kernel
theorem dX12_laysWorths_68 : decode cX12_laysWorths 68 = .ok (.invokevirtual 352, 3) := by decide +kernel
theorem dX12_laysWorths_71 : decode cX12_laysWorths 71 = .ok (.istore 4, 2) := by decide +kernel
theorem dX12_laysWorths_73 : decode cX12_laysWorths 73 = .ok (.aload_n 0, 1) := by decide +kernel
theorem dX12_laysWorths_74 : decode cX12_laysWorths 74 = .ok (.getfield 68, 3) := by decide +kernel
theorem dX12_laysWorths_77 : decode cX12_laysWorths 77 = .ok (.bipush 6, 2) := by decide +kernel
theorem dX12_laysWorths_79 : decode cX12_laysWorths 79 = .ok (.iload_n 2, 1) := by decide +kernel
theorem dX12_laysWorths_80 : decode cX12_laysWorths 80 = .ok (.imul, 1) := by decide +kernel
theorem dX12_laysWorths_81 : decode cX12_laysWorths 81 = .ok (.iload_n 3, 1) := by decide +kernel
theorem dX12_laysWorths_82 : decode cX12_laysWorths 82 = .ok (.iadd, 1) := by decide +kernel
theorem dX12_laysWorths_83 : decode cX12_laysWorths 83 = .ok (.dup2, 1) := by decide +kernel
theorem dX12_laysWorths_84 : decode cX12_laysWorths 84 = .ok (.iaload, 1) := by decide +kernel
theorem dX12_laysWorths_85 : decode cX12_laysWorths 85 = .ok (.iload 4, 2) := by decide +kernel
theorem dX12_laysWorths_87 : decode cX12_laysWorths 87 = .ok (.ifCond .lt 31, 3) := by decide +kernel
theorem dX12_laysWorths_90 : decode cX12_laysWorths 90 = .ok (.aload_n 0, 1) := by decide +kernel
theorem dX12_laysWorths_91 : decode cX12_laysWorths 91 = .ok (.getfield 33, 3) := by decide +kernel
theorem dX12_laysWorths_94 : decode cX12_laysWorths 94 = .ok (.bipush 49, 2) := by decide +kernel
theorem dX12_laysWorths_96 : decode cX12_laysWorths 96 = .ok (.iload 4, 2) := by decide +kernel
theorem dX12_laysWorths_98 : decode cX12_laysWorths 98 = .ok (.iadd, 1) := by decide +kernel
theorem dX12_laysWorths_99 : decode cX12_laysWorths 99 = .ok (.iaload, 1) := by decide +kernel
theorem dX12_laysWorths_100 : decode cX12_laysWorths 100 = .ok (.aload_n 0, 1) := by decide +kernel
theorem dX12_laysWorths_101 : decode cX12_laysWorths 101 = .ok (.getfield 33, 3) := by decide +kernel
theorem dX12_laysWorths_104 : decode cX12_laysWorths 104 = .ok (.bipush 19, 2) := by decide +kernel
theorem dX12_laysWorths_106 : decode cX12_laysWorths 106 = .ok (.iload_n 3, 1) := by decide +kernel
theorem dX12_laysWorths_107 : decode cX12_laysWorths 107 = .ok (.iadd, 1) := by decide +kernel
theorem dX12_laysWorths_108 : decode cX12_laysWorths 108 = .ok (.iaload, 1) := by decide +kernel
theorem dX12_laysWorths_109 : decode cX12_laysWorths 109 = .ok (.iconst 1, 1) := by decide +kernel
theorem dX12_laysWorths_110 : decode cX12_laysWorths 110 = .ok (.isub, 1) := by decide +kernel
theorem dX12_laysWorths_111 : decode cX12_laysWorths 111 = .ok (.if_icmp .ne 7, 3) := by decide +kernel
theorem dX12_laysWorths_114 : decode cX12_laysWorths 114 = .ok (.iconst 1, 1) := by decide +kernel
theorem dX12_laysWorths_115 : decode cX12_laysWorths 115 = .ok (.goto 4, 3) := by decide +kernel
theorem dX12_laysWorths_118 : decode cX12_laysWorths 118 = .ok (.iconst 0, 1) := by decide +kernel
theorem dX12_laysWorths_119 : decode cX12_laysWorths 119 = .ok (.iadd, 1) := by decide +kernel
theorem dX12_laysWorths_120 : decode cX12_laysWorths 120 = .ok (.iastore, 1) := by decide +kernel
theorem dX12_laysWorths_121 : decode cX12_laysWorths 121 = .ok (.iinc 3 1, 3) := by decide +kernel
theorem dX12_laysWorths_124 : decode cX12_laysWorths 124 = .ok (.goto (-69), 3) := by decide +kernel
theorem dX12_laysWorths_127 : decode cX12_laysWorths 127 = .ok (.iinc 2 1, 3) := by decide +kernel
theorem dX12_laysWorths_130 : decode cX12_laysWorths 130 = .ok (.goto (-87), 3) := by decide +kernel
theorem dX12_laysWorths_133 : decode cX12_laysWorths 133 = .ok (.aload_n 0, 1) := by decide +kernel
theorem dX12_laysWorths_134 : decode cX12_laysWorths 134 = .ok (.getfield 33, 3) := by decide +kernel
theorem dX12_laysWorths_137 : decode cX12_laysWorths 137 = .ok (.bipush 97, 2) := by decide +kernel
theorem dX12_laysWorths_139 : decode cX12_laysWorths 139 = .ok (.dup2, 1) := by decide +kernel
theorem dX12_laysWorths_140 : decode cX12_laysWorths 140 = .ok (.iaload, 1) := by decide +kernel
theorem dX12_laysWorths_141 : decode cX12_laysWorths 141 = .ok (.iconst 1, 1) := by decide +kernel
theorem dX12_laysWorths_142 : decode cX12_laysWorths 142 = .ok (.iadd, 1) := by decide +kernel
theorem dX12_laysWorths_143 : decode cX12_laysWorths 143 = .ok (.iastore, 1) := by decide +kernel
theorem dX12_laysWorths_144 : decode cX12_laysWorths 144 = .ok (.iinc 1 1, 3) := by decide +kernel
theorem dX12_laysWorths_147 : decode cX12_laysWorths 147 = .ok (.goto (-112), 3) := by decide +kernel
theorem dX12_laysWorths_150 : decode cX12_laysWorths 150 = .ok (.aload_n 0, 1) := by decide +kernel
theorem dX12_laysWorths_151 : decode cX12_laysWorths 151 = .ok (.invokevirtual 405, 3) := by decide +kernel
theorem dX12_laysWorths_154 : decode cX12_laysWorths 154 = .ok (.return_, 1) := by decide +kernel
theorem dX12_restBy_0 : decode cX12_restBy 0 = .ok (.aload_n 0, 1) := by decide +kernel
theorem dX12_restBy_1 : decode cX12_restBy 1 = .ok (.getfield 68, 3) := by decide +kernel
theorem dX12_restBy_4 : decode cX12_restBy 4 = .ok (.bipush 6, 2) := by decide +kernel
theorem dX12_restBy_6 : decode cX12_restBy 6 = .ok (.iload_n 1, 1) := by decide +kernel
theorem dX12_restBy_7 : decode cX12_restBy 7 = .ok (.imul, 1) := by decide +kernel
theorem dX12_restBy_8 : decode cX12_restBy 8 = .ok (.iload_n 3, 1) := by decide +kernel
theorem dX12_restBy_9 : decode cX12_restBy 9 = .ok (.iadd, 1) := by decide +kernel
theorem dX12_restBy_10 : decode cX12_restBy 10 = .ok (.iaload, 1) := by decide +kernel
theorem dX12_restBy_11 : decode cX12_restBy 11 = .ok (.aload_n 0, 1) := by decide +kernel
theorem dX12_restBy_12 : decode cX12_restBy 12 = .ok (.getfield 71, 3) := by decide +kernel
theorem dX12_restBy_15 : decode cX12_restBy 15 = .ok (.bipush 64, 2) := by decide +kernel
theorem dX12_restBy_17 : decode cX12_restBy 17 = .ok (.iload_n 1, 1) := by decide +kernel
theorem dX12_restBy_18 : decode cX12_restBy 18 = .ok (.iconst 1, 1) := by decide +kernel
theorem dX12_restBy_19 : decode cX12_restBy 19 = .ok (.iadd, 1) := by decide +kernel
theorem dX12_restBy_20 : decode cX12_restBy 20 = .ok (.imul, 1) := by decide +kernel
theorem dX12_restBy_21 : decode cX12_restBy 21 = .ok (.iload_n 2, 1) := by decide +kernel
theorem dX12_restBy_22 : decode cX12_restBy 22 = .ok (.iconst 1, 1) := by decide +kernel
theorem dX12_restBy_23 : decode cX12_restBy 23 = .ok (.iload_n 3, 1) := by decide +kernel
theorem dX12_restBy_24 : decode cX12_restBy 24 = .ok (.ishl, 1) := by decide +kernel
theorem dX12_restBy_25 : decode cX12_restBy 25 = .ok (.ior, 1) := by decide +kernel
theorem dX12_restBy_26 : decode cX12_restBy 26 = .ok (.iadd, 1) := by decide +kernel
theorem dX12_restBy_27 : decode cX12_restBy 27 = .ok (.iaload, 1) := by decide +kernel
theorem dX12_restBy_28 : decode cX12_restBy 28 = .ok (.iadd, 1) := by decide +kernel
theorem dX12_restBy_29 : decode cX12_restBy 29 = .ok (.ireturn, 1) := by decide +kernel
theorem dX12_best_0 : decode cX12_best 0 = .ok (.aload_n 0, 1) := by decide +kernel
theorem dX12_best_1 : decode cX12_best 1 = .ok (.iconst 0, 1) := by decide +kernel
theorem dX12_best_2 : decode cX12_best 2 = .ok (.putfield 1, 3) := by decide +kernel
theorem dX12_best_5 : decode cX12_best 5 = .ok (.aload_n 0, 1) := by decide +kernel
theorem dX12_best_6 : decode cX12_best 6 = .ok (.invokevirtual 436, 3) := by decide +kernel
theorem dX12_best_9 : decode cX12_best 9 = .ok (.iconst 0, 1) := by decide +kernel
theorem dX12_best_10 : decode cX12_best 10 = .ok (.istore_n 1, 1) := by decide +kernel
theorem dX12_best_11 : decode cX12_best 11 = .ok (.iload_n 1, 1) := by decide +kernel
theorem dX12_best_12 : decode cX12_best 12 = .ok (.bipush 64, 2) := by decide +kernel
theorem dX12_best_14 : decode cX12_best 14 = .ok (.if_icmp .ge 26, 3) := by decide +kernel
theorem dX12_best_17 : decode cX12_best 17 = .ok (.aload_n 0, 1) := by decide +kernel
theorem dX12_best_18 : decode cX12_best 18 = .ok (.getfield 71, 3) := by decide +kernel
theorem dX12_best_21 : decode cX12_best 21 = .ok (.bipush 64, 2) := by decide +kernel
theorem dX12_best_23 : decode cX12_best 23 = .ok (.aload_n 0, 1) := by decide +kernel
theorem dX12_best_24 : decode cX12_best 24 = .ok (.getfield 33, 3) := by decide +kernel
theorem dX12_best_27 : decode cX12_best 27 = .ok (.iconst 1, 1) := by decide +kernel
theorem dX12_best_28 : decode cX12_best 28 = .ok (.iaload, 1) := by decide +kernel
theorem dX12_best_29 : decode cX12_best 29 = .ok (.imul, 1) := by decide +kernel
theorem dX12_best_30 : decode cX12_best 30 = .ok (.iload_n 1, 1) := by decide +kernel
theorem dX12_best_31 : decode cX12_best 31 = .ok (.iadd, 1) := by decide +kernel
theorem dX12_best_32 : decode cX12_best 32 = .ok (.iconst 0, 1) := by decide +kernel
theorem dX12_best_33 : decode cX12_best 33 = .ok (.iastore, 1) := by decide +kernel
theorem dX12_best_34 : decode cX12_best 34 = .ok (.iinc 1 1, 3) := by decide +kernel
theorem dX12_best_37 : decode cX12_best 37 = .ok (.goto (-26), 3) := by decide +kernel
theorem dX12_best_40 : decode cX12_best 40 = .ok (.aload_n 0, 1) := by decide +kernel
theorem dX12_best_41 : decode cX12_best 41 = .ok (.getfield 33, 3) := by decide +kernel
theorem dX12_best_44 : decode cX12_best 44 = .ok (.iconst 1, 1) := by decide +kernel
theorem dX12_best_45 : decode cX12_best 45 = .ok (.iaload, 1) := by decide +kernel
theorem dX12_best_46 : decode cX12_best 46 = .ok (.iconst 1, 1) := by decide +kernel
theorem dX12_best_47 : decode cX12_best 47 = .ok (.isub, 1) := by decide +kernel
theorem dX12_best_48 : decode cX12_best 48 = .ok (.istore_n 1, 1) := by decide +kernel
theorem dX12_best_49 : decode cX12_best 49 = .ok (.iload_n 1, 1) := by decide +kernel
theorem dX12_best_50 : decode cX12_best 50 = .ok (.ifCond .lt 81, 3) := by decide +kernel
theorem dX12_best_53 : decode cX12_best 53 = .ok (.iconst 0, 1) := by decide +kernel
theorem dX12_best_54 : decode cX12_best 54 = .ok (.istore_n 2, 1) := by decide +kernel
theorem dX12_best_55 : decode cX12_best 55 = .ok (.iload_n 2, 1) := by decide +kernel
theorem dX12_best_56 : decode cX12_best 56 = .ok (.bipush 64, 2) := by decide +kernel
theorem dX12_best_58 : decode cX12_best 58 = .ok (.if_icmp .ge 67, 3) := by decide +kernel
theorem dX12_best_61 : decode cX12_best 61 = .ok (.ldc_w 439, 3) := by decide +kernel
theorem dX12_best_64 : decode cX12_best 64 = .ok (.istore_n 3, 1) := by decide +kernel
theorem dX12_best_65 : decode cX12_best 65 = .ok (.iconst 0, 1) := by decide +kernel
theorem dX12_best_66 : decode cX12_best 66 = .ok (.istore 4, 2) := by decide +kernel
theorem dX12_best_68 : decode cX12_best 68 = .ok (.iload 4, 2) := by decide +kernel
theorem dX12_best_70 : decode cX12_best 70 = .ok (.aload_n 0, 1) := by decide +kernel
theorem dX12_best_71 : decode cX12_best 71 = .ok (.getfield 33, 3) := by decide +kernel
theorem dX12_best_74 : decode cX12_best 74 = .ok (.iconst 0, 1) := by decide +kernel
theorem dX12_best_75 : decode cX12_best 75 = .ok (.iaload, 1) := by decide +kernel
theorem dX12_best_76 : decode cX12_best 76 = .ok (.if_icmp .ge 31, 3) := by decide +kernel
theorem dX12_best_79 : decode cX12_best 79 = .ok (.iload_n 2, 1) := by decide +kernel
theorem dX12_best_80 : decode cX12_best 80 = .ok (.iload 4, 2) := by decide +kernel
theorem dX12_best_82 : decode cX12_best 82 = .ok (.invokestatic 292, 3) := by decide +kernel
theorem dX12_best_85 : decode cX12_best 85 = .ok (.ifCond .ne 16, 3) := by decide +kernel
theorem dX12_best_88 : decode cX12_best 88 = .ok (.iload_n 3, 1) := by decide +kernel
theorem dX12_best_89 : decode cX12_best 89 = .ok (.aload_n 0, 1) := by decide +kernel
theorem dX12_best_90 : decode cX12_best 90 = .ok (.iload_n 1, 1) := by decide +kernel
theorem dX12_best_91 : decode cX12_best 91 = .ok (.iload_n 2, 1) := by decide +kernel
theorem dX12_best_92 : decode cX12_best 92 = .ok (.iload 4, 2) := by decide +kernel
theorem dX12_best_94 : decode cX12_best 94 = .ok (.invokevirtual 440, 3) := by decide +kernel
theorem dX12_best_97 : decode cX12_best 97 = .ok (.invokestatic 415, 3) := by decide +kernel
theorem dX12_best_100 : decode cX12_best 100 = .ok (.istore_n 3, 1) := by decide +kernel
theorem dX12_best_101 : decode cX12_best 101 = .ok (.iinc 4 1, 3) := by decide +kernel
theorem dX12_best_104 : decode cX12_best 104 = .ok (.goto (-36), 3) := by decide +kernel
theorem dX12_best_107 : decode cX12_best 107 = .ok (.aload_n 0, 1) := by decide +kernel
theorem dX12_best_108 : decode cX12_best 108 = .ok (.getfield 71, 3) := by decide +kernel
theorem dX12_best_111 : decode cX12_best 111 = .ok (.bipush 64, 2) := by decide +kernel
theorem dX12_best_113 : decode cX12_best 113 = .ok (.iload_n 1, 1) := by decide +kernel
theorem dX12_best_114 : decode cX12_best 114 = .ok (.imul, 1) := by decide +kernel
theorem dX12_best_115 : decode cX12_best 115 = .ok (.iload_n 2, 1) := by decide +kernel
theorem dX12_best_116 : decode cX12_best 116 = .ok (.iadd, 1) := by decide +kernel
theorem dX12_best_117 : decode cX12_best 117 = .ok (.iload_n 3, 1) := by decide +kernel
theorem dX12_best_118 : decode cX12_best 118 = .ok (.iastore, 1) := by decide +kernel
theorem dX12_best_119 : decode cX12_best 119 = .ok (.iinc 2 1, 3) := by decide +kernel
theorem dX12_best_122 : decode cX12_best 122 = .ok (.goto (-67), 3) := by decide +kernel
theorem dX12_best_125 : decode cX12_best 125 = .ok (.iinc 1 (-1), 3) := by decide +kernel
theorem dX12_best_128 : decode cX12_best 128 = .ok (.goto (-79), 3) := by decide +kernel
theorem dX12_best_131 : decode cX12_best 131 = .ok (.iconst 0, 1) := by decide +kernel
theorem dX12_best_132 : decode cX12_best 132 = .ok (.istore_n 1, 1) := by decide +kernel
theorem dX12_best_133 : decode cX12_best 133 = .ok (.aload_n 0, 1) := by decide +kernel
theorem dX12_best_134 : decode cX12_best 134 = .ok (.aload_n 0, 1) := by decide +kernel
theorem dX12_best_135 : decode cX12_best 135 = .ok (.getfield 33, 3) := by decide +kernel
theorem dX12_best_138 : decode cX12_best 138 = .ok (.iconst 1, 1) := by decide +kernel
theorem dX12_best_139 : decode cX12_best 139 = .ok (.iaload, 1) := by decide +kernel
theorem dX12_best_140 : decode cX12_best 140 = .ok (.putfield 77, 3) := by decide +kernel
theorem dX12_best_143 : decode cX12_best 143 = .ok (.iconst 0, 1) := by decide +kernel
theorem dX12_best_144 : decode cX12_best 144 = .ok (.istore_n 2, 1) := by decide +kernel
theorem dX12_best_145 : decode cX12_best 145 = .ok (.iload_n 2, 1) := by decide +kernel
theorem dX12_best_146 : decode cX12_best 146 = .ok (.aload_n 0, 1) := by decide +kernel
theorem dX12_best_147 : decode cX12_best 147 = .ok (.getfield 77, 3) := by decide +kernel
theorem dX12_best_150 : decode cX12_best 150 = .ok (.if_icmp .ge 59, 3) := by decide +kernel
theorem dX12_best_153 : decode cX12_best 153 = .ok (.iconst 0, 1) := by decide +kernel
theorem dX12_best_154 : decode cX12_best 154 = .ok (.istore_n 3, 1) := by decide +kernel
theorem dX12_best_155 : decode cX12_best 155 = .ok (.iload_n 1, 1) := by decide +kernel
theorem dX12_best_156 : decode cX12_best 156 = .ok (.iload_n 3, 1) := by decide +kernel
theorem dX12_best_157 : decode cX12_best 157 = .ok (.invokestatic 292, 3) := by decide +kernel
theorem dX12_best_160 : decode cX12_best 160 = .ok (.ifCond .ne 24, 3) := by decide +kernel
theorem dX12_best_163 : decode cX12_best 163 = .ok (.aload_n 0, 1) := by decide +kernel
theorem dX12_best_164 : decode cX12_best 164 = .ok (.iload_n 2, 1) := by decide +kernel
theorem dX12_best_165 : decode cX12_best 165 = .ok (.iload_n 1, 1) := by decide +kernel
theorem dX12_best_166 : decode cX12_best 166 = .ok (.iload_n 3, 1) := by decide +kernel
theorem dX12_best_167 : decode cX12_best 167 = .ok (.invokevirtual 440, 3) := by decide +kernel
theorem dX12_best_170 : decode cX12_best 170 = .ok (.aload_n 0, 1) := by decide +kernel
theorem dX12_best_171 : decode cX12_best 171 = .ok (.getfield 71, 3) := by decide +kernel
theorem dX12_best_174 : decode cX12_best 174 = .ok (.bipush 64, 2) := by decide +kernel
theorem dX12_best_176 : decode cX12_best 176 = .ok (.iload_n 2, 1) := by decide +kernel
theorem dX12_best_177 : decode cX12_best 177 = .ok (.imul, 1) := by decide +kernel
theorem dX12_best_178 : decode cX12_best 178 = .ok (.iload_n 1, 1) := by decide +kernel
theorem dX12_best_179 : decode cX12_best 179 = .ok (.iadd, 1) := by decide +kernel
theorem dX12_best_180 : decode cX12_best 180 = .ok (.iaload, 1) := by decide +kernel
theorem dX12_best_181 : decode cX12_best 181 = .ok (.if_icmp .eq 9, 3) := by decide +kernel
theorem dX12_best_184 : decode cX12_best 184 = .ok (.iinc 3 1, 3) := by decide +kernel
theorem dX12_best_187 : decode cX12_best 187 = .ok (.goto (-32), 3) := by decide +kernel
theorem dX12_best_190 : decode cX12_best 190 = .ok (.aload_n 0, 1) := by decide +kernel
theorem dX12_best_191 : decode cX12_best 191 = .ok (.getfield 74, 3) := by decide +kernel
theorem dX12_best_194 : decode cX12_best 194 = .ok (.iload_n 2, 1) := by decide +kernel
theorem dX12_best_195 : decode cX12_best 195 = .ok (.iload_n 3, 1) := by decide +kernel
theorem dX12_best_196 : decode cX12_best 196 = .ok (.iastore, 1) := by decide +kernel
theorem dX12_best_197 : decode cX12_best 197 = .ok (.iload_n 1, 1) := by decide +kernel
theorem dX12_best_198 : decode cX12_best 198 = .ok (.iconst 1, 1) := by decide +kernel
theorem dX12_best_199 : decode cX12_best 199 = .ok (.iload_n 3, 1) := by decide +kernel
theorem dX12_best_200 : decode cX12_best 200 = .ok (.ishl, 1) := by decide +kernel
theorem dX12_best_201 : decode cX12_best 201 = .ok (.ior, 1) := by decide +kernel
theorem dX12_best_202 : decode cX12_best 202 = .ok (.istore_n 1, 1) := by decide +kernel
theorem dX12_best_203 : decode cX12_best 203 = .ok (.iinc 2 1, 3) := by decide +kernel
theorem dX12_best_206 : decode cX12_best 206 = .ok (.goto (-61), 3) := by decide +kernel
theorem dX12_best_209 : decode cX12_best 209 = .ok (.aload_n 0, 1) := by decide +kernel
theorem dX12_best_210 : decode cX12_best 210 = .ok (.getfield 71, 3) := by decide +kernel
theorem dX12_best_213 : decode cX12_best 213 = .ok (.iconst 0, 1) := by decide +kernel
theorem dX12_best_214 : decode cX12_best 214 = .ok (.iaload, 1) := by decide +kernel
theorem dX12_best_215 : decode cX12_best 215 = .ok (.ireturn, 1) := by decide +kernel
theorem dX12_bestAt_0 : decode cX12_bestAt 0 = .ok (.aload_n 0, 1) := by decide +kernel
theorem dX12_bestAt_1 : decode cX12_bestAt 1 = .ok (.iconst 0, 1) := by decide +kernel
theorem dX12_bestAt_2 : decode cX12_bestAt 2 = .ok (.putfield 1, 3) := by decide +kernel
theorem dX12_bestAt_5 : decode cX12_bestAt 5 = .ok (.iload_n 1, 1) := by decide +kernel
theorem dX12_bestAt_6 : decode cX12_bestAt 6 = .ok (.iconst 0, 1) := by decide +kernel
theorem dX12_bestAt_7 : decode cX12_bestAt 7 = .ok (.aload_n 0, 1) := by decide +kernel
theorem dX12_bestAt_8 : decode cX12_bestAt 8 = .ok (.getfield 77, 3) := by decide +kernel
theorem dX12_bestAt_11 : decode cX12_bestAt 11 = .ok (.iconst 1, 1) := by decide +kernel
theorem dX12_bestAt_12 : decode cX12_bestAt 12 = .ok (.isub, 1) := by decide +kernel
theorem dX12_bestAt_13 : decode cX12_bestAt 13 = .ok (.invokestatic 223, 3) := by decide +kernel
theorem dX12_bestAt_16 : decode cX12_bestAt 16 = .ok (.ifCond .eq 12, 3) := by decide +kernel
theorem dX12_bestAt_19 : decode cX12_bestAt 19 = .ok (.aload_n 0, 1) := by decide +kernel
theorem dX12_bestAt_20 : decode cX12_bestAt 20 = .ok (.getfield 74, 3) := by decide +kernel
theorem dX12_bestAt_23 : decode cX12_bestAt 23 = .ok (.iload_n 1, 1) := by decide +kernel
theorem dX12_bestAt_24 : decode cX12_bestAt 24 = .ok (.iaload, 1) := by decide +kernel
theorem dX12_bestAt_25 : decode cX12_bestAt 25 = .ok (.goto 4, 3) := by decide +kernel
theorem dX12_bestAt_28 : decode cX12_bestAt 28 = .ok (.iconst (-1), 1) := by decide +kernel
theorem dX12_bestAt_29 : decode cX12_bestAt 29 = .ok (.ireturn, 1) := by decide +kernel
theorem dX12_soundFor_0 : decode cX12_soundFor 0 = .ok (.aload_n 0, 1) := by decide +kernel
theorem dX12_soundFor_1 : decode cX12_soundFor 1 = .ok (.getfield 33, 3) := by decide +kernel
theorem dX12_soundFor_4 : decode cX12_soundFor 4 = .ok (.bipush 103, 2) := by decide +kernel
theorem dX12_soundFor_6 : decode cX12_soundFor 6 = .ok (.iload_n 1, 1) := by decide +kernel
theorem dX12_soundFor_7 : decode cX12_soundFor 7 = .ok (.iadd, 1) := by decide +kernel
theorem dX12_soundFor_8 : decode cX12_soundFor 8 = .ok (.iaload, 1) := by decide +kernel
theorem dX12_soundFor_9 : decode cX12_soundFor 9 = .ok (.istore_n 3, 1) := by decide +kernel
theorem dX12_soundFor_10 : decode cX12_soundFor 10 = .ok (.iconst 0, 1) := by decide +kernel
theorem dX12_soundFor_11 : decode cX12_soundFor 11 = .ok (.istore 4, 2) := by decide +kernel
theorem dX12_soundFor_13 : decode cX12_soundFor 13 = .ok (.iload 4, 2) := by decide +kernel
theorem dX12_soundFor_15 : decode cX12_soundFor 15 = .ok (.aload_n 0, 1) := by decide +kernel
theorem dX12_soundFor_16 : decode cX12_soundFor 16 = .ok (.getfield 33, 3) := by decide +kernel
theorem dX12_soundFor_19 : decode cX12_soundFor 19 = .ok (.iconst 2, 1) := by decide +kernel
theorem dX12_soundFor_20 : decode cX12_soundFor 20 = .ok (.iaload, 1) := by decide +kernel
theorem dX12_soundFor_21 : decode cX12_soundFor 21 = .ok (.if_icmp .ge 52, 3) := by decide +kernel
theorem dX12_soundFor_24 : decode cX12_soundFor 24 = .ok (.aload_n 0, 1) := by decide +kernel
theorem dX12_soundFor_25 : decode cX12_soundFor 25 = .ok (.iload_n 1, 1) := by decide +kernel
theorem dX12_soundFor_26 : decode cX12_soundFor 26 = .ok (.iload_n 3, 1) := by decide +kernel
theorem dX12_soundFor_27 : decode cX12_soundFor 27 = .ok (.iload 4, 2) := by decide +kernel
theorem dX12_soundFor_29 : decode cX12_soundFor 29 = .ok (.invokevirtual 343, 3) := by decide +kernel
theorem dX12_soundFor_32 : decode cX12_soundFor 32 = .ok (.ifCond .eq 35, 3) := by decide +kernel
theorem dX12_soundFor_35 : decode cX12_soundFor 35 = .ok (.aload_n 0, 1) := by decide +kernel
theorem dX12_soundFor_36 : decode cX12_soundFor 36 = .ok (.iload_n 3, 1) := by decide +kernel
theorem dX12_soundFor_37 : decode cX12_soundFor 37 = .ok (.aload_n 0, 1) := by decide +kernel
theorem dX12_soundFor_38 : decode cX12_soundFor 38 = .ok (.getfield 33, 3) := by decide +kernel
theorem dX12_soundFor_41 : decode cX12_soundFor 41 = .ok (.bipush 57, 2) := by decide +kernel
theorem dX12_soundFor_43 : decode cX12_soundFor 43 = .ok (.iload 4, 2) := by decide +kernel
theorem dX12_soundFor_45 : decode cX12_soundFor 45 = .ok (.iadd, 1) := by decide +kernel
theorem dX12_soundFor_46 : decode cX12_soundFor 46 = .ok (.iaload, 1) := by decide +kernel
theorem dX12_soundFor_47 : decode cX12_soundFor 47 = .ok (.aload_n 0, 1) := by decide +kernel
theorem dX12_soundFor_48 : decode cX12_soundFor 48 = .ok (.getfield 33, 3) := by decide +kernel
theorem dX12_soundFor_51 : decode cX12_soundFor 51 = .ok (.bipush 65, 2) := by decide +kernel
theorem dX12_soundFor_53 : decode cX12_soundFor 53 = .ok (.iload 4, 2) := by decide +kernel
theorem dX12_soundFor_55 : decode cX12_soundFor 55 = .ok (.iadd, 1) := by decide +kernel
theorem dX12_soundFor_56 : decode cX12_soundFor 56 = .ok (.iaload, 1) := by decide +kernel
theorem dX12_soundFor_57 : decode cX12_soundFor 57 = .ok (.invokevirtual 327, 3) := by decide +kernel
theorem dX12_soundFor_60 : decode cX12_soundFor 60 = .ok (.iload_n 2, 1) := by decide +kernel
theorem dX12_soundFor_61 : decode cX12_soundFor 61 = .ok (.if_icmp .ne 6, 3) := by decide +kernel
theorem dX12_soundFor_64 : decode cX12_soundFor 64 = .ok (.iload 4, 2) := by decide +kernel
theorem dX12_soundFor_66 : decode cX12_soundFor 66 = .ok (.ireturn, 1) := by decide +kernel
theorem dX12_soundFor_67 : decode cX12_soundFor 67 = .ok (.iinc 4 1, 3) := by decide +kernel
theorem dX12_soundFor_70 : decode cX12_soundFor 70 = .ok (.goto (-57), 3) := by decide +kernel
theorem dX12_soundFor_73 : decode cX12_soundFor 73 = .ok (.iconst (-1), 1) := by decide +kernel
theorem dX12_soundFor_74 : decode cX12_soundFor 74 = .ok (.ireturn, 1) := by decide +kernel
theorem dX12_code_0 : decode cX12_code 0 = .ok (.aload_n 0, 1) := by decide +kernel
theorem dX12_code_1 : decode cX12_code 1 = .ok (.iconst 0, 1) := by decide +kernel
theorem dX12_code_2 : decode cX12_code 2 = .ok (.putfield 1, 3) := by decide +kernel
theorem dX12_code_5 : decode cX12_code 5 = .ok (.aload_n 0, 1) := by decide +kernel
theorem dX12_code_6 : decode cX12_code 6 = .ok (.sipush 940, 3) := by decide +kernel
theorem dX12_code_9 : decode cX12_code 9 = .ok (.invokevirtual 295, 3) := by decide +kernel
theorem dX12_code_12 : decode cX12_code 12 = .ok (.aload_n 0, 1) := by decide +kernel
theorem dX12_code_13 : decode cX12_code 13 = .ok (.iload_n 1, 1) := by decide +kernel
theorem dX12_code_14 : decode cX12_code 14 = .ok (.invokevirtual 365, 3) := by decide +kernel
theorem dX12_code_17 : decode cX12_code 17 = .ok (.ifCond .eq 16, 3) := by decide +kernel
theorem dX12_code_20 : decode cX12_code 20 = .ok (.aload_n 0, 1) := by decide +kernel
theorem dX12_code_21 : decode cX12_code 21 = .ok (.getfield 18, 3) := by decide +kernel
theorem dX12_code_24 : decode cX12_code 24 = .ok (.iconst 1, 1) := by decide +kernel
theorem dX12_code_25 : decode cX12_code 25 = .ok (.bipush 8, 2) := by decide +kernel
theorem dX12_code_27 : decode cX12_code 27 = .ok (.invokestatic 223, 3) := by decide +kernel
theorem dX12_code_30 : decode cX12_code 30 = .ok (.ifCond .ne 5, 3) := by decide +kernel
theorem dX12_code_33 : decode cX12_code 33 = .ok (.iconst (-1), 1) := by decide +kernel
theorem dX12_code_34 : decode cX12_code 34 = .ok (.ireturn, 1) := by decide +kernel
theorem dX12_code_35 : decode cX12_code 35 = .ok (.iconst 0, 1) := by decide +kernel
theorem dX12_code_36 : decode cX12_code 36 = .ok (.istore_n 2, 1) := by decide +kernel
theorem dX12_code_37 : decode cX12_code 37 = .ok (.iload_n 2, 1) := by decide +kernel
theorem dX12_code_38 : decode cX12_code 38 = .ok (.aload_n 0, 1) := by decide +kernel
theorem dX12_code_39 : decode cX12_code 39 = .ok (.getfield 18, 3) := by decide +kernel
theorem dX12_code_42 : decode cX12_code 42 = .ok (.if_icmp .ge 20, 3) := by decide +kernel
theorem dX12_code_45 : decode cX12_code 45 = .ok (.aload_n 0, 1) := by decide +kernel
theorem dX12_code_46 : decode cX12_code 46 = .ok (.iload_n 2, 1) := by decide +kernel
theorem dX12_code_47 : decode cX12_code 47 = .ok (.invokevirtual 408, 3) := by decide +kernel
theorem dX12_code_50 : decode cX12_code 50 = .ok (.iconst 4, 1) := by decide +kernel
theorem dX12_code_51 : decode cX12_code 51 = .ok (.if_icmp .le 5, 3) := by decide +kernel
theorem dX12_code_54 : decode cX12_code 54 = .ok (.iconst (-1), 1) := by decide +kernel
theorem dX12_code_55 : decode cX12_code 55 = .ok (.ireturn, 1) := by decide +kernel
theorem dX12_code_56 : decode cX12_code 56 = .ok (.iinc 2 1, 3) := by decide +kernel
theorem dX12_code_59 : decode cX12_code 59 = .ok (.goto (-22), 3) := by decide +kernel
theorem dX12_code_62 : decode cX12_code 62 = .ok (.iconst 0, 1) := by decide +kernel
theorem dX12_code_63 : decode cX12_code 63 = .ok (.istore_n 2, 1) := by decide +kernel
theorem dX12_code_64 : decode cX12_code 64 = .ok (.iload_n 2, 1) := by decide +kernel
theorem dX12_code_65 : decode cX12_code 65 = .ok (.aload_n 0, 1) := by decide +kernel
theorem dX12_code_66 : decode cX12_code 66 = .ok (.getfield 18, 3) := by decide +kernel
theorem dX12_code_69 : decode cX12_code 69 = .ok (.if_icmp .ge 27, 3) := by decide +kernel
theorem dX12_code_72 : decode cX12_code 72 = .ok (.aload_n 0, 1) := by decide +kernel
theorem dX12_code_73 : decode cX12_code 73 = .ok (.iload_n 1, 1) := by decide +kernel
theorem dX12_code_74 : decode cX12_code 74 = .ok (.aload_n 0, 1) := by decide +kernel
theorem dX12_code_75 : decode cX12_code 75 = .ok (.iload_n 2, 1) := by decide +kernel
theorem dX12_code_76 : decode cX12_code 76 = .ok (.invokevirtual 408, 3) := by decide +kernel
theorem dX12_code_79 : decode cX12_code 79 = .ok (.invokevirtual 443, 3) := by decide +kernel
theorem dX12_code_82 : decode cX12_code 82 = .ok (.ifCond .ge 8, 3) := by decide +kernel
theorem dX12_code_85 : decode cX12_code 85 = .ok (.bipush (-2), 2) := by decide +kernel
theorem dX12_code_87 : decode cX12_code 87 = .ok (.iload_n 2, 1) := by decide +kernel
theorem dX12_code_88 : decode cX12_code 88 = .ok (.isub, 1) := by decide +kernel
theorem dX12_code_89 : decode cX12_code 89 = .ok (.ireturn, 1) := by decide +kernel
theorem dX12_code_90 : decode cX12_code 90 = .ok (.iinc 2 1, 3) := by decide +kernel
theorem dX12_code_93 : decode cX12_code 93 = .ok (.goto (-29), 3) := by decide +kernel
theorem dX12_code_96 : decode cX12_code 96 = .ok (.aload_n 0, 1) := by decide +kernel
theorem dX12_code_97 : decode cX12_code 97 = .ok (.aload_n 0, 1) := by decide +kernel
theorem dX12_code_98 : decode cX12_code 98 = .ok (.getfield 18, 3) := by decide +kernel
theorem dX12_code_101 : decode cX12_code 101 = .ok (.putfield 83, 3) := by decide +kernel
theorem dX12_code_104 : decode cX12_code 104 = .ok (.iconst 0, 1) := by decide +kernel
theorem dX12_code_105 : decode cX12_code 105 = .ok (.istore_n 2, 1) := by decide +kernel
theorem dX12_code_106 : decode cX12_code 106 = .ok (.iload_n 2, 1) := by decide +kernel
theorem dX12_code_107 : decode cX12_code 107 = .ok (.aload_n 0, 1) := by decide +kernel
theorem dX12_code_108 : decode cX12_code 108 = .ok (.getfield 18, 3) := by decide +kernel
theorem dX12_code_111 : decode cX12_code 111 = .ok (.if_icmp .ge 25, 3) := by decide +kernel
theorem dX12_code_114 : decode cX12_code 114 = .ok (.aload_n 0, 1) := by decide +kernel
theorem dX12_code_115 : decode cX12_code 115 = .ok (.getfield 80, 3) := by decide +kernel
theorem dX12_code_118 : decode cX12_code 118 = .ok (.iload_n 2, 1) := by decide +kernel
theorem dX12_code_119 : decode cX12_code 119 = .ok (.aload_n 0, 1) := by decide +kernel
theorem dX12_code_120 : decode cX12_code 120 = .ok (.iload_n 1, 1) := by decide +kernel
theorem dX12_code_121 : decode cX12_code 121 = .ok (.aload_n 0, 1) := by decide +kernel
theorem dX12_code_122 : decode cX12_code 122 = .ok (.iload_n 2, 1) := by decide +kernel
theorem dX12_code_123 : decode cX12_code 123 = .ok (.invokevirtual 408, 3) := by decide +kernel
theorem dX12_code_126 : decode cX12_code 126 = .ok (.invokevirtual 443, 3) := by decide +kernel
theorem dX12_code_129 : decode cX12_code 129 = .ok (.iastore, 1) := by decide +kernel
theorem dX12_code_130 : decode cX12_code 130 = .ok (.iinc 2 1, 3) := by decide +kernel
theorem dX12_code_133 : decode cX12_code 133 = .ok (.goto (-27), 3) := by decide +kernel
theorem dX12_code_136 : decode cX12_code 136 = .ok (.aload_n 0, 1) := by decide +kernel
theorem dX12_code_137 : decode cX12_code 137 = .ok (.getfield 83, 3) := by decide +kernel
theorem dX12_code_140 : decode cX12_code 140 = .ok (.ireturn, 1) := by decide +kernel
theorem dX12_codeAt_0 : decode cX12_codeAt 0 = .ok (.aload_n 0, 1) := by decide +kernel
theorem dX12_codeAt_1 : decode cX12_codeAt 1 = .ok (.iconst 0, 1) := by decide +kernel
theorem dX12_codeAt_2 : decode cX12_codeAt 2 = .ok (.putfield 1, 3) := by decide +kernel
theorem dX12_codeAt_5 : decode cX12_codeAt 5 = .ok (.iload_n 1, 1) := by decide +kernel
theorem dX12_codeAt_6 : decode cX12_codeAt 6 = .ok (.iconst 0, 1) := by decide +kernel
theorem dX12_codeAt_7 : decode cX12_codeAt 7 = .ok (.aload_n 0, 1) := by decide +kernel
theorem dX12_codeAt_8 : decode cX12_codeAt 8 = .ok (.getfield 83, 3) := by decide +kernel
theorem dX12_codeAt_11 : decode cX12_codeAt 11 = .ok (.iconst 1, 1) := by decide +kernel
theorem dX12_codeAt_12 : decode cX12_codeAt 12 = .ok (.isub, 1) := by decide +kernel
theorem dX12_codeAt_13 : decode cX12_codeAt 13 = .ok (.invokestatic 223, 3) := by decide +kernel
theorem dX12_codeAt_16 : decode cX12_codeAt 16 = .ok (.ifCond .eq 12, 3) := by decide +kernel
theorem dX12_codeAt_19 : decode cX12_codeAt 19 = .ok (.aload_n 0, 1) := by decide +kernel
theorem dX12_codeAt_20 : decode cX12_codeAt 20 = .ok (.getfield 80, 3) := by decide +kernel
theorem dX12_codeAt_23 : decode cX12_codeAt 23 = .ok (.iload_n 1, 1) := by decide +kernel
theorem dX12_codeAt_24 : decode cX12_codeAt 24 = .ok (.iaload, 1) := by decide +kernel
theorem dX12_codeAt_25 : decode cX12_codeAt 25 = .ok (.goto 4, 3) := by decide +kernel
theorem dX12_codeAt_28 : decode cX12_codeAt 28 = .ok (.iconst (-1), 1) := by decide +kernel
theorem dX12_codeAt_29 : decode cX12_codeAt 29 = .ok (.ireturn, 1) := by decide +kernel
theorem dX12_laysEnds_0 : decode cX12_laysEnds 0 = .ok (.aload_n 0, 1) := by decide +kernel
theorem dX12_laysEnds_1 : decode cX12_laysEnds 1 = .ok (.invokevirtual 402, 3) := by decide +kernel
theorem dX12_laysEnds_4 : decode cX12_laysEnds 4 = .ok (.iconst 0, 1) := by decide +kernel
theorem dX12_laysEnds_5 : decode cX12_laysEnds 5 = .ok (.istore_n 3, 1) := by decide +kernel
theorem dX12_laysEnds_6 : decode cX12_laysEnds 6 = .ok (.iload_n 3, 1) := by decide +kernel
theorem dX12_laysEnds_7 : decode cX12_laysEnds 7 = .ok (.iconst 1, 1) := by decide +kernel
theorem dX12_laysEnds_8 : decode cX12_laysEnds 8 = .ok (.aload_n 0, 1) := by decide +kernel
theorem dX12_laysEnds_9 : decode cX12_laysEnds 9 = .ok (.getfield 33, 3) := by decide +kernel
theorem dX12_laysEnds_12 : decode cX12_laysEnds 12 = .ok (.iconst 2, 1) := by decide +kernel
theorem dX12_laysEnds_13 : decode cX12_laysEnds 13 = .ok (.iaload, 1) := by decide +kernel
theorem dX12_laysEnds_14 : decode cX12_laysEnds 14 = .ok (.ishl, 1) := by decide +kernel
theorem dX12_laysEnds_15 : decode cX12_laysEnds 15 = .ok (.if_icmp .ge 53, 3) := by decide +kernel
theorem dX12_laysEnds_18 : decode cX12_laysEnds 18 = .ok (.aload_n 0, 1) := by decide +kernel
theorem dX12_laysEnds_19 : decode cX12_laysEnds 19 = .ok (.getfield 33, 3) := by decide +kernel
theorem dX12_laysEnds_22 : decode cX12_laysEnds 22 = .ok (.bipush 98, 2) := by decide +kernel
theorem dX12_laysEnds_24 : decode cX12_laysEnds 24 = .ok (.aload_n 0, 1) := by decide +kernel
theorem dX12_laysEnds_25 : decode cX12_laysEnds 25 = .ok (.getfield 53, 3) := by decide +kernel
theorem dX12_laysEnds_28 : decode cX12_laysEnds 28 = .ok (.iconst 1, 1) := by decide +kernel
theorem dX12_laysEnds_29 : decode cX12_laysEnds 29 = .ok (.iaload, 1) := by decide +kernel
theorem dX12_laysEnds_30 : decode cX12_laysEnds 30 = .ok (.iload_n 3, 1) := by decide +kernel
theorem dX12_laysEnds_31 : decode cX12_laysEnds 31 = .ok (.ior, 1) := by decide +kernel
theorem dX12_laysEnds_32 : decode cX12_laysEnds 32 = .ok (.iastore, 1) := by decide +kernel
theorem dX12_laysEnds_33 : decode cX12_laysEnds 33 = .ok (.aload_n 0, 1) := by decide +kernel
theorem dX12_laysEnds_34 : decode cX12_laysEnds 34 = .ok (.getfield 86, 3) := by decide +kernel
theorem dX12_laysEnds_37 : decode cX12_laysEnds 37 = .ok (.iload_n 3, 1) := by decide +kernel
theorem dX12_laysEnds_38 : decode cX12_laysEnds 38 = .ok (.aload_n 0, 1) := by decide +kernel
theorem dX12_laysEnds_39 : decode cX12_laysEnds 39 = .ok (.iload_n 1, 1) := by decide +kernel
theorem dX12_laysEnds_40 : decode cX12_laysEnds 40 = .ok (.aload_n 0, 1) := by decide +kernel
theorem dX12_laysEnds_41 : decode cX12_laysEnds 41 = .ok (.getfield 33, 3) := by decide +kernel
theorem dX12_laysEnds_44 : decode cX12_laysEnds 44 = .ok (.bipush 103, 2) := by decide +kernel
theorem dX12_laysEnds_46 : decode cX12_laysEnds 46 = .ok (.iload_n 1, 1) := by decide +kernel
theorem dX12_laysEnds_47 : decode cX12_laysEnds 47 = .ok (.iadd, 1) := by decide +kernel
theorem dX12_laysEnds_48 : decode cX12_laysEnds 48 = .ok (.iaload, 1) := by decide +kernel
theorem dX12_laysEnds_49 : decode cX12_laysEnds 49 = .ok (.invokevirtual 368, 3) := by decide +kernel
theorem dX12_laysEnds_52 : decode cX12_laysEnds 52 = .ok (.iload_n 2, 1) := by decide +kernel
theorem dX12_laysEnds_53 : decode cX12_laysEnds 53 = .ok (.if_icmp .ne 7, 3) := by decide +kernel
theorem dX12_laysEnds_56 : decode cX12_laysEnds 56 = .ok (.iconst 1, 1) := by decide +kernel
theorem dX12_laysEnds_57 : decode cX12_laysEnds 57 = .ok (.goto 4, 3) := by decide +kernel
theorem dX12_laysEnds_60 : decode cX12_laysEnds 60 = .ok (.iconst 0, 1) := by decide +kernel
theorem dX12_laysEnds_61 : decode cX12_laysEnds 61 = .ok (.bastore, 1) := by decide +kernel
theorem dX12_laysEnds_62 : decode cX12_laysEnds 62 = .ok (.iinc 3 1, 3) := by decide +kernel
theorem dX12_laysEnds_65 : decode cX12_laysEnds 65 = .ok (.goto (-59), 3) := by decide +kernel
theorem dX12_laysEnds_68 : decode cX12_laysEnds 68 = .ok (.aload_n 0, 1) := by decide +kernel
theorem dX12_laysEnds_69 : decode cX12_laysEnds 69 = .ok (.invokevirtual 405, 3) := by decide +kernel
theorem dX12_laysEnds_72 : decode cX12_laysEnds 72 = .ok (.return_, 1) := by decide +kernel
theorem dX12_laysMove_0 : decode cX12_laysMove 0 = .ok (.iconst 0, 1) := by decide +kernel
theorem dX12_laysMove_1 : decode cX12_laysMove 1 = .ok (.istore_n 2, 1) := by decide +kernel
theorem dX12_laysMove_2 : decode cX12_laysMove 2 = .ok (.iload_n 2, 1) := by decide +kernel
theorem dX12_laysMove_3 : decode cX12_laysMove 3 = .ok (.sipush 256, 3) := by decide +kernel
theorem dX12_laysMove_6 : decode cX12_laysMove 6 = .ok (.if_icmp .ge 21, 3) := by decide +kernel
theorem dX12_laysMove_9 : decode cX12_laysMove 9 = .ok (.aload_n 0, 1) := by decide +kernel
theorem dX12_laysMove_10 : decode cX12_laysMove 10 = .ok (.getfield 90, 3) := by decide +kernel
theorem dX12_laysMove_13 : decode cX12_laysMove 13 = .ok (.iload_n 2, 1) := by decide +kernel
theorem dX12_laysMove_14 : decode cX12_laysMove 14 = .ok (.aload_n 0, 1) := by decide +kernel
theorem dX12_laysMove_15 : decode cX12_laysMove 15 = .ok (.getfield 86, 3) := by decide +kernel
theorem dX12_laysMove_18 : decode cX12_laysMove 18 = .ok (.iload_n 2, 1) := by decide +kernel
theorem dX12_laysMove_19 : decode cX12_laysMove 19 = .ok (.baload, 1) := by decide +kernel
theorem dX12_laysMove_20 : decode cX12_laysMove 20 = .ok (.bastore, 1) := by decide +kernel
theorem dX12_laysMove_21 : decode cX12_laysMove 21 = .ok (.iinc 2 1, 3) := by decide +kernel
theorem dX12_laysMove_24 : decode cX12_laysMove 24 = .ok (.goto (-22), 3) := by decide +kernel
theorem dX12_laysMove_27 : decode cX12_laysMove 27 = .ok (.iconst 0, 1) := by decide +kernel
theorem dX12_laysMove_28 : decode cX12_laysMove 28 = .ok (.istore_n 2, 1) := by decide +kernel
theorem dX12_laysMove_29 : decode cX12_laysMove 29 = .ok (.iload_n 2, 1) := by decide +kernel
theorem dX12_laysMove_30 : decode cX12_laysMove 30 = .ok (.iconst 1, 1) := by decide +kernel
theorem dX12_laysMove_31 : decode cX12_laysMove 31 = .ok (.aload_n 0, 1) := by decide +kernel
theorem dX12_laysMove_32 : decode cX12_laysMove 32 = .ok (.getfield 33, 3) := by decide +kernel
theorem dX12_laysMove_35 : decode cX12_laysMove 35 = .ok (.iconst 2, 1) := by decide +kernel
theorem dX12_laysMove_36 : decode cX12_laysMove 36 = .ok (.iaload, 1) := by decide +kernel
theorem dX12_laysMove_37 : decode cX12_laysMove 37 = .ok (.ishl, 1) := by decide +kernel
theorem dX12_laysMove_38 : decode cX12_laysMove 38 = .ok (.if_icmp .ge 117, 3) := by decide +kernel
theorem dX12_laysMove_41 : decode cX12_laysMove 41 = .ok (.aload_n 0, 1) := by decide +kernel
theorem dX12_laysMove_42 : decode cX12_laysMove 42 = .ok (.getfield 90, 3) := by decide +kernel
theorem dX12_laysMove_45 : decode cX12_laysMove 45 = .ok (.iload_n 2, 1) := by decide +kernel
theorem dX12_laysMove_46 : decode cX12_laysMove 46 = .ok (.baload, 1) := by decide +kernel
theorem dX12_laysMove_47 : decode cX12_laysMove 47 = .ok (.istore_n 3, 1) := by decide +kernel
theorem dX12_laysMove_48 : decode cX12_laysMove 48 = .ok (.iconst 0, 1) := by decide +kernel
theorem dX12_laysMove_49 : decode cX12_laysMove 49 = .ok (.istore 4, 2) := by decide +kernel
theorem dX12_laysMove_51 : decode cX12_laysMove 51 = .ok (.iload 4, 2) := by decide +kernel
theorem dX12_laysMove_53 : decode cX12_laysMove 53 = .ok (.aload_n 0, 1) := by decide +kernel
theorem dX12_laysMove_54 : decode cX12_laysMove 54 = .ok (.getfield 33, 3) := by decide +kernel
theorem dX12_laysMove_57 : decode cX12_laysMove 57 = .ok (.iconst 2, 1) := by decide +kernel
theorem dX12_laysMove_58 : decode cX12_laysMove 58 = .ok (.iaload, 1) := by decide +kernel
theorem dX12_laysMove_59 : decode cX12_laysMove 59 = .ok (.if_icmp .ge 83, 3) := by decide +kernel
theorem dX12_laysMove_62 : decode cX12_laysMove 62 = .ok (.iload_n 2, 1) := by decide +kernel
theorem dX12_laysMove_63 : decode cX12_laysMove 63 = .ok (.aload_n 0, 1) := by decide +kernel
theorem dX12_laysMove_64 : decode cX12_laysMove 64 = .ok (.getfield 33, 3) := by decide +kernel
theorem dX12_laysMove_67 : decode cX12_laysMove 67 = .ok (.bipush 98, 2) := by decide +kernel
theorem dX12_laysMove_69 : decode cX12_laysMove 69 = .ok (.iaload, 1) := by decide +kernel
theorem dX12_laysMove_70 : decode cX12_laysMove 70 = .ok (.ior, 1) := by decide +kernel
theorem dX12_laysMove_71 : decode cX12_laysMove 71 = .ok (.iload 4, 2) := by decide +kernel
theorem dX12_laysMove_73 : decode cX12_laysMove 73 = .ok (.invokestatic 292, 3) := by decide +kernel
theorem dX12_laysMove_76 : decode cX12_laysMove 76 = .ok (.ifCond .eq 6, 3) := by decide +kernel
theorem dX12_laysMove_79 : decode cX12_laysMove 79 = .ok (.goto 57, 3) := by decide +kernel
theorem dX12_laysMove_82 : decode cX12_laysMove 82 = .ok (.iload_n 1, 1) := by decide +kernel
theorem dX12_laysMove_83 : decode cX12_laysMove 83 = .ok (.ifCond .eq 29, 3) := by decide +kernel
theorem dX12_laysMove_86 : decode cX12_laysMove 86 = .ok (.iload_n 3, 1) := by decide +kernel
theorem dX12_laysMove_87 : decode cX12_laysMove 87 = .ok (.ifCond .ne 17, 3) := by decide +kernel
theorem dX12_laysMove_90 : decode cX12_laysMove 90 = .ok (.aload_n 0, 1) := by decide +kernel
theorem dX12_laysMove_91 : decode cX12_laysMove 91 = .ok (.getfield 90, 3) := by decide +kernel
theorem dX12_laysMove_94 : decode cX12_laysMove 94 = .ok (.iload_n 2, 1) := by decide +kernel
theorem dX12_laysMove_95 : decode cX12_laysMove 95 = .ok (.iconst 1, 1) := by decide +kernel
theorem dX12_laysMove_96 : decode cX12_laysMove 96 = .ok (.iload 4, 2) := by decide +kernel
theorem dX12_laysMove_98 : decode cX12_laysMove 98 = .ok (.ishl, 1) := by decide +kernel
theorem dX12_laysMove_99 : decode cX12_laysMove 99 = .ok (.ior, 1) := by decide +kernel
theorem dX12_laysMove_100 : decode cX12_laysMove 100 = .ok (.baload, 1) := by decide +kernel
theorem dX12_laysMove_101 : decode cX12_laysMove 101 = .ok (.ifCond .eq 7, 3) := by decide +kernel
theorem dX12_laysMove_104 : decode cX12_laysMove 104 = .ok (.iconst 1, 1) := by decide +kernel
theorem dX12_laysMove_105 : decode cX12_laysMove 105 = .ok (.goto 30, 3) := by decide +kernel
theorem dX12_laysMove_108 : decode cX12_laysMove 108 = .ok (.iconst 0, 1) := by decide +kernel
theorem dX12_laysMove_109 : decode cX12_laysMove 109 = .ok (.goto 26, 3) := by decide +kernel
theorem dX12_laysMove_112 : decode cX12_laysMove 112 = .ok (.iload_n 3, 1) := by decide +kernel
theorem dX12_laysMove_113 : decode cX12_laysMove 113 = .ok (.ifCond .eq 21, 3) := by decide +kernel
theorem dX12_laysMove_116 : decode cX12_laysMove 116 = .ok (.aload_n 0, 1) := by decide +kernel
theorem dX12_laysMove_117 : decode cX12_laysMove 117 = .ok (.getfield 90, 3) := by decide +kernel
theorem dX12_laysMove_120 : decode cX12_laysMove 120 = .ok (.iload_n 2, 1) := by decide +kernel
theorem dX12_laysMove_121 : decode cX12_laysMove 121 = .ok (.iconst 1, 1) := by decide +kernel
theorem dX12_laysMove_122 : decode cX12_laysMove 122 = .ok (.iload 4, 2) := by decide +kernel
theorem dX12_laysMove_124 : decode cX12_laysMove 124 = .ok (.ishl, 1) := by decide +kernel
theorem dX12_laysMove_125 : decode cX12_laysMove 125 = .ok (.ior, 1) := by decide +kernel
theorem dX12_laysMove_126 : decode cX12_laysMove 126 = .ok (.baload, 1) := by decide +kernel
theorem dX12_laysMove_127 : decode cX12_laysMove 127 = .ok (.ifCond .eq 7, 3) := by decide +kernel
theorem dX12_laysMove_130 : decode cX12_laysMove 130 = .ok (.iconst 1, 1) := by decide +kernel
theorem dX12_laysMove_131 : decode cX12_laysMove 131 = .ok (.goto 4, 3) := by decide +kernel
theorem dX12_laysMove_134 : decode cX12_laysMove 134 = .ok (.iconst 0, 1) := by decide +kernel
theorem dX12_laysMove_135 : decode cX12_laysMove 135 = .ok (.istore_n 3, 1) := by decide +kernel
theorem dX12_laysMove_136 : decode cX12_laysMove 136 = .ok (.iinc 4 1, 3) := by decide +kernel
theorem dX12_laysMove_139 : decode cX12_laysMove 139 = .ok (.goto (-88), 3) := by decide +kernel
theorem dX12_laysMove_142 : decode cX12_laysMove 142 = .ok (.aload_n 0, 1) := by decide +kernel
theorem dX12_laysMove_143 : decode cX12_laysMove 143 = .ok (.getfield 86, 3) := by decide +kernel
theorem dX12_laysMove_146 : decode cX12_laysMove 146 = .ok (.iload_n 2, 1) := by decide +kernel
theorem dX12_laysMove_147 : decode cX12_laysMove 147 = .ok (.iload_n 3, 1) := by decide +kernel
theorem dX12_laysMove_148 : decode cX12_laysMove 148 = .ok (.bastore, 1) := by decide +kernel
theorem dX12_laysMove_149 : decode cX12_laysMove 149 = .ok (.iinc 2 1, 3) := by decide +kernel
theorem dX12_laysMove_152 : decode cX12_laysMove 152 = .ok (.goto (-123), 3) := by decide +kernel
theorem dX12_laysMove_155 : decode cX12_laysMove 155 = .ok (.return_, 1) := by decide +kernel
theorem dX12_duel_0 : decode cX12_duel 0 = .ok (.aload_n 0, 1) := by decide +kernel
theorem dX12_duel_1 : decode cX12_duel 1 = .ok (.iconst 0, 1) := by decide +kernel
theorem dX12_duel_2 : decode cX12_duel 2 = .ok (.putfield 1, 3) := by decide +kernel
theorem dX12_duel_5 : decode cX12_duel 5 = .ok (.aload_n 0, 1) := by decide +kernel
theorem dX12_duel_6 : decode cX12_duel 6 = .ok (.iload_n 1, 1) := by decide +kernel
theorem dX12_duel_7 : decode cX12_duel 7 = .ok (.invokevirtual 365, 3) := by decide +kernel
theorem dX12_duel_10 : decode cX12_duel 10 = .ok (.ifCond .eq 21, 3) := by decide +kernel
theorem dX12_duel_13 : decode cX12_duel 13 = .ok (.iload_n 2, 1) := by decide +kernel
theorem dX12_duel_14 : decode cX12_duel 14 = .ok (.iconst 0, 1) := by decide +kernel
theorem dX12_duel_15 : decode cX12_duel 15 = .ok (.iconst 4, 1) := by decide +kernel
theorem dX12_duel_16 : decode cX12_duel 16 = .ok (.invokestatic 223, 3) := by decide +kernel
theorem dX12_duel_19 : decode cX12_duel 19 = .ok (.ifCond .eq 12, 3) := by decide +kernel
theorem dX12_duel_22 : decode cX12_duel 22 = .ok (.iload_n 3, 1) := by decide +kernel
theorem dX12_duel_23 : decode cX12_duel 23 = .ok (.iconst 1, 1) := by decide +kernel
theorem dX12_duel_24 : decode cX12_duel 24 = .ok (.iconst 4, 1) := by decide +kernel
theorem dX12_duel_25 : decode cX12_duel 25 = .ok (.invokestatic 223, 3) := by decide +kernel
theorem dX12_duel_28 : decode cX12_duel 28 = .ok (.ifCond .ne 5, 3) := by decide +kernel
theorem dX12_duel_31 : decode cX12_duel 31 = .ok (.iconst (-1), 1) := by decide +kernel
theorem dX12_duel_32 : decode cX12_duel 32 = .ok (.ireturn, 1) := by decide +kernel
theorem dX12_duel_33 : decode cX12_duel 33 = .ok (.aload_n 0, 1) := by decide +kernel
theorem dX12_duel_34 : decode cX12_duel 34 = .ok (.iload_n 1, 1) := by decide +kernel
theorem dX12_duel_35 : decode cX12_duel 35 = .ok (.iload_n 2, 1) := by decide +kernel
theorem dX12_duel_36 : decode cX12_duel 36 = .ok (.invokevirtual 446, 3) := by decide +kernel
theorem dX12_duel_39 : decode cX12_duel 39 = .ok (.iload_n 3, 1) := by decide +kernel
theorem dX12_duel_40 : decode cX12_duel 40 = .ok (.iconst 1, 1) := by decide +kernel
theorem dX12_duel_41 : decode cX12_duel 41 = .ok (.isub, 1) := by decide +kernel
theorem dX12_duel_42 : decode cX12_duel 42 = .ok (.istore 4, 2) := by decide +kernel
theorem dX12_duel_44 : decode cX12_duel 44 = .ok (.iload 4, 2) := by decide +kernel
theorem dX12_duel_46 : decode cX12_duel 46 = .ok (.ifCond .le 25, 3) := by decide +kernel
theorem dX12_duel_49 : decode cX12_duel 49 = .ok (.aload_n 0, 1) := by decide +kernel
theorem dX12_duel_50 : decode cX12_duel 50 = .ok (.iload 4, 2) := by decide +kernel
theorem dX12_duel_52 : decode cX12_duel 52 = .ok (.iconst 2, 1) := by decide +kernel
theorem dX12_duel_53 : decode cX12_duel 53 = .ok (.irem, 1) := by decide +kernel
theorem dX12_duel_54 : decode cX12_duel 54 = .ok (.ifCond .ne 7, 3) := by decide +kernel
theorem dX12_duel_57 : decode cX12_duel 57 = .ok (.iconst 1, 1) := by decide +kernel
theorem dX12_duel_58 : decode cX12_duel 58 = .ok (.goto 4, 3) := by decide +kernel
theorem dX12_duel_61 : decode cX12_duel 61 = .ok (.iconst 0, 1) := by decide +kernel
theorem dX12_duel_62 : decode cX12_duel 62 = .ok (.invokevirtual 450, 3) := by decide +kernel
theorem dX12_duel_65 : decode cX12_duel 65 = .ok (.iinc 4 (-1), 3) := by decide +kernel
theorem dX12_duel_68 : decode cX12_duel 68 = .ok (.goto (-24), 3) := by decide +kernel
theorem dX12_duel_71 : decode cX12_duel 71 = .ok (.aload_n 0, 1) := by decide +kernel
theorem dX12_duel_72 : decode cX12_duel 72 = .ok (.getfield 86, 3) := by decide +kernel
theorem dX12_duel_75 : decode cX12_duel 75 = .ok (.iconst 0, 1) := by decide +kernel
theorem dX12_duel_76 : decode cX12_duel 76 = .ok (.baload, 1) := by decide +kernel
theorem dX12_duel_77 : decode cX12_duel 77 = .ok (.istore 4, 2) := by decide +kernel
theorem dX12_duel_79 : decode cX12_duel 79 = .ok (.iconst (-1), 1) := by decide +kernel
theorem dX12_duel_80 : decode cX12_duel 80 = .ok (.istore 5, 2) := by decide +kernel
theorem dX12_duel_82 : decode cX12_duel 82 = .ok (.iconst 0, 1) := by decide +kernel
theorem dX12_duel_83 : decode cX12_duel 83 = .ok (.istore 6, 2) := by decide +kernel
theorem dX12_duel_85 : decode cX12_duel 85 = .ok (.iload 6, 2) := by decide +kernel
theorem dX12_duel_87 : decode cX12_duel 87 = .ok (.aload_n 0, 1) := by decide +kernel
theorem dX12_duel_88 : decode cX12_duel 88 = .ok (.getfield 33, 3) := by decide +kernel
theorem dX12_duel_91 : decode cX12_duel 91 = .ok (.iconst 2, 1) := by decide +kernel
theorem dX12_duel_92 : decode cX12_duel 92 = .ok (.iaload, 1) := by decide +kernel
theorem dX12_duel_93 : decode cX12_duel 93 = .ok (.if_icmp .ge 51, 3) := by decide +kernel
theorem dX12_duel_96 : decode cX12_duel 96 = .ok (.iload 4, 2) := by decide +kernel
theorem dX12_duel_98 : decode cX12_duel 98 = .ok (.ifCond .ne 40, 3) := by decide +kernel
theorem dX12_duel_101 : decode cX12_duel 101 = .ok (.aload_n 0, 1) := by decide +kernel
theorem dX12_duel_102 : decode cX12_duel 102 = .ok (.getfield 33, 3) := by decide +kernel
theorem dX12_duel_105 : decode cX12_duel 105 = .ok (.bipush 98, 2) := by decide +kernel
theorem dX12_duel_107 : decode cX12_duel 107 = .ok (.iaload, 1) := by decide +kernel
theorem dX12_duel_108 : decode cX12_duel 108 = .ok (.iload 6, 2) := by decide +kernel
theorem dX12_duel_110 : decode cX12_duel 110 = .ok (.invokestatic 292, 3) := by decide +kernel
theorem dX12_duel_113 : decode cX12_duel 113 = .ok (.ifCond .ne 25, 3) := by decide +kernel
theorem dX12_duel_116 : decode cX12_duel 116 = .ok (.aload_n 0, 1) := by decide +kernel
theorem dX12_duel_117 : decode cX12_duel 117 = .ok (.getfield 86, 3) := by decide +kernel
theorem dX12_duel_120 : decode cX12_duel 120 = .ok (.iconst 1, 1) := by decide +kernel
theorem dX12_duel_121 : decode cX12_duel 121 = .ok (.iload 6, 2) := by decide +kernel
theorem dX12_duel_123 : decode cX12_duel 123 = .ok (.ishl, 1) := by decide +kernel
theorem dX12_duel_124 : decode cX12_duel 124 = .ok (.baload, 1) := by decide +kernel
theorem dX12_duel_125 : decode cX12_duel 125 = .ok (.ifCond .ne 6, 3) := by decide +kernel
theorem dX12_duel_128 : decode cX12_duel 128 = .ok (.goto 10, 3) := by decide +kernel
theorem dX12_duel_131 : decode cX12_duel 131 = .ok (.iconst 1, 1) := by decide +kernel
theorem dX12_duel_132 : decode cX12_duel 132 = .ok (.istore 4, 2) := by decide +kernel
theorem dX12_duel_134 : decode cX12_duel 134 = .ok (.iload 6, 2) := by decide +kernel
theorem dX12_duel_136 : decode cX12_duel 136 = .ok (.istore 5, 2) := by decide +kernel
theorem dX12_duel_138 : decode cX12_duel 138 = .ok (.iinc 6 1, 3) := by decide +kernel
theorem dX12_duel_141 : decode cX12_duel 141 = .ok (.goto (-56), 3) := by decide +kernel
theorem dX12_duel_144 : decode cX12_duel 144 = .ok (.aload_n 0, 1) := by decide +kernel
theorem dX12_duel_145 : decode cX12_duel 145 = .ok (.iconst 1, 1) := by decide +kernel
theorem dX12_duel_146 : decode cX12_duel 146 = .ok (.putfield 454, 3) := by decide +kernel
theorem dX12_duel_149 : decode cX12_duel 149 = .ok (.aload_n 0, 1) := by decide +kernel
theorem dX12_duel_150 : decode cX12_duel 150 = .ok (.iload 5, 2) := by decide +kernel
theorem dX12_duel_152 : decode cX12_duel 152 = .ok (.putfield 457, 3) := by decide +kernel
theorem dX12_duel_155 : decode cX12_duel 155 = .ok (.iload 4, 2) := by decide +kernel
theorem dX12_duel_157 : decode cX12_duel 157 = .ok (.ifCond .eq 7, 3) := by decide +kernel
theorem dX12_duel_160 : decode cX12_duel 160 = .ok (.iconst 1, 1) := by decide +kernel
theorem dX12_duel_161 : decode cX12_duel 161 = .ok (.goto 4, 3) := by decide +kernel
theorem dX12_duel_164 : decode cX12_duel 164 = .ok (.iconst 0, 1) := by decide +kernel
theorem dX12_duel_165 : decode cX12_duel 165 = .ok (.ireturn, 1) := by decide +kernel
theorem dX12_duelAt_0 : decode cX12_duelAt 0 = .ok (.aload_n 0, 1) := by decide +kernel
theorem dX12_duelAt_1 : decode cX12_duelAt 1 = .ok (.iconst 0, 1) := by decide +kernel
theorem dX12_duelAt_2 : decode cX12_duelAt 2 = .ok (.putfield 1, 3) := by decide +kernel
theorem dX12_duelAt_5 : decode cX12_duelAt 5 = .ok (.aload_n 0, 1) := by decide +kernel
theorem dX12_duelAt_6 : decode cX12_duelAt 6 = .ok (.getfield 454, 3) := by decide +kernel
theorem dX12_duelAt_9 : decode cX12_duelAt 9 = .ok (.ifCond .eq 10, 3) := by decide +kernel
theorem dX12_duelAt_12 : decode cX12_duelAt 12 = .ok (.aload_n 0, 1) := by decide +kernel
theorem dX12_duelAt_13 : decode cX12_duelAt 13 = .ok (.getfield 457, 3) := by decide +kernel
theorem dX12_duelAt_16 : decode cX12_duelAt 16 = .ok (.goto 4, 3) := by decide +kernel
theorem dX12_duelAt_19 : decode cX12_duelAt 19 = .ok (.iconst (-1), 1) := by decide +kernel
theorem dX12_duelAt_20 : decode cX12_duelAt 20 = .ok (.ireturn, 1) := by decide +kernel
theorem dX12_worth_0 : decode cX12_worth 0 = .ok (.aload_n 0, 1) := by decide +kernel
theorem dX12_worth_1 : decode cX12_worth 1 = .ok (.iconst 0, 1) := by decide +kernel
theorem dX12_worth_2 : decode cX12_worth 2 = .ok (.putfield 1, 3) := by decide +kernel
theorem dX12_worth_5 : decode cX12_worth 5 = .ok (.aload_n 0, 1) := by decide +kernel
theorem dX12_worth_6 : decode cX12_worth 6 = .ok (.iload_n 1, 1) := by decide +kernel
theorem dX12_worth_7 : decode cX12_worth 7 = .ok (.invokevirtual 355, 3) := by decide +kernel
theorem dX12_worth_10 : decode cX12_worth 10 = .ok (.ifCond .eq 21, 3) := by decide +kernel
theorem dX12_worth_13 : decode cX12_worth 13 = .ok (.iload_n 2, 1) := by decide +kernel
theorem dX12_worth_14 : decode cX12_worth 14 = .ok (.iconst 1, 1) := by decide +kernel
theorem dX12_worth_15 : decode cX12_worth 15 = .ok (.bipush 60, 2) := by decide +kernel
theorem dX12_worth_17 : decode cX12_worth 17 = .ok (.invokestatic 223, 3) := by decide +kernel
theorem dX12_worth_20 : decode cX12_worth 20 = .ok (.ifCond .eq 11, 3) := by decide +kernel
theorem dX12_worth_23 : decode cX12_worth 23 = .ok (.aload_n 0, 1) := by decide +kernel
theorem dX12_worth_24 : decode cX12_worth 24 = .ok (.iload_n 1, 1) := by decide +kernel
theorem dX12_worth_25 : decode cX12_worth 25 = .ok (.invokevirtual 362, 3) := by decide +kernel
theorem dX12_worth_28 : decode cX12_worth 28 = .ok (.ifCond .ge 5, 3) := by decide +kernel
theorem dX12_worth_31 : decode cX12_worth 31 = .ok (.iconst (-1), 1) := by decide +kernel
theorem dX12_worth_32 : decode cX12_worth 32 = .ok (.ireturn, 1) := by decide +kernel
theorem dX12_worth_33 : decode cX12_worth 33 = .ok (.aload_n 0, 1) := by decide +kernel
theorem dX12_worth_34 : decode cX12_worth 34 = .ok (.invokevirtual 402, 3) := by decide +kernel
theorem dX12_worth_37 : decode cX12_worth 37 = .ok (.iconst 0, 1) := by decide +kernel
theorem dX12_worth_38 : decode cX12_worth 38 = .ok (.istore_n 3, 1) := by decide +kernel
theorem dX12_worth_39 : decode cX12_worth 39 = .ok (.iconst 0, 1) := by decide +kernel
theorem dX12_worth_40 : decode cX12_worth 40 = .ok (.istore 4, 2) := by decide +kernel
theorem dX12_worth_42 : decode cX12_worth 42 = .ok (.iload 4, 2) := by decide +kernel
theorem dX12_worth_44 : decode cX12_worth 44 = .ok (.iload_n 2, 1) := by decide +kernel
theorem dX12_worth_45 : decode cX12_worth 45 = .ok (.if_icmp .ge 77, 3) := by decide +kernel
theorem dX12_worth_48 : decode cX12_worth 48 = .ok (.aload_n 0, 1) := by decide +kernel
theorem dX12_worth_49 : decode cX12_worth 49 = .ok (.getfield 33, 3) := by decide +kernel
theorem dX12_worth_52 : decode cX12_worth 52 = .ok (.bipush 97, 2) := by decide +kernel
theorem dX12_worth_54 : decode cX12_worth 54 = .ok (.iaload, 1) := by decide +kernel
theorem dX12_worth_55 : decode cX12_worth 55 = .ok (.sipush 400, 3) := by decide +kernel
theorem dX12_worth_58 : decode cX12_worth 58 = .ok (.if_icmp .ge 64, 3) := by decide +kernel
theorem dX12_worth_61 : decode cX12_worth 61 = .ok (.aload_n 0, 1) := by decide +kernel
theorem dX12_worth_62 : decode cX12_worth 62 = .ok (.aload_n 0, 1) := by decide +kernel
theorem dX12_worth_63 : decode cX12_worth 63 = .ok (.iload_n 1, 1) := by decide +kernel
theorem dX12_worth_64 : decode cX12_worth 64 = .ok (.invokevirtual 362, 3) := by decide +kernel
theorem dX12_worth_67 : decode cX12_worth 67 = .ok (.iload_n 1, 1) := by decide +kernel
theorem dX12_worth_68 : decode cX12_worth 68 = .ok (.invokevirtual 352, 3) := by decide +kernel
theorem dX12_worth_71 : decode cX12_worth 71 = .ok (.istore 5, 2) := by decide +kernel
theorem dX12_worth_73 : decode cX12_worth 73 = .ok (.iload_n 3, 1) := by decide +kernel
theorem dX12_worth_74 : decode cX12_worth 74 = .ok (.iload 5, 2) := by decide +kernel
theorem dX12_worth_76 : decode cX12_worth 76 = .ok (.ifCond .lt 18, 3) := by decide +kernel
theorem dX12_worth_79 : decode cX12_worth 79 = .ok (.aload_n 0, 1) := by decide +kernel
theorem dX12_worth_80 : decode cX12_worth 80 = .ok (.iload 5, 2) := by decide +kernel
theorem dX12_worth_82 : decode cX12_worth 82 = .ok (.iload_n 1, 1) := by decide +kernel
theorem dX12_worth_83 : decode cX12_worth 83 = .ok (.invokevirtual 349, 3) := by decide +kernel
theorem dX12_worth_86 : decode cX12_worth 86 = .ok (.iconst 5, 1) := by decide +kernel
theorem dX12_worth_87 : decode cX12_worth 87 = .ok (.if_icmp .lt 7, 3) := by decide +kernel
theorem dX12_worth_90 : decode cX12_worth 90 = .ok (.iconst 1, 1) := by decide +kernel
theorem dX12_worth_91 : decode cX12_worth 91 = .ok (.goto 4, 3) := by decide +kernel
theorem dX12_worth_94 : decode cX12_worth 94 = .ok (.iconst 0, 1) := by decide +kernel
theorem dX12_worth_95 : decode cX12_worth 95 = .ok (.iadd, 1) := by decide +kernel
theorem dX12_worth_96 : decode cX12_worth 96 = .ok (.istore_n 3, 1) := by decide +kernel
theorem dX12_worth_97 : decode cX12_worth 97 = .ok (.aload_n 0, 1) := by decide +kernel
theorem dX12_worth_98 : decode cX12_worth 98 = .ok (.getfield 33, 3) := by decide +kernel
theorem dX12_worth_101 : decode cX12_worth 101 = .ok (.bipush 97, 2) := by decide +kernel
theorem dX12_worth_103 : decode cX12_worth 103 = .ok (.dup2, 1) := by decide +kernel
theorem dX12_worth_104 : decode cX12_worth 104 = .ok (.iaload, 1) := by decide +kernel
theorem dX12_worth_105 : decode cX12_worth 105 = .ok (.iconst 1, 1) := by decide +kernel
theorem dX12_worth_106 : decode cX12_worth 106 = .ok (.iadd, 1) := by decide +kernel
theorem dX12_worth_107 : decode cX12_worth 107 = .ok (.iastore, 1) := by decide +kernel
theorem dX12_worth_108 : decode cX12_worth 108 = .ok (.aload_n 0, 1) := by decide +kernel
theorem dX12_worth_109 : decode cX12_worth 109 = .ok (.getfield 33, 3) := by decide +kernel
theorem dX12_worth_112 : decode cX12_worth 112 = .ok (.bipush 100, 2) := by decide +kernel
theorem dX12_worth_114 : decode cX12_worth 114 = .ok (.iconst 0, 1) := by decide +kernel
theorem dX12_worth_115 : decode cX12_worth 115 = .ok (.iastore, 1) := by decide +kernel
theorem dX12_worth_116 : decode cX12_worth 116 = .ok (.iinc 4 1, 3) := by decide +kernel
theorem dX12_worth_119 : decode cX12_worth 119 = .ok (.goto (-77), 3) := by decide +kernel
theorem dX12_worth_122 : decode cX12_worth 122 = .ok (.aload_n 0, 1) := by decide +kernel
theorem dX12_worth_123 : decode cX12_worth 123 = .ok (.invokevirtual 405, 3) := by decide +kernel
theorem dX12_worth_126 : decode cX12_worth 126 = .ok (.iload_n 3, 1) := by decide +kernel
theorem dX12_worth_127 : decode cX12_worth 127 = .ok (.ireturn, 1) := by decide +kernel
theorem dX12_lays_0 : decode cX12_lays 0 = .ok (.aload_n 0, 1) := by decide +kernel
theorem dX12_lays_1 : decode cX12_lays 1 = .ok (.getfield 93, 3) := by decide +kernel
theorem dX12_lays_4 : decode cX12_lays 4 = .ok (.aload_n 0, 1) := by decide +kernel
theorem dX12_lays_5 : decode cX12_lays 5 = .ok (.getfield 460, 3) := by decide +kernel
theorem dX12_lays_8 : decode cX12_lays 8 = .ok (.iload_n 1, 1) := by decide +kernel
theorem dX12_lays_9 : decode cX12_lays 9 = .ok (.i2b, 1) := by decide +kernel
theorem dX12_lays_10 : decode cX12_lays 10 = .ok (.bastore, 1) := by decide +kernel
theorem dX12_lays_11 : decode cX12_lays 11 = .ok (.aload_n 0, 1) := by decide +kernel
theorem dX12_lays_12 : decode cX12_lays 12 = .ok (.dup, 1) := by decide +kernel
theorem dX12_lays_13 : decode cX12_lays 13 = .ok (.getfield 460, 3) := by decide +kernel
theorem dX12_lays_16 : decode cX12_lays 16 = .ok (.iconst 1, 1) := by decide +kernel
theorem dX12_lays_17 : decode cX12_lays 17 = .ok (.iadd, 1) := by decide +kernel
theorem dX12_lays_18 : decode cX12_lays 18 = .ok (.putfield 460, 3) := by decide +kernel
theorem dX12_lays_21 : decode cX12_lays 21 = .ok (.return_, 1) := by decide +kernel
theorem dX12_spells_0 : decode cX12_spells 0 = .ok (.bipush 56, 2) := by decide +kernel
theorem dX12_spells_2 : decode cX12_spells 2 = .ok (.istore_n 3, 1) := by decide +kernel
theorem dX12_spells_3 : decode cX12_spells 3 = .ok (.iload_n 3, 1) := by decide +kernel
theorem dX12_spells_4 : decode cX12_spells 4 = .ok (.ifCond .lt 33, 3) := by decide +kernel
theorem dX12_spells_7 : decode cX12_spells 7 = .ok (.lload_n 1, 1) := by decide +kernel
theorem dX12_spells_8 : decode cX12_spells 8 = .ok (.iload_n 3, 1) := by decide +kernel
theorem dX12_spells_9 : decode cX12_spells 9 = .ok (.lshr, 1) := by decide +kernel
theorem dX12_spells_10 : decode cX12_spells 10 = .ok (.ldc2_w 463, 3) := by decide +kernel
theorem dX12_spells_13 : decode cX12_spells 13 = .ok (.land, 1) := by decide +kernel
theorem dX12_spells_14 : decode cX12_spells 14 = .ok (.lconst 0, 1) := by decide +kernel
theorem dX12_spells_15 : decode cX12_spells 15 = .ok (.lcmp, 1) := by decide +kernel
theorem dX12_spells_16 : decode cX12_spells 16 = .ok (.ifCond .eq 15, 3) := by decide +kernel
theorem dX12_spells_19 : decode cX12_spells 19 = .ok (.aload_n 0, 1) := by decide +kernel
theorem dX12_spells_20 : decode cX12_spells 20 = .ok (.lload_n 1, 1) := by decide +kernel
theorem dX12_spells_21 : decode cX12_spells 21 = .ok (.iload_n 3, 1) := by decide +kernel
theorem dX12_spells_22 : decode cX12_spells 22 = .ok (.lshr, 1) := by decide +kernel
theorem dX12_spells_23 : decode cX12_spells 23 = .ok (.ldc2_w 463, 3) := by decide +kernel
theorem dX12_spells_26 : decode cX12_spells 26 = .ok (.land, 1) := by decide +kernel
theorem dX12_spells_27 : decode cX12_spells 27 = .ok (.l2i, 1) := by decide +kernel
theorem dX12_spells_28 : decode cX12_spells 28 = .ok (.invokevirtual 465, 3) := by decide +kernel
theorem dX12_spells_31 : decode cX12_spells 31 = .ok (.iinc 3 (-8), 3) := by decide +kernel
theorem dX12_spells_34 : decode cX12_spells 34 = .ok (.goto (-31), 3) := by decide +kernel
theorem dX12_spells_37 : decode cX12_spells 37 = .ok (.return_, 1) := by decide +kernel
theorem dX12_says_0 : decode cX12_says 0 = .ok (.aload_n 0, 1) := by decide +kernel
theorem dX12_says_1 : decode cX12_says 1 = .ok (.bipush 32, 2) := by decide +kernel
theorem dX12_says_3 : decode cX12_says 3 = .ok (.invokevirtual 465, 3) := by decide +kernel
theorem dX12_says_6 : decode cX12_says 6 = .ok (.aload_n 0, 1) := by decide +kernel
theorem dX12_says_7 : decode cX12_says 7 = .ok (.lload_n 1, 1) := by decide +kernel
theorem dX12_says_8 : decode cX12_says 8 = .ok (.invokevirtual 468, 3) := by decide +kernel
theorem dX12_says_11 : decode cX12_says 11 = .ok (.return_, 1) := by decide +kernel
theorem dX12_note_0 : decode cX12_note 0 = .ok (.aload_n 0, 1) := by decide +kernel
theorem dX12_note_1 : decode cX12_note 1 = .ok (.iconst 0, 1) := by decide +kernel
theorem dX12_note_2 : decode cX12_note 2 = .ok (.putfield 1, 3) := by decide +kernel
theorem dX12_note_5 : decode cX12_note 5 = .ok (.aload_n 0, 1) := by decide +kernel
theorem dX12_note_6 : decode cX12_note 6 = .ok (.iload_n 1, 1) := by decide +kernel
theorem dX12_note_7 : decode cX12_note 7 = .ok (.invokevirtual 355, 3) := by decide +kernel
theorem dX12_note_10 : decode cX12_note 10 = .ok (.ifCond .ne 5, 3) := by decide +kernel
theorem dX12_note_13 : decode cX12_note 13 = .ok (.iconst (-1), 1) := by decide +kernel
theorem dX12_note_14 : decode cX12_note 14 = .ok (.ireturn, 1) := by decide +kernel
theorem dX12_note_15 : decode cX12_note 15 = .ok (.aload_n 0, 1) := by decide +kernel
theorem dX12_note_16 : decode cX12_note 16 = .ok (.iconst 0, 1) := by decide +kernel
theorem dX12_note_17 : decode cX12_note 17 = .ok (.putfield 460, 3) := by decide +kernel
theorem dX12_note_20 : decode cX12_note 20 = .ok (.aload_n 0, 1) := by decide +kernel
theorem dX12_note_21 : decode cX12_note 21 = .ok (.aload_n 0, 1) := by decide +kernel
theorem dX12_note_22 : decode cX12_note 22 = .ok (.getfield 43, 3) := by decide +kernel
theorem dX12_note_25 : decode cX12_note 25 = .ok (.iload_n 1, 1) := by decide +kernel
theorem dX12_note_26 : decode cX12_note 26 = .ok (.laload, 1) := by decide +kernel
theorem dX12_note_27 : decode cX12_note 27 = .ok (.invokevirtual 468, 3) := by decide +kernel
theorem dX12_note_30 : decode cX12_note 30 = .ok (.aload_n 0, 1) := by decide +kernel
theorem dX12_note_31 : decode cX12_note 31 = .ok (.iload_n 1, 1) := by decide +kernel
theorem dX12_note_32 : decode cX12_note 32 = .ok (.invokevirtual 362, 3) := by decide +kernel
theorem dX12_note_35 : decode cX12_note 35 = .ok (.istore_n 2, 1) := by decide +kernel
theorem dX12_note_36 : decode cX12_note 36 = .ok (.iload_n 2, 1) := by decide +kernel
theorem dX12_note_37 : decode cX12_note 37 = .ok (.ifCond .ge 15, 3) := by decide +kernel
theorem dX12_note_40 : decode cX12_note 40 = .ok (.aload_n 0, 1) := by decide +kernel
theorem dX12_note_41 : decode cX12_note 41 = .ok (.ldc2_w 472, 3) := by decide +kernel
theorem dX12_note_44 : decode cX12_note 44 = .ok (.invokevirtual 474, 3) := by decide +kernel
theorem dX12_note_47 : decode cX12_note 47 = .ok (.aload_n 0, 1) := by decide +kernel
theorem dX12_note_48 : decode cX12_note 48 = .ok (.getfield 460, 3) := by decide +kernel
theorem dX12_note_51 : decode cX12_note 51 = .ok (.ireturn, 1) := by decide +kernel
theorem dX12_note_52 : decode cX12_note 52 = .ok (.aload_n 0, 1) := by decide +kernel
theorem dX12_note_53 : decode cX12_note 53 = .ok (.aload_n 0, 1) := by decide +kernel
theorem dX12_note_54 : decode cX12_note 54 = .ok (.getfield 43, 3) := by decide +kernel
theorem dX12_note_57 : decode cX12_note 57 = .ok (.bipush 6, 2) := by decide +kernel
theorem dX12_note_59 : decode cX12_note 59 = .ok (.iload_n 2, 1) := by decide +kernel
theorem dX12_note_60 : decode cX12_note 60 = .ok (.iadd, 1) := by decide +kernel
theorem dX12_note_61 : decode cX12_note 61 = .ok (.laload, 1) := by decide +kernel
theorem dX12_note_62 : decode cX12_note 62 = .ok (.invokevirtual 474, 3) := by decide +kernel
theorem dX12_note_65 : decode cX12_note 65 = .ok (.aload_n 0, 1) := by decide +kernel
theorem dX12_note_66 : decode cX12_note 66 = .ok (.iload_n 2, 1) := by decide +kernel
theorem dX12_note_67 : decode cX12_note 67 = .ok (.iload_n 1, 1) := by decide +kernel
theorem dX12_note_68 : decode cX12_note 68 = .ok (.invokevirtual 368, 3) := by decide +kernel
theorem dX12_note_71 : decode cX12_note 71 = .ok (.istore_n 3, 1) := by decide +kernel
theorem dX12_note_72 : decode cX12_note 72 = .ok (.aload_n 0, 1) := by decide +kernel
theorem dX12_note_73 : decode cX12_note 73 = .ok (.invokevirtual 337, 3) := by decide +kernel
theorem dX12_note_76 : decode cX12_note 76 = .ok (.ifCond .eq 13, 3) := by decide +kernel
theorem dX12_note_79 : decode cX12_note 79 = .ok (.aload_n 0, 1) := by decide +kernel
theorem dX12_note_80 : decode cX12_note 80 = .ok (.ldc2_w 128, 3) := by decide +kernel
theorem dX12_note_83 : decode cX12_note 83 = .ok (.invokevirtual 474, 3) := by decide +kernel
theorem dX12_note_86 : decode cX12_note 86 = .ok (.goto 48, 3) := by decide +kernel
theorem dX12_note_89 : decode cX12_note 89 = .ok (.iload_n 3, 1) := by decide +kernel
theorem dX12_note_90 : decode cX12_note 90 = .ok (.ifCond .ge 13, 3) := by decide +kernel
theorem dX12_note_93 : decode cX12_note 93 = .ok (.aload_n 0, 1) := by decide +kernel
theorem dX12_note_94 : decode cX12_note 94 = .ok (.ldc2_w 477, 3) := by decide +kernel
theorem dX12_note_97 : decode cX12_note 97 = .ok (.invokevirtual 474, 3) := by decide +kernel
theorem dX12_note_100 : decode cX12_note 100 = .ok (.goto 34, 3) := by decide +kernel
theorem dX12_note_103 : decode cX12_note 103 = .ok (.aload_n 0, 1) := by decide +kernel
theorem dX12_note_104 : decode cX12_note 104 = .ok (.ldc2_w 166, 3) := by decide +kernel
theorem dX12_note_107 : decode cX12_note 107 = .ok (.invokevirtual 474, 3) := by decide +kernel
theorem dX12_note_110 : decode cX12_note 110 = .ok (.aload_n 0, 1) := by decide +kernel
theorem dX12_note_111 : decode cX12_note 111 = .ok (.iload_n 3, 1) := by decide +kernel
theorem dX12_note_112 : decode cX12_note 112 = .ok (.iconst 4, 1) := by decide +kernel
theorem dX12_note_113 : decode cX12_note 113 = .ok (.if_icmp .ne 9, 3) := by decide +kernel
theorem dX12_note_116 : decode cX12_note 116 = .ok (.ldc2_w 479, 3) := by decide +kernel
theorem dX12_note_119 : decode cX12_note 119 = .ok (.goto 12, 3) := by decide +kernel
theorem dX12_note_122 : decode cX12_note 122 = .ok (.aload_n 0, 1) := by decide +kernel
theorem dX12_note_123 : decode cX12_note 123 = .ok (.getfield 47, 3) := by decide +kernel
theorem dX12_note_126 : decode cX12_note 126 = .ok (.bipush 12, 2) := by decide +kernel
theorem dX12_note_128 : decode cX12_note 128 = .ok (.iload_n 3, 1) := by decide +kernel
theorem dX12_note_129 : decode cX12_note 129 = .ok (.iadd, 1) := by decide +kernel
theorem dX12_note_130 : decode cX12_note 130 = .ok (.laload, 1) := by decide +kernel
theorem dX12_note_131 : decode cX12_note 131 = .ok (.invokevirtual 474, 3) := by decide +kernel
theorem dX12_note_134 : decode cX12_note 134 = .ok (.aload_n 0, 1) := by decide +kernel
theorem dX12_note_135 : decode cX12_note 135 = .ok (.getfield 460, 3) := by decide +kernel
theorem dX12_note_138 : decode cX12_note 138 = .ok (.ireturn, 1) := by decide +kernel
theorem dX12_byteAt_0 : decode cX12_byteAt 0 = .ok (.aload_n 0, 1) := by decide +kernel
theorem dX12_byteAt_1 : decode cX12_byteAt 1 = .ok (.iconst 0, 1) := by decide +kernel
theorem dX12_byteAt_2 : decode cX12_byteAt 2 = .ok (.putfield 1, 3) := by decide +kernel
theorem dX12_byteAt_5 : decode cX12_byteAt 5 = .ok (.iload_n 1, 1) := by decide +kernel
theorem dX12_byteAt_6 : decode cX12_byteAt 6 = .ok (.iconst 0, 1) := by decide +kernel
theorem dX12_byteAt_7 : decode cX12_byteAt 7 = .ok (.aload_n 0, 1) := by decide +kernel
theorem dX12_byteAt_8 : decode cX12_byteAt 8 = .ok (.getfield 460, 3) := by decide +kernel
theorem dX12_byteAt_11 : decode cX12_byteAt 11 = .ok (.iconst 1, 1) := by decide +kernel
theorem dX12_byteAt_12 : decode cX12_byteAt 12 = .ok (.isub, 1) := by decide +kernel
theorem dX12_byteAt_13 : decode cX12_byteAt 13 = .ok (.invokestatic 223, 3) := by decide +kernel
theorem dX12_byteAt_16 : decode cX12_byteAt 16 = .ok (.ifCond .eq 12, 3) := by decide +kernel
theorem dX12_byteAt_19 : decode cX12_byteAt 19 = .ok (.aload_n 0, 1) := by decide +kernel
theorem dX12_byteAt_20 : decode cX12_byteAt 20 = .ok (.getfield 93, 3) := by decide +kernel
theorem dX12_byteAt_23 : decode cX12_byteAt 23 = .ok (.iload_n 1, 1) := by decide +kernel
theorem dX12_byteAt_24 : decode cX12_byteAt 24 = .ok (.baload, 1) := by decide +kernel
theorem dX12_byteAt_25 : decode cX12_byteAt 25 = .ok (.goto 4, 3) := by decide +kernel
theorem dX12_byteAt_28 : decode cX12_byteAt 28 = .ok (.iconst (-1), 1) := by decide +kernel
theorem dX12_byteAt_29 : decode cX12_byteAt 29 = .ok (.ireturn, 1) := by decide +kernel
theorem dX12_draw_0 : decode cX12_draw 0 = .ok (.aload_n 0, 1) := by decide +kernel
theorem dX12_draw_1 : decode cX12_draw 1 = .ok (.aload_n 0, 1) := by decide +kernel
theorem dX12_draw_2 : decode cX12_draw 2 = .ok (.getfield 481, 3) := by decide +kernel
theorem dX12_draw_5 : decode cX12_draw 5 = .ok (.ldc_w 484, 3) := by decide +kernel
theorem dX12_draw_8 : decode cX12_draw 8 = .ok (.imul, 1) := by decide +kernel
theorem dX12_draw_9 : decode cX12_draw 9 = .ok (.sipush 12345, 3) := by decide +kernel
theorem dX12_draw_12 : decode cX12_draw 12 = .ok (.iadd, 1) := by decide +kernel
theorem dX12_draw_13 : decode cX12_draw 13 = .ok (.putfield 481, 3) := by decide +kernel
theorem dX12_draw_16 : decode cX12_draw 16 = .ok (.aload_n 0, 1) := by decide +kernel
theorem dX12_draw_17 : decode cX12_draw 17 = .ok (.getfield 481, 3) := by decide +kernel
theorem dX12_draw_20 : decode cX12_draw 20 = .ok (.bipush 8, 2) := by decide +kernel
theorem dX12_draw_22 : decode cX12_draw 22 = .ok (.iushr, 1) := by decide +kernel
theorem dX12_draw_23 : decode cX12_draw 23 = .ok (.iload_n 1, 1) := by decide +kernel
theorem dX12_draw_24 : decode cX12_draw 24 = .ok (.irem, 1) := by decide +kernel
theorem dX12_draw_25 : decode cX12_draw 25 = .ok (.ireturn, 1) := by decide +kernel
theorem dX12_draws_0 : decode cX12_draws 0 = .ok (.aload_n 0, 1) := by decide +kernel
theorem dX12_draws_1 : decode cX12_draws 1 = .ok (.iload_n 2, 1) := by decide +kernel
theorem dX12_draws_2 : decode cX12_draws 2 = .ok (.putfield 481, 3) := by decide +kernel
theorem dX12_draws_5 : decode cX12_draws 5 = .ok (.iconst 0, 1) := by decide +kernel
theorem dX12_draws_6 : decode cX12_draws 6 = .ok (.istore_n 3, 1) := by decide +kernel
theorem dX12_draws_7 : decode cX12_draws 7 = .ok (.iload_n 3, 1) := by decide +kernel
theorem dX12_draws_8 : decode cX12_draws 8 = .ok (.iload_n 1, 1) := by decide +kernel
theorem dX12_draws_9 : decode cX12_draws 9 = .ok (.if_icmp .ge 128, 3) := by decide +kernel
theorem dX12_draws_12 : decode cX12_draws 12 = .ok (.aload_n 0, 1) := by decide +kernel
theorem dX12_draws_13 : decode cX12_draws 13 = .ok (.getfield 33, 3) := by decide +kernel
theorem dX12_draws_16 : decode cX12_draws 16 = .ok (.bipush 97, 2) := by decide +kernel
theorem dX12_draws_18 : decode cX12_draws 18 = .ok (.iaload, 1) := by decide +kernel
theorem dX12_draws_19 : decode cX12_draws 19 = .ok (.sipush 400, 3) := by decide +kernel
theorem dX12_draws_22 : decode cX12_draws 22 = .ok (.if_icmp .ge 115, 3) := by decide +kernel
theorem dX12_draws_25 : decode cX12_draws 25 = .ok (.iconst 0, 1) := by decide +kernel
theorem dX12_draws_26 : decode cX12_draws 26 = .ok (.istore 4, 2) := by decide +kernel
theorem dX12_draws_28 : decode cX12_draws 28 = .ok (.iload 4, 2) := by decide +kernel
theorem dX12_draws_30 : decode cX12_draws 30 = .ok (.aload_n 0, 1) := by decide +kernel
theorem dX12_draws_31 : decode cX12_draws 31 = .ok (.getfield 33, 3) := by decide +kernel
theorem dX12_draws_34 : decode cX12_draws 34 = .ok (.iconst 2, 1) := by decide +kernel
theorem dX12_draws_35 : decode cX12_draws 35 = .ok (.iaload, 1) := by decide +kernel
theorem dX12_draws_36 : decode cX12_draws 36 = .ok (.if_icmp .ge 32, 3) := by decide +kernel
theorem dX12_draws_39 : decode cX12_draws 39 = .ok (.aload_n 0, 1) := by decide +kernel
theorem dX12_draws_40 : decode cX12_draws 40 = .ok (.bipush 8, 2) := by decide +kernel
theorem dX12_draws_42 : decode cX12_draws 42 = .ok (.invokevirtual 485, 3) := by decide +kernel
theorem dX12_draws_45 : decode cX12_draws 45 = .ok (.ifCond .ne 17, 3) := by decide +kernel
theorem dX12_draws_48 : decode cX12_draws 48 = .ok (.aload_n 0, 1) := by decide +kernel
theorem dX12_draws_49 : decode cX12_draws 49 = .ok (.getfield 33, 3) := by decide +kernel
theorem dX12_draws_52 : decode cX12_draws 52 = .ok (.bipush 98, 2) := by decide +kernel
theorem dX12_draws_54 : decode cX12_draws 54 = .ok (.dup2, 1) := by decide +kernel
theorem dX12_draws_55 : decode cX12_draws 55 = .ok (.iaload, 1) := by decide +kernel
theorem dX12_draws_56 : decode cX12_draws 56 = .ok (.iconst 1, 1) := by decide +kernel
theorem dX12_draws_57 : decode cX12_draws 57 = .ok (.iload 4, 2) := by decide +kernel
theorem dX12_draws_59 : decode cX12_draws 59 = .ok (.ishl, 1) := by decide +kernel
theorem dX12_draws_60 : decode cX12_draws 60 = .ok (.ixor, 1) := by decide +kernel
theorem dX12_draws_61 : decode cX12_draws 61 = .ok (.iastore, 1) := by decide +kernel
theorem dX12_draws_62 : decode cX12_draws 62 = .ok (.iinc 4 1, 3) := by decide +kernel
theorem dX12_draws_65 : decode cX12_draws 65 = .ok (.goto (-37), 3) := by decide +kernel
theorem dX12_draws_68 : decode cX12_draws 68 = .ok (.aload_n 0, 1) := by decide +kernel
theorem dX12_draws_69 : decode cX12_draws 69 = .ok (.bipush 6, 2) := by decide +kernel
theorem dX12_draws_71 : decode cX12_draws 71 = .ok (.invokevirtual 485, 3) := by decide +kernel
theorem dX12_draws_74 : decode cX12_draws 74 = .ok (.ifCond .ne 53, 3) := by decide +kernel
theorem dX12_draws_77 : decode cX12_draws 77 = .ok (.aload_n 0, 1) := by decide +kernel
theorem dX12_draws_78 : decode cX12_draws 78 = .ok (.getfield 33, 3) := by decide +kernel
theorem dX12_draws_81 : decode cX12_draws 81 = .ok (.bipush 100, 2) := by decide +kernel
theorem dX12_draws_83 : decode cX12_draws 83 = .ok (.iaload, 1) := by decide +kernel
theorem dX12_draws_84 : decode cX12_draws 84 = .ok (.ifCond .ne 43, 3) := by decide +kernel
theorem dX12_draws_87 : decode cX12_draws 87 = .ok (.aload_n 0, 1) := by decide +kernel
theorem dX12_draws_88 : decode cX12_draws 88 = .ok (.aload_n 0, 1) := by decide +kernel
theorem dX12_draws_89 : decode cX12_draws 89 = .ok (.getfield 33, 3) := by decide +kernel
theorem dX12_draws_92 : decode cX12_draws 92 = .ok (.iconst 3, 1) := by decide +kernel
theorem dX12_draws_93 : decode cX12_draws 93 = .ok (.iaload, 1) := by decide +kernel
theorem dX12_draws_94 : decode cX12_draws 94 = .ok (.invokevirtual 485, 3) := by decide +kernel
theorem dX12_draws_97 : decode cX12_draws 97 = .ok (.istore 4, 2) := by decide +kernel
theorem dX12_draws_99 : decode cX12_draws 99 = .ok (.aload_n 0, 1) := by decide +kernel
theorem dX12_draws_100 : decode cX12_draws 100 = .ok (.aload_n 0, 1) := by decide +kernel
theorem dX12_draws_101 : decode cX12_draws 101 = .ok (.getfield 33, 3) := by decide +kernel
theorem dX12_draws_104 : decode cX12_draws 104 = .ok (.iconst 4, 1) := by decide +kernel
theorem dX12_draws_105 : decode cX12_draws 105 = .ok (.iaload, 1) := by decide +kernel
theorem dX12_draws_106 : decode cX12_draws 106 = .ok (.invokevirtual 485, 3) := by decide +kernel
theorem dX12_draws_109 : decode cX12_draws 109 = .ok (.istore 5, 2) := by decide +kernel
theorem dX12_draws_111 : decode cX12_draws 111 = .ok (.aload_n 0, 1) := by decide +kernel
theorem dX12_draws_112 : decode cX12_draws 112 = .ok (.iload 4, 2) := by decide +kernel
theorem dX12_draws_114 : decode cX12_draws 114 = .ok (.iload 5, 2) := by decide +kernel
theorem dX12_draws_116 : decode cX12_draws 116 = .ok (.aload_n 0, 1) := by decide +kernel
theorem dX12_draws_117 : decode cX12_draws 117 = .ok (.bipush 30, 2) := by decide +kernel
theorem dX12_draws_119 : decode cX12_draws 119 = .ok (.invokevirtual 485, 3) := by decide +kernel
theorem dX12_draws_122 : decode cX12_draws 122 = .ok (.iconst 1, 1) := by decide +kernel
theorem dX12_draws_123 : decode cX12_draws 123 = .ok (.iadd, 1) := by decide +kernel
theorem dX12_draws_124 : decode cX12_draws 124 = .ok (.invokevirtual 395, 3) := by decide +kernel
theorem dX12_draws_127 : decode cX12_draws 127 = .ok (.aload_n 0, 1) := by decide +kernel
theorem dX12_draws_128 : decode cX12_draws 128 = .ok (.invokevirtual 380, 3) := by decide +kernel
theorem dX12_draws_131 : decode cX12_draws 131 = .ok (.iinc 3 1, 3) := by decide +kernel
theorem dX12_draws_134 : decode cX12_draws 134 = .ok (.goto (-127), 3) := by decide +kernel
theorem dX12_draws_137 : decode cX12_draws 137 = .ok (.iload_n 3, 1) := by decide +kernel
theorem dX12_draws_138 : decode cX12_draws 138 = .ok (.ireturn, 1) := by decide +kernel
theorem dX12_drawn_0 : decode cX12_drawn 0 = .ok (.aload_n 0, 1) := by decide +kernel
theorem dX12_drawn_1 : decode cX12_drawn 1 = .ok (.iconst 0, 1) := by decide +kernel
theorem dX12_drawn_2 : decode cX12_drawn 2 = .ok (.putfield 1, 3) := by decide +kernel
theorem dX12_drawn_5 : decode cX12_drawn 5 = .ok (.iload_n 1, 1) := by decide +kernel
theorem dX12_drawn_6 : decode cX12_drawn 6 = .ok (.iconst 1, 1) := by decide +kernel
theorem dX12_drawn_7 : decode cX12_drawn 7 = .ok (.bipush 60, 2) := by decide +kernel
theorem dX12_drawn_9 : decode cX12_drawn 9 = .ok (.invokestatic 223, 3) := by decide +kernel
theorem dX12_drawn_12 : decode cX12_drawn 12 = .ok (.ifCond .ne 5, 3) := by decide +kernel
theorem dX12_drawn_15 : decode cX12_drawn 15 = .ok (.iconst (-1), 1) := by decide +kernel
theorem dX12_drawn_16 : decode cX12_drawn 16 = .ok (.ireturn, 1) := by decide +kernel
theorem dX12_drawn_17 : decode cX12_drawn 17 = .ok (.aload_n 0, 1) := by decide +kernel
theorem dX12_drawn_18 : decode cX12_drawn 18 = .ok (.getfield 33, 3) := by decide +kernel
theorem dX12_drawn_21 : decode cX12_drawn 21 = .ok (.bipush 97, 2) := by decide +kernel
theorem dX12_drawn_23 : decode cX12_drawn 23 = .ok (.iaload, 1) := by decide +kernel
theorem dX12_drawn_24 : decode cX12_drawn 24 = .ok (.sipush 400, 3) := by decide +kernel
theorem dX12_drawn_27 : decode cX12_drawn 27 = .ok (.if_icmp .ge 7, 3) := by decide +kernel
theorem dX12_drawn_30 : decode cX12_drawn 30 = .ok (.aload_n 0, 1) := by decide +kernel
theorem dX12_drawn_31 : decode cX12_drawn 31 = .ok (.invokevirtual 386, 3) := by decide +kernel
theorem dX12_drawn_34 : decode cX12_drawn 34 = .ok (.aload_n 0, 1) := by decide +kernel
theorem dX12_drawn_35 : decode cX12_drawn 35 = .ok (.iload_n 1, 1) := by decide +kernel
theorem dX12_drawn_36 : decode cX12_drawn 36 = .ok (.iload_n 2, 1) := by decide +kernel
theorem dX12_drawn_37 : decode cX12_drawn 37 = .ok (.invokevirtual 488, 3) := by decide +kernel
theorem dX12_drawn_40 : decode cX12_drawn 40 = .ok (.ireturn, 1) := by decide +kernel
theorem dX12_odds_0 : decode cX12_odds 0 = .ok (.aload_n 0, 1) := by decide +kernel
theorem dX12_odds_1 : decode cX12_odds 1 = .ok (.iconst 0, 1) := by decide +kernel
theorem dX12_odds_2 : decode cX12_odds 2 = .ok (.putfield 1, 3) := by decide +kernel
theorem dX12_odds_5 : decode cX12_odds 5 = .ok (.aload_n 0, 1) := by decide +kernel
theorem dX12_odds_6 : decode cX12_odds 6 = .ok (.iload_n 1, 1) := by decide +kernel
theorem dX12_odds_7 : decode cX12_odds 7 = .ok (.invokevirtual 355, 3) := by decide +kernel
theorem dX12_odds_10 : decode cX12_odds 10 = .ok (.ifCond .eq 13, 3) := by decide +kernel
theorem dX12_odds_13 : decode cX12_odds 13 = .ok (.iload_n 2, 1) := by decide +kernel
theorem dX12_odds_14 : decode cX12_odds 14 = .ok (.iconst 1, 1) := by decide +kernel
theorem dX12_odds_15 : decode cX12_odds 15 = .ok (.bipush 30, 2) := by decide +kernel
theorem dX12_odds_17 : decode cX12_odds 17 = .ok (.invokestatic 223, 3) := by decide +kernel
theorem dX12_odds_20 : decode cX12_odds 20 = .ok (.ifCond .ne 5, 3) := by decide +kernel
theorem dX12_odds_23 : decode cX12_odds 23 = .ok (.iconst (-1), 1) := by decide +kernel
theorem dX12_odds_24 : decode cX12_odds 24 = .ok (.ireturn, 1) := by decide +kernel
theorem dX12_odds_25 : decode cX12_odds 25 = .ok (.aload_n 0, 1) := by decide +kernel
theorem dX12_odds_26 : decode cX12_odds 26 = .ok (.invokevirtual 402, 3) := by decide +kernel
theorem dX12_odds_29 : decode cX12_odds 29 = .ok (.aload_n 0, 1) := by decide +kernel
theorem dX12_odds_30 : decode cX12_odds 30 = .ok (.getfield 33, 3) := by decide +kernel
theorem dX12_odds_33 : decode cX12_odds 33 = .ok (.bipush 115, 2) := by decide +kernel
theorem dX12_odds_35 : decode cX12_odds 35 = .ok (.iload_n 1, 1) := by decide +kernel
theorem dX12_odds_36 : decode cX12_odds 36 = .ok (.iadd, 1) := by decide +kernel
theorem dX12_odds_37 : decode cX12_odds 37 = .ok (.iaload, 1) := by decide +kernel
theorem dX12_odds_38 : decode cX12_odds 38 = .ok (.istore 4, 2) := by decide +kernel
theorem dX12_odds_40 : decode cX12_odds 40 = .ok (.iconst 0, 1) := by decide +kernel
theorem dX12_odds_41 : decode cX12_odds 41 = .ok (.istore 5, 2) := by decide +kernel
theorem dX12_odds_43 : decode cX12_odds 43 = .ok (.iconst 0, 1) := by decide +kernel
theorem dX12_odds_44 : decode cX12_odds 44 = .ok (.istore 6, 2) := by decide +kernel
theorem dX12_odds_46 : decode cX12_odds 46 = .ok (.iload 6, 2) := by decide +kernel
theorem dX12_odds_48 : decode cX12_odds 48 = .ok (.iload_n 2, 1) := by decide +kernel
theorem dX12_odds_49 : decode cX12_odds 49 = .ok (.if_icmp .ge 48, 3) := by decide +kernel
theorem dX12_odds_52 : decode cX12_odds 52 = .ok (.aload_n 0, 1) := by decide +kernel
theorem dX12_odds_53 : decode cX12_odds 53 = .ok (.bipush 12, 2) := by decide +kernel
theorem dX12_odds_55 : decode cX12_odds 55 = .ok (.iload_n 3, 1) := by decide +kernel
theorem dX12_odds_56 : decode cX12_odds 56 = .ok (.iload 6, 2) := by decide +kernel
theorem dX12_odds_58 : decode cX12_odds 58 = .ok (.iadd, 1) := by decide +kernel
theorem dX12_odds_59 : decode cX12_odds 59 = .ok (.invokevirtual 488, 3) := by decide +kernel
theorem dX12_odds_62 : decode cX12_odds 62 = .ok (.pop, 1) := by decide +kernel
theorem dX12_odds_63 : decode cX12_odds 63 = .ok (.iload 5, 2) := by decide +kernel
theorem dX12_odds_65 : decode cX12_odds 65 = .ok (.aload_n 0, 1) := by decide +kernel
theorem dX12_odds_66 : decode cX12_odds 66 = .ok (.getfield 33, 3) := by decide +kernel
theorem dX12_odds_69 : decode cX12_odds 69 = .ok (.bipush 115, 2) := by decide +kernel
theorem dX12_odds_71 : decode cX12_odds 71 = .ok (.iload_n 1, 1) := by decide +kernel
theorem dX12_odds_72 : decode cX12_odds 72 = .ok (.iadd, 1) := by decide +kernel
theorem dX12_odds_73 : decode cX12_odds 73 = .ok (.iaload, 1) := by decide +kernel
theorem dX12_odds_74 : decode cX12_odds 74 = .ok (.iload 4, 2) := by decide +kernel
theorem dX12_odds_76 : decode cX12_odds 76 = .ok (.if_icmp .ne 7, 3) := by decide +kernel
theorem dX12_odds_79 : decode cX12_odds 79 = .ok (.iconst 1, 1) := by decide +kernel
theorem dX12_odds_80 : decode cX12_odds 80 = .ok (.goto 4, 3) := by decide +kernel
theorem dX12_odds_83 : decode cX12_odds 83 = .ok (.iconst 0, 1) := by decide +kernel
theorem dX12_odds_84 : decode cX12_odds 84 = .ok (.iadd, 1) := by decide +kernel
theorem dX12_odds_85 : decode cX12_odds 85 = .ok (.istore 5, 2) := by decide +kernel
theorem dX12_odds_87 : decode cX12_odds 87 = .ok (.aload_n 0, 1) := by decide +kernel
theorem dX12_odds_88 : decode cX12_odds 88 = .ok (.invokevirtual 405, 3) := by decide +kernel
theorem dX12_odds_91 : decode cX12_odds 91 = .ok (.iinc 6 1, 3) := by decide +kernel
theorem dX12_odds_94 : decode cX12_odds 94 = .ok (.goto (-48), 3) := by decide +kernel
theorem dX12_odds_97 : decode cX12_odds 97 = .ok (.iload 5, 2) := by decide +kernel
theorem dX12_odds_99 : decode cX12_odds 99 = .ok (.ireturn, 1) := by decide +kernel
theorem dX12_bookLine_0 : decode cX12_bookLine 0 = .ok (.iconst 4, 1) := by decide +kernel
theorem dX12_bookLine_1 : decode cX12_bookLine 1 = .ok (.aload_n 0, 1) := by decide +kernel
theorem dX12_bookLine_2 : decode cX12_bookLine 2 = .ok (.getfield 491, 3) := by decide +kernel
theorem dX12_bookLine_5 : decode cX12_bookLine 5 = .ok (.imul, 1) := by decide +kernel
theorem dX12_bookLine_6 : decode cX12_bookLine 6 = .ok (.istore_n 1, 1) := by decide +kernel
theorem dX12_bookLine_7 : decode cX12_bookLine 7 = .ok (.aload_n 0, 1) := by decide +kernel
theorem dX12_bookLine_8 : decode cX12_bookLine 8 = .ok (.ldc2_w 146, 3) := by decide +kernel
theorem dX12_bookLine_11 : decode cX12_bookLine 11 = .ok (.invokevirtual 248, 3) := by decide +kernel
theorem dX12_bookLine_14 : decode cX12_bookLine 14 = .ok (.ifCond .eq 7, 3) := by decide +kernel
theorem dX12_bookLine_17 : decode cX12_bookLine 17 = .ok (.iconst 0, 1) := by decide +kernel
theorem dX12_bookLine_18 : decode cX12_bookLine 18 = .ok (.goto 60, 3) := by decide +kernel
theorem dX12_bookLine_21 : decode cX12_bookLine 21 = .ok (.aload_n 0, 1) := by decide +kernel
theorem dX12_bookLine_22 : decode cX12_bookLine 22 = .ok (.ldc2_w 148, 3) := by decide +kernel
theorem dX12_bookLine_25 : decode cX12_bookLine 25 = .ok (.invokevirtual 248, 3) := by decide +kernel
theorem dX12_bookLine_28 : decode cX12_bookLine 28 = .ok (.ifCond .eq 7, 3) := by decide +kernel
theorem dX12_bookLine_31 : decode cX12_bookLine 31 = .ok (.iconst 1, 1) := by decide +kernel
theorem dX12_bookLine_32 : decode cX12_bookLine 32 = .ok (.goto 46, 3) := by decide +kernel
theorem dX12_bookLine_35 : decode cX12_bookLine 35 = .ok (.aload_n 0, 1) := by decide +kernel
theorem dX12_bookLine_36 : decode cX12_bookLine 36 = .ok (.ldc2_w 150, 3) := by decide +kernel
theorem dX12_bookLine_39 : decode cX12_bookLine 39 = .ok (.invokevirtual 248, 3) := by decide +kernel
theorem dX12_bookLine_42 : decode cX12_bookLine 42 = .ok (.ifCond .eq 7, 3) := by decide +kernel
theorem dX12_bookLine_45 : decode cX12_bookLine 45 = .ok (.iconst 2, 1) := by decide +kernel
theorem dX12_bookLine_46 : decode cX12_bookLine 46 = .ok (.goto 32, 3) := by decide +kernel
theorem dX12_bookLine_49 : decode cX12_bookLine 49 = .ok (.aload_n 0, 1) := by decide +kernel
theorem dX12_bookLine_50 : decode cX12_bookLine 50 = .ok (.ldc2_w 152, 3) := by decide +kernel
theorem dX12_bookLine_53 : decode cX12_bookLine 53 = .ok (.invokevirtual 248, 3) := by decide +kernel
theorem dX12_bookLine_56 : decode cX12_bookLine 56 = .ok (.ifCond .eq 7, 3) := by decide +kernel
theorem dX12_bookLine_59 : decode cX12_bookLine 59 = .ok (.iconst 3, 1) := by decide +kernel
theorem dX12_bookLine_60 : decode cX12_bookLine 60 = .ok (.goto 18, 3) := by decide +kernel
theorem dX12_bookLine_63 : decode cX12_bookLine 63 = .ok (.aload_n 0, 1) := by decide +kernel
theorem dX12_bookLine_64 : decode cX12_bookLine 64 = .ok (.ldc2_w 154, 3) := by decide +kernel
theorem dX12_bookLine_67 : decode cX12_bookLine 67 = .ok (.invokevirtual 248, 3) := by decide +kernel
theorem dX12_bookLine_70 : decode cX12_bookLine 70 = .ok (.ifCond .eq 7, 3) := by decide +kernel
theorem dX12_bookLine_73 : decode cX12_bookLine 73 = .ok (.iconst 4, 1) := by decide +kernel
theorem dX12_bookLine_74 : decode cX12_bookLine 74 = .ok (.goto 4, 3) := by decide +kernel
theorem dX12_bookLine_77 : decode cX12_bookLine 77 = .ok (.iconst (-1), 1) := by decide +kernel
theorem dX12_bookLine_78 : decode cX12_bookLine 78 = .ok (.istore_n 2, 1) := by decide +kernel
theorem dX12_bookLine_79 : decode cX12_bookLine 79 = .ok (.iload_n 2, 1) := by decide +kernel
theorem dX12_bookLine_80 : decode cX12_bookLine 80 = .ok (.ifCond .ge 9, 3) := by decide +kernel
theorem dX12_bookLine_83 : decode cX12_bookLine 83 = .ok (.aload_n 0, 1) := by decide +kernel
theorem dX12_bookLine_84 : decode cX12_bookLine 84 = .ok (.iconst 1, 1) := by decide +kernel
theorem dX12_bookLine_85 : decode cX12_bookLine 85 = .ok (.invokevirtual 217, 3) := by decide +kernel
theorem dX12_bookLine_88 : decode cX12_bookLine 88 = .ok (.ireturn, 1) := by decide +kernel
theorem dX12_bookLine_89 : decode cX12_bookLine 89 = .ok (.aload_n 0, 1) := by decide +kernel
theorem dX12_bookLine_90 : decode cX12_bookLine 90 = .ok (.getfield 491, 3) := by decide +kernel
theorem dX12_bookLine_93 : decode cX12_bookLine 93 = .ok (.bipush 40, 2) := by decide +kernel
theorem dX12_bookLine_95 : decode cX12_bookLine 95 = .ok (.if_icmp .ne 9, 3) := by decide +kernel
theorem dX12_bookLine_98 : decode cX12_bookLine 98 = .ok (.aload_n 0, 1) := by decide +kernel
theorem dX12_bookLine_99 : decode cX12_bookLine 99 = .ok (.iconst 4, 1) := by decide +kernel
theorem dX12_bookLine_100 : decode cX12_bookLine 100 = .ok (.invokevirtual 217, 3) := by decide +kernel
theorem dX12_bookLine_103 : decode cX12_bookLine 103 = .ok (.ireturn, 1) := by decide +kernel
theorem dX12_bookLine_104 : decode cX12_bookLine 104 = .ok (.aload_n 0, 1) := by decide +kernel
theorem dX12_bookLine_105 : decode cX12_bookLine 105 = .ok (.invokevirtual 220, 3) := by decide +kernel
theorem dX12_bookLine_108 : decode cX12_bookLine 108 = .ok (.aload_n 0, 1) := by decide +kernel
theorem dX12_bookLine_109 : decode cX12_bookLine 109 = .ok (.getfield 40, 3) := by decide +kernel
theorem dX12_bookLine_112 : decode cX12_bookLine 112 = .ok (.iload_n 1, 1) := by decide +kernel
theorem dX12_bookLine_113 : decode cX12_bookLine 113 = .ok (.iload_n 2, 1) := by decide +kernel
theorem dX12_bookLine_114 : decode cX12_bookLine 114 = .ok (.iastore, 1) := by decide +kernel
theorem dX12_bookLine_115 : decode cX12_bookLine 115 = .ok (.iload_n 2, 1) := by decide +kernel
theorem dX12_bookLine_116 : decode cX12_bookLine 116 = .ok (.ifCond .ne 18, 3) := by decide +kernel
theorem dX12_bookLine_119 : decode cX12_bookLine 119 = .ok (.aload_n 0, 1) := by decide +kernel
theorem dX12_bookLine_120 : decode cX12_bookLine 120 = .ok (.bipush 6, 2) := by decide +kernel
theorem dX12_bookLine_122 : decode cX12_bookLine 122 = .ok (.aload_n 0, 1) := by decide +kernel
theorem dX12_bookLine_123 : decode cX12_bookLine 123 = .ok (.getfield 33, 3) := by decide +kernel
theorem dX12_bookLine_126 : decode cX12_bookLine 126 = .ok (.iconst 1, 1) := by decide +kernel
theorem dX12_bookLine_127 : decode cX12_bookLine 127 = .ok (.iaload, 1) := by decide +kernel
theorem dX12_bookLine_128 : decode cX12_bookLine 128 = .ok (.invokevirtual 286, 3) := by decide +kernel
theorem dX12_bookLine_131 : decode cX12_bookLine 131 = .ok (.goto 45, 3) := by decide +kernel
theorem dX12_bookLine_134 : decode cX12_bookLine 134 = .ok (.iload_n 2, 1) := by decide +kernel
theorem dX12_bookLine_135 : decode cX12_bookLine 135 = .ok (.iconst 3, 1) := by decide +kernel
theorem dX12_bookLine_136 : decode cX12_bookLine 136 = .ok (.if_icmp .ge 18, 3) := by decide +kernel
theorem dX12_bookLine_139 : decode cX12_bookLine 139 = .ok (.aload_n 0, 1) := by decide +kernel
theorem dX12_bookLine_140 : decode cX12_bookLine 140 = .ok (.bipush 12, 2) := by decide +kernel
theorem dX12_bookLine_142 : decode cX12_bookLine 142 = .ok (.aload_n 0, 1) := by decide +kernel
theorem dX12_bookLine_143 : decode cX12_bookLine 143 = .ok (.getfield 33, 3) := by decide +kernel
theorem dX12_bookLine_146 : decode cX12_bookLine 146 = .ok (.iconst 2, 1) := by decide +kernel
theorem dX12_bookLine_147 : decode cX12_bookLine 147 = .ok (.iaload, 1) := by decide +kernel
theorem dX12_bookLine_148 : decode cX12_bookLine 148 = .ok (.invokevirtual 286, 3) := by decide +kernel
theorem dX12_bookLine_151 : decode cX12_bookLine 151 = .ok (.goto 25, 3) := by decide +kernel
theorem dX12_bookLine_154 : decode cX12_bookLine 154 = .ok (.iload_n 2, 1) := by decide +kernel
theorem dX12_bookLine_155 : decode cX12_bookLine 155 = .ok (.iconst 3, 1) := by decide +kernel
theorem dX12_bookLine_156 : decode cX12_bookLine 156 = .ok (.if_icmp .ne 13, 3) := by decide +kernel
theorem dX12_bookLine_159 : decode cX12_bookLine 159 = .ok (.aload_n 0, 1) := by decide +kernel
theorem dX12_bookLine_160 : decode cX12_bookLine 160 = .ok (.iconst 0, 1) := by decide +kernel
theorem dX12_bookLine_161 : decode cX12_bookLine 161 = .ok (.bipush 8, 2) := by decide +kernel
theorem dX12_bookLine_163 : decode cX12_bookLine 163 = .ok (.invokevirtual 230, 3) := by decide +kernel
theorem dX12_bookLine_166 : decode cX12_bookLine 166 = .ok (.goto 10, 3) := by decide +kernel
theorem dX12_bookLine_169 : decode cX12_bookLine 169 = .ok (.aload_n 0, 1) := by decide +kernel
theorem dX12_bookLine_170 : decode cX12_bookLine 170 = .ok (.iconst 1, 1) := by decide +kernel
theorem dX12_bookLine_171 : decode cX12_bookLine 171 = .ok (.bipush 60, 2) := by decide +kernel
theorem dX12_bookLine_173 : decode cX12_bookLine 173 = .ok (.invokevirtual 230, 3) := by decide +kernel
theorem dX12_bookLine_176 : decode cX12_bookLine 176 = .ok (.istore_n 3, 1) := by decide +kernel
theorem dX12_bookLine_177 : decode cX12_bookLine 177 = .ok (.iload_n 3, 1) := by decide +kernel
theorem dX12_bookLine_178 : decode cX12_bookLine 178 = .ok (.ifCond .ne 5, 3) := by decide +kernel
theorem dX12_bookLine_181 : decode cX12_bookLine 181 = .ok (.iconst 0, 1) := by decide +kernel
theorem dX12_bookLine_182 : decode cX12_bookLine 182 = .ok (.ireturn, 1) := by decide +kernel
theorem dX12_bookLine_183 : decode cX12_bookLine 183 = .ok (.aload_n 0, 1) := by decide +kernel
theorem dX12_bookLine_184 : decode cX12_bookLine 184 = .ok (.getfield 40, 3) := by decide +kernel
theorem dX12_bookLine_187 : decode cX12_bookLine 187 = .ok (.iload_n 1, 1) := by decide +kernel
theorem dX12_bookLine_188 : decode cX12_bookLine 188 = .ok (.iconst 1, 1) := by decide +kernel
theorem dX12_bookLine_189 : decode cX12_bookLine 189 = .ok (.iadd, 1) := by decide +kernel
theorem dX12_bookLine_190 : decode cX12_bookLine 190 = .ok (.aload_n 0, 1) := by decide +kernel
theorem dX12_bookLine_191 : decode cX12_bookLine 191 = .ok (.getfield 227, 3) := by decide +kernel
theorem dX12_bookLine_194 : decode cX12_bookLine 194 = .ok (.iastore, 1) := by decide +kernel
theorem dX12_bookLine_195 : decode cX12_bookLine 195 = .ok (.iload_n 2, 1) := by decide +kernel
theorem dX12_bookLine_196 : decode cX12_bookLine 196 = .ok (.ifCond .eq 10, 3) := by decide +kernel
theorem dX12_bookLine_199 : decode cX12_bookLine 199 = .ok (.iload_n 2, 1) := by decide +kernel
theorem dX12_bookLine_200 : decode cX12_bookLine 200 = .ok (.iconst 3, 1) := by decide +kernel
theorem dX12_bookLine_201 : decode cX12_bookLine 201 = .ok (.if_icmp .eq 5, 3) := by decide +kernel
theorem dX12_bookLine_204 : decode cX12_bookLine 204 = .ok (.iconst 1, 1) := by decide +kernel
theorem dX12_bookLine_205 : decode cX12_bookLine 205 = .ok (.ireturn, 1) := by decide +kernel
theorem dX12_bookLine_206 : decode cX12_bookLine 206 = .ok (.iload_n 2, 1) := by decide +kernel
theorem dX12_bookLine_207 : decode cX12_bookLine 207 = .ok (.ifCond .ne 17, 3) := by decide +kernel
theorem dX12_bookLine_210 : decode cX12_bookLine 210 = .ok (.aload_n 0, 1) := by decide +kernel
theorem dX12_bookLine_211 : decode cX12_bookLine 211 = .ok (.iconst 0, 1) := by decide +kernel
theorem dX12_bookLine_212 : decode cX12_bookLine 212 = .ok (.aload_n 0, 1) := by decide +kernel
theorem dX12_bookLine_213 : decode cX12_bookLine 213 = .ok (.getfield 33, 3) := by decide +kernel
theorem dX12_bookLine_216 : decode cX12_bookLine 216 = .ok (.iconst 0, 1) := by decide +kernel
theorem dX12_bookLine_217 : decode cX12_bookLine 217 = .ok (.iaload, 1) := by decide +kernel
theorem dX12_bookLine_218 : decode cX12_bookLine 218 = .ok (.invokevirtual 286, 3) := by decide +kernel
theorem dX12_bookLine_221 : decode cX12_bookLine 221 = .ok (.goto 10, 3) := by decide +kernel
theorem dX12_bookLine_224 : decode cX12_bookLine 224 = .ok (.aload_n 0, 1) := by decide +kernel
theorem dX12_bookLine_225 : decode cX12_bookLine 225 = .ok (.iconst 0, 1) := by decide +kernel
theorem dX12_bookLine_226 : decode cX12_bookLine 226 = .ok (.bipush 8, 2) := by decide +kernel
theorem dX12_bookLine_228 : decode cX12_bookLine 228 = .ok (.invokevirtual 230, 3) := by decide +kernel
theorem dX12_bookLine_231 : decode cX12_bookLine 231 = .ok (.istore_n 3, 1) := by decide +kernel
theorem dX12_bookLine_232 : decode cX12_bookLine 232 = .ok (.iload_n 3, 1) := by decide +kernel
theorem dX12_bookLine_233 : decode cX12_bookLine 233 = .ok (.ifCond .ne 5, 3) := by decide +kernel
theorem dX12_bookLine_236 : decode cX12_bookLine 236 = .ok (.iconst 0, 1) := by decide +kernel
theorem dX12_bookLine_237 : decode cX12_bookLine 237 = .ok (.ireturn, 1) := by decide +kernel
theorem dX12_bookLine_238 : decode cX12_bookLine 238 = .ok (.aload_n 0, 1) := by decide +kernel
theorem dX12_bookLine_239 : decode cX12_bookLine 239 = .ok (.getfield 40, 3) := by decide +kernel
theorem dX12_bookLine_242 : decode cX12_bookLine 242 = .ok (.iload_n 1, 1) := by decide +kernel
theorem dX12_bookLine_243 : decode cX12_bookLine 243 = .ok (.iconst 2, 1) := by decide +kernel
theorem dX12_bookLine_244 : decode cX12_bookLine 244 = .ok (.iadd, 1) := by decide +kernel
theorem dX12_bookLine_245 : decode cX12_bookLine 245 = .ok (.aload_n 0, 1) := by decide +kernel
theorem dX12_bookLine_246 : decode cX12_bookLine 246 = .ok (.getfield 227, 3) := by decide +kernel
theorem dX12_bookLine_249 : decode cX12_bookLine 249 = .ok (.iastore, 1) := by decide +kernel
theorem dX12_bookLine_250 : decode cX12_bookLine 250 = .ok (.iload_n 2, 1) := by decide +kernel
theorem dX12_bookLine_251 : decode cX12_bookLine 251 = .ok (.ifCond .ne 5, 3) := by decide +kernel
theorem dX12_bookLine_254 : decode cX12_bookLine 254 = .ok (.iconst 1, 1) := by decide +kernel
theorem dX12_bookLine_255 : decode cX12_bookLine 255 = .ok (.ireturn, 1) := by decide +kernel
theorem dX12_bookLine_256 : decode cX12_bookLine 256 = .ok (.aload_n 0, 1) := by decide +kernel
theorem dX12_bookLine_257 : decode cX12_bookLine 257 = .ok (.iconst 1, 1) := by decide +kernel
theorem dX12_bookLine_258 : decode cX12_bookLine 258 = .ok (.bipush 30, 2) := by decide +kernel
theorem dX12_bookLine_260 : decode cX12_bookLine 260 = .ok (.invokevirtual 230, 3) := by decide +kernel
theorem dX12_bookLine_263 : decode cX12_bookLine 263 = .ok (.ifCond .ne 5, 3) := by decide +kernel
theorem dX12_bookLine_266 : decode cX12_bookLine 266 = .ok (.iconst 0, 1) := by decide +kernel
theorem dX12_bookLine_267 : decode cX12_bookLine 267 = .ok (.ireturn, 1) := by decide +kernel
theorem dX12_bookLine_268 : decode cX12_bookLine 268 = .ok (.aload_n 0, 1) := by decide +kernel
theorem dX12_bookLine_269 : decode cX12_bookLine 269 = .ok (.getfield 40, 3) := by decide +kernel
theorem dX12_bookLine_272 : decode cX12_bookLine 272 = .ok (.iload_n 1, 1) := by decide +kernel
theorem dX12_bookLine_273 : decode cX12_bookLine 273 = .ok (.iconst 3, 1) := by decide +kernel
theorem dX12_bookLine_274 : decode cX12_bookLine 274 = .ok (.iadd, 1) := by decide +kernel
theorem dX12_bookLine_275 : decode cX12_bookLine 275 = .ok (.aload_n 0, 1) := by decide +kernel
theorem dX12_bookLine_276 : decode cX12_bookLine 276 = .ok (.getfield 227, 3) := by decide +kernel
theorem dX12_bookLine_279 : decode cX12_bookLine 279 = .ok (.iastore, 1) := by decide +kernel
theorem dX12_bookLine_280 : decode cX12_bookLine 280 = .ok (.iconst 1, 1) := by decide +kernel
theorem dX12_bookLine_281 : decode cX12_bookLine 281 = .ok (.ireturn, 1) := by decide +kernel
theorem dX12_does_0 : decode cX12_does 0 = .ok (.iload_n 1, 1) := by decide +kernel
theorem dX12_does_1 : decode cX12_does 1 = .ok (.tableswitch 138 0 3 #[31, 57, 57, 103], 31) := by decide +kernel
theorem dX12_does_32 : decode cX12_does 32 = .ok (.aload_n 0, 1) := by decide +kernel
theorem dX12_does_33 : decode cX12_does 33 = .ok (.iload_n 2, 1) := by decide +kernel
theorem dX12_does_34 : decode cX12_does 34 = .ok (.iload_n 3, 1) := by decide +kernel
theorem dX12_does_35 : decode cX12_does 35 = .ok (.invokevirtual 383, 3) := by decide +kernel
theorem dX12_does_38 : decode cX12_does 38 = .ok (.istore 5, 2) := by decide +kernel
theorem dX12_does_40 : decode cX12_does 40 = .ok (.iload 5, 2) := by decide +kernel
theorem dX12_does_42 : decode cX12_does 42 = .ok (.ifCond .ne 13, 3) := by decide +kernel
theorem dX12_does_45 : decode cX12_does 45 = .ok (.aload_n 0, 1) := by decide +kernel
theorem dX12_does_46 : decode cX12_does 46 = .ok (.getfield 33, 3) := by decide +kernel
theorem dX12_does_49 : decode cX12_does 49 = .ok (.bipush 103, 2) := by decide +kernel
theorem dX12_does_51 : decode cX12_does 51 = .ok (.iload_n 2, 1) := by decide +kernel
theorem dX12_does_52 : decode cX12_does 52 = .ok (.iadd, 1) := by decide +kernel
theorem dX12_does_53 : decode cX12_does 53 = .ok (.iload_n 3, 1) := by decide +kernel
theorem dX12_does_54 : decode cX12_does 54 = .ok (.iastore, 1) := by decide +kernel
theorem dX12_does_55 : decode cX12_does 55 = .ok (.iload 5, 2) := by decide +kernel
theorem dX12_does_57 : decode cX12_does 57 = .ok (.ireturn, 1) := by decide +kernel
theorem dX12_does_58 : decode cX12_does 58 = .ok (.aload_n 0, 1) := by decide +kernel
theorem dX12_does_59 : decode cX12_does 59 = .ok (.getfield 33, 3) := by decide +kernel
theorem dX12_does_62 : decode cX12_does 62 = .ok (.bipush 98, 2) := by decide +kernel
theorem dX12_does_64 : decode cX12_does 64 = .ok (.iaload, 1) := by decide +kernel
theorem dX12_does_65 : decode cX12_does 65 = .ok (.iload_n 2, 1) := by decide +kernel
theorem dX12_does_66 : decode cX12_does 66 = .ok (.invokestatic 292, 3) := by decide +kernel
theorem dX12_does_69 : decode cX12_does 69 = .ok (.iload_n 1, 1) := by decide +kernel
theorem dX12_does_70 : decode cX12_does 70 = .ok (.iconst 1, 1) := by decide +kernel
theorem dX12_does_71 : decode cX12_does 71 = .ok (.if_icmp .ne 7, 3) := by decide +kernel
theorem dX12_does_74 : decode cX12_does 74 = .ok (.iconst 1, 1) := by decide +kernel
theorem dX12_does_75 : decode cX12_does 75 = .ok (.goto 4, 3) := by decide +kernel
theorem dX12_does_78 : decode cX12_does 78 = .ok (.iconst 0, 1) := by decide +kernel
theorem dX12_does_79 : decode cX12_does 79 = .ok (.if_icmp .ne 10, 3) := by decide +kernel
theorem dX12_does_82 : decode cX12_does 82 = .ok (.bipush 10, 2) := by decide +kernel
theorem dX12_does_84 : decode cX12_does 84 = .ok (.iload_n 1, 1) := by decide +kernel
theorem dX12_does_85 : decode cX12_does 85 = .ok (.imul, 1) := by decide +kernel
theorem dX12_does_86 : decode cX12_does 86 = .ok (.iconst 1, 1) := by decide +kernel
theorem dX12_does_87 : decode cX12_does 87 = .ok (.iadd, 1) := by decide +kernel
theorem dX12_does_88 : decode cX12_does 88 = .ok (.ireturn, 1) := by decide +kernel
theorem dX12_does_89 : decode cX12_does 89 = .ok (.aload_n 0, 1) := by decide +kernel
theorem dX12_does_90 : decode cX12_does 90 = .ok (.getfield 33, 3) := by decide +kernel
theorem dX12_does_93 : decode cX12_does 93 = .ok (.bipush 98, 2) := by decide +kernel
theorem dX12_does_95 : decode cX12_does 95 = .ok (.dup2, 1) := by decide +kernel
theorem dX12_does_96 : decode cX12_does 96 = .ok (.iaload, 1) := by decide +kernel
theorem dX12_does_97 : decode cX12_does 97 = .ok (.iconst 1, 1) := by decide +kernel
theorem dX12_does_98 : decode cX12_does 98 = .ok (.iload_n 2, 1) := by decide +kernel
theorem dX12_does_99 : decode cX12_does 99 = .ok (.ishl, 1) := by decide +kernel
theorem dX12_does_100 : decode cX12_does 100 = .ok (.ixor, 1) := by decide +kernel
theorem dX12_does_101 : decode cX12_does 101 = .ok (.iastore, 1) := by decide +kernel
theorem dX12_does_102 : decode cX12_does 102 = .ok (.iconst 0, 1) := by decide +kernel
theorem dX12_does_103 : decode cX12_does 103 = .ok (.ireturn, 1) := by decide +kernel
theorem dX12_does_104 : decode cX12_does 104 = .ok (.aload_n 0, 1) := by decide +kernel
theorem dX12_does_105 : decode cX12_does 105 = .ok (.iload_n 2, 1) := by decide +kernel
theorem dX12_does_106 : decode cX12_does 106 = .ok (.iload_n 3, 1) := by decide +kernel
theorem dX12_does_107 : decode cX12_does 107 = .ok (.invokevirtual 392, 3) := by decide +kernel
theorem dX12_does_110 : decode cX12_does 110 = .ok (.ifCond .ne 6, 3) := by decide +kernel
theorem dX12_does_113 : decode cX12_does 113 = .ok (.bipush 39, 2) := by decide +kernel
theorem dX12_does_115 : decode cX12_does 115 = .ok (.ireturn, 1) := by decide +kernel
theorem dX12_does_116 : decode cX12_does 116 = .ok (.aload_n 0, 1) := by decide +kernel
theorem dX12_does_117 : decode cX12_does 117 = .ok (.getfield 33, 3) := by decide +kernel
theorem dX12_does_120 : decode cX12_does 120 = .ok (.bipush 100, 2) := by decide +kernel
theorem dX12_does_122 : decode cX12_does 122 = .ok (.iaload, 1) := by decide +kernel
theorem dX12_does_123 : decode cX12_does 123 = .ok (.ifCond .le 6, 3) := by decide +kernel
theorem dX12_does_126 : decode cX12_does 126 = .ok (.bipush 31, 2) := by decide +kernel
theorem dX12_does_128 : decode cX12_does 128 = .ok (.ireturn, 1) := by decide +kernel
theorem dX12_does_129 : decode cX12_does 129 = .ok (.aload_n 0, 1) := by decide +kernel
theorem dX12_does_130 : decode cX12_does 130 = .ok (.iload_n 2, 1) := by decide +kernel
theorem dX12_does_131 : decode cX12_does 131 = .ok (.iload_n 3, 1) := by decide +kernel
theorem dX12_does_132 : decode cX12_does 132 = .ok (.iload 4, 2) := by decide +kernel
theorem dX12_does_134 : decode cX12_does 134 = .ok (.invokevirtual 395, 3) := by decide +kernel
theorem dX12_does_137 : decode cX12_does 137 = .ok (.iconst 0, 1) := by decide +kernel
theorem dX12_does_138 : decode cX12_does 138 = .ok (.ireturn, 1) := by decide +kernel
theorem dX12_does_139 : decode cX12_does 139 = .ok (.aload_n 0, 1) := by decide +kernel
theorem dX12_does_140 : decode cX12_does 140 = .ok (.getfield 33, 3) := by decide +kernel
theorem dX12_does_143 : decode cX12_does 143 = .ok (.bipush 97, 2) := by decide +kernel
theorem dX12_does_145 : decode cX12_does 145 = .ok (.iaload, 1) := by decide +kernel
theorem dX12_does_146 : decode cX12_does 146 = .ok (.iload_n 2, 1) := by decide +kernel
theorem dX12_does_147 : decode cX12_does 147 = .ok (.iadd, 1) := by decide +kernel
theorem dX12_does_148 : decode cX12_does 148 = .ok (.sipush 400, 3) := by decide +kernel
theorem dX12_does_151 : decode cX12_does 151 = .ok (.if_icmp .le 6, 3) := by decide +kernel
theorem dX12_does_154 : decode cX12_does 154 = .ok (.bipush 41, 2) := by decide +kernel
theorem dX12_does_156 : decode cX12_does 156 = .ok (.ireturn, 1) := by decide +kernel
theorem dX12_does_157 : decode cX12_does 157 = .ok (.aload_n 0, 1) := by decide +kernel
theorem dX12_does_158 : decode cX12_does 158 = .ok (.iload_n 2, 1) := by decide +kernel
theorem dX12_does_159 : decode cX12_does 159 = .ok (.invokevirtual 399, 3) := by decide +kernel
theorem dX12_does_162 : decode cX12_does 162 = .ok (.pop, 1) := by decide +kernel
theorem dX12_does_163 : decode cX12_does 163 = .ok (.iconst 0, 1) := by decide +kernel
theorem dX12_does_164 : decode cX12_does 164 = .ok (.ireturn, 1) := by decide +kernel
theorem dX12_book_0 : decode cX12_book 0 = .ok (.aload_n 0, 1) := by decide +kernel
theorem dX12_book_1 : decode cX12_book 1 = .ok (.iconst 0, 1) := by decide +kernel
theorem dX12_book_2 : decode cX12_book 2 = .ok (.putfield 1, 3) := by decide +kernel
theorem dX12_book_5 : decode cX12_book 5 = .ok (.iload_n 1, 1) := by decide +kernel
theorem dX12_book_6 : decode cX12_book 6 = .ok (.iconst 0, 1) := by decide +kernel
theorem dX12_book_7 : decode cX12_book 7 = .ok (.iconst 1, 1) := by decide +kernel
theorem dX12_book_8 : decode cX12_book 8 = .ok (.invokestatic 223, 3) := by decide +kernel
theorem dX12_book_11 : decode cX12_book 11 = .ok (.ifCond .ne 7, 3) := by decide +kernel
theorem dX12_book_14 : decode cX12_book 14 = .ok (.sipush (-1000), 3) := by decide +kernel
theorem dX12_book_17 : decode cX12_book 17 = .ok (.ireturn, 1) := by decide +kernel
theorem dX12_book_18 : decode cX12_book 18 = .ok (.aload_n 0, 1) := by decide +kernel
theorem dX12_book_19 : decode cX12_book 19 = .ok (.sipush 400, 3) := by decide +kernel
theorem dX12_book_22 : decode cX12_book 22 = .ok (.invokevirtual 295, 3) := by decide +kernel
theorem dX12_book_25 : decode cX12_book 25 = .ok (.aload_n 0, 1) := by decide +kernel
theorem dX12_book_26 : decode cX12_book 26 = .ok (.iconst 0, 1) := by decide +kernel
theorem dX12_book_27 : decode cX12_book 27 = .ok (.putfield 208, 3) := by decide +kernel
theorem dX12_book_30 : decode cX12_book 30 = .ok (.aload_n 0, 1) := by decide +kernel
theorem dX12_book_31 : decode cX12_book 31 = .ok (.iconst 0, 1) := by decide +kernel
theorem dX12_book_32 : decode cX12_book 32 = .ok (.putfield 491, 3) := by decide +kernel
theorem dX12_book_35 : decode cX12_book 35 = .ok (.aload_n 0, 1) := by decide +kernel
theorem dX12_book_36 : decode cX12_book 36 = .ok (.invokevirtual 220, 3) := by decide +kernel
theorem dX12_book_39 : decode cX12_book 39 = .ok (.aload_n 0, 1) := by decide +kernel
theorem dX12_book_40 : decode cX12_book 40 = .ok (.getfield 191, 3) := by decide +kernel
theorem dX12_book_43 : decode cX12_book 43 = .ok (.ifCond .eq 40, 3) := by decide +kernel
theorem dX12_book_46 : decode cX12_book 46 = .ok (.aload_n 0, 1) := by decide +kernel
theorem dX12_book_47 : decode cX12_book 47 = .ok (.invokevirtual 494, 3) := by decide +kernel
theorem dX12_book_50 : decode cX12_book 50 = .ok (.ifCond .eq 12, 3) := by decide +kernel
theorem dX12_book_53 : decode cX12_book 53 = .ok (.aload_n 0, 1) := by decide +kernel
theorem dX12_book_54 : decode cX12_book 54 = .ok (.bipush 59, 2) := by decide +kernel
theorem dX12_book_56 : decode cX12_book 56 = .ok (.invokevirtual 304, 3) := by decide +kernel
theorem dX12_book_59 : decode cX12_book 59 = .ok (.ifCond .ne 11, 3) := by decide +kernel
theorem dX12_book_62 : decode cX12_book 62 = .ok (.bipush (-2), 2) := by decide +kernel
theorem dX12_book_64 : decode cX12_book 64 = .ok (.aload_n 0, 1) := by decide +kernel
theorem dX12_book_65 : decode cX12_book 65 = .ok (.getfield 211, 3) := by decide +kernel
theorem dX12_book_68 : decode cX12_book 68 = .ok (.isub, 1) := by decide +kernel
theorem dX12_book_69 : decode cX12_book 69 = .ok (.ireturn, 1) := by decide +kernel
theorem dX12_book_70 : decode cX12_book 70 = .ok (.aload_n 0, 1) := by decide +kernel
theorem dX12_book_71 : decode cX12_book 71 = .ok (.dup, 1) := by decide +kernel
theorem dX12_book_72 : decode cX12_book 72 = .ok (.getfield 491, 3) := by decide +kernel
theorem dX12_book_75 : decode cX12_book 75 = .ok (.iconst 1, 1) := by decide +kernel
theorem dX12_book_76 : decode cX12_book 76 = .ok (.iadd, 1) := by decide +kernel
theorem dX12_book_77 : decode cX12_book 77 = .ok (.putfield 491, 3) := by decide +kernel
theorem dX12_book_80 : decode cX12_book 80 = .ok (.goto (-41), 3) := by decide +kernel
theorem dX12_book_83 : decode cX12_book 83 = .ok (.aload_n 0, 1) := by decide +kernel
theorem dX12_book_84 : decode cX12_book 84 = .ok (.invokevirtual 402, 3) := by decide +kernel
theorem dX12_book_87 : decode cX12_book 87 = .ok (.iconst 0, 1) := by decide +kernel
theorem dX12_book_88 : decode cX12_book 88 = .ok (.istore_n 2, 1) := by decide +kernel
theorem dX12_book_89 : decode cX12_book 89 = .ok (.iload_n 2, 1) := by decide +kernel
theorem dX12_book_90 : decode cX12_book 90 = .ok (.iconst 4, 1) := by decide +kernel
theorem dX12_book_91 : decode cX12_book 91 = .ok (.if_icmp .ge 16, 3) := by decide +kernel
theorem dX12_book_94 : decode cX12_book 94 = .ok (.aload_n 0, 1) := by decide +kernel
theorem dX12_book_95 : decode cX12_book 95 = .ok (.getfield 96, 3) := by decide +kernel
theorem dX12_book_98 : decode cX12_book 98 = .ok (.iload_n 2, 1) := by decide +kernel
theorem dX12_book_99 : decode cX12_book 99 = .ok (.iconst 0, 1) := by decide +kernel
theorem dX12_book_100 : decode cX12_book 100 = .ok (.iastore, 1) := by decide +kernel
theorem dX12_book_101 : decode cX12_book 101 = .ok (.iinc 2 1, 3) := by decide +kernel
theorem dX12_book_104 : decode cX12_book 104 = .ok (.goto (-15), 3) := by decide +kernel
theorem dX12_book_107 : decode cX12_book 107 = .ok (.iconst (-1), 1) := by decide +kernel
theorem dX12_book_108 : decode cX12_book 108 = .ok (.istore_n 2, 1) := by decide +kernel
theorem dX12_book_109 : decode cX12_book 109 = .ok (.iconst 0, 1) := by decide +kernel
theorem dX12_book_110 : decode cX12_book 110 = .ok (.istore_n 3, 1) := by decide +kernel
theorem dX12_book_111 : decode cX12_book 111 = .ok (.iload_n 3, 1) := by decide +kernel
theorem dX12_book_112 : decode cX12_book 112 = .ok (.aload_n 0, 1) := by decide +kernel
theorem dX12_book_113 : decode cX12_book 113 = .ok (.getfield 491, 3) := by decide +kernel
theorem dX12_book_116 : decode cX12_book 116 = .ok (.if_icmp .ge 85, 3) := by decide +kernel
theorem dX12_book_119 : decode cX12_book 119 = .ok (.iload_n 2, 1) := by decide +kernel
theorem dX12_book_120 : decode cX12_book 120 = .ok (.ifCond .ge 81, 3) := by decide +kernel
theorem dX12_book_123 : decode cX12_book 123 = .ok (.aload_n 0, 1) := by decide +kernel
theorem dX12_book_124 : decode cX12_book 124 = .ok (.getfield 96, 3) := by decide +kernel
theorem dX12_book_127 : decode cX12_book 127 = .ok (.iconst 0, 1) := by decide +kernel
theorem dX12_book_128 : decode cX12_book 128 = .ok (.aload_n 0, 1) := by decide +kernel
theorem dX12_book_129 : decode cX12_book 129 = .ok (.aload_n 0, 1) := by decide +kernel
theorem dX12_book_130 : decode cX12_book 130 = .ok (.getfield 40, 3) := by decide +kernel
theorem dX12_book_133 : decode cX12_book 133 = .ok (.iconst 4, 1) := by decide +kernel
theorem dX12_book_134 : decode cX12_book 134 = .ok (.iload_n 3, 1) := by decide +kernel
theorem dX12_book_135 : decode cX12_book 135 = .ok (.imul, 1) := by decide +kernel
theorem dX12_book_136 : decode cX12_book 136 = .ok (.iaload, 1) := by decide +kernel
theorem dX12_book_137 : decode cX12_book 137 = .ok (.aload_n 0, 1) := by decide +kernel
theorem dX12_book_138 : decode cX12_book 138 = .ok (.getfield 40, 3) := by decide +kernel
theorem dX12_book_141 : decode cX12_book 141 = .ok (.iconst 4, 1) := by decide +kernel
theorem dX12_book_142 : decode cX12_book 142 = .ok (.iload_n 3, 1) := by decide +kernel
theorem dX12_book_143 : decode cX12_book 143 = .ok (.imul, 1) := by decide +kernel
theorem dX12_book_144 : decode cX12_book 144 = .ok (.iconst 1, 1) := by decide +kernel
theorem dX12_book_145 : decode cX12_book 145 = .ok (.iadd, 1) := by decide +kernel
theorem dX12_book_146 : decode cX12_book 146 = .ok (.iaload, 1) := by decide +kernel
theorem dX12_book_147 : decode cX12_book 147 = .ok (.aload_n 0, 1) := by decide +kernel
theorem dX12_book_148 : decode cX12_book 148 = .ok (.getfield 40, 3) := by decide +kernel
theorem dX12_book_151 : decode cX12_book 151 = .ok (.iconst 4, 1) := by decide +kernel
theorem dX12_book_152 : decode cX12_book 152 = .ok (.iload_n 3, 1) := by decide +kernel
theorem dX12_book_153 : decode cX12_book 153 = .ok (.imul, 1) := by decide +kernel
theorem dX12_book_154 : decode cX12_book 154 = .ok (.iconst 2, 1) := by decide +kernel
theorem dX12_book_155 : decode cX12_book 155 = .ok (.iadd, 1) := by decide +kernel
theorem dX12_book_156 : decode cX12_book 156 = .ok (.iaload, 1) := by decide +kernel
theorem dX12_book_157 : decode cX12_book 157 = .ok (.aload_n 0, 1) := by decide +kernel
theorem dX12_book_158 : decode cX12_book 158 = .ok (.getfield 40, 3) := by decide +kernel
theorem dX12_book_161 : decode cX12_book 161 = .ok (.iconst 4, 1) := by decide +kernel
theorem dX12_book_162 : decode cX12_book 162 = .ok (.iload_n 3, 1) := by decide +kernel
theorem dX12_book_163 : decode cX12_book 163 = .ok (.imul, 1) := by decide +kernel
theorem dX12_book_164 : decode cX12_book 164 = .ok (.iconst 3, 1) := by decide +kernel
theorem dX12_book_165 : decode cX12_book 165 = .ok (.iadd, 1) := by decide +kernel
theorem dX12_book_166 : decode cX12_book 166 = .ok (.iaload, 1) := by decide +kernel
theorem dX12_book_167 : decode cX12_book 167 = .ok (.invokevirtual 497, 3) := by decide +kernel
theorem dX12_book_170 : decode cX12_book 170 = .ok (.iastore, 1) := by decide +kernel
theorem dX12_book_171 : decode cX12_book 171 = .ok (.aload_n 0, 1) := by decide +kernel
theorem dX12_book_172 : decode cX12_book 172 = .ok (.getfield 96, 3) := by decide +kernel
theorem dX12_book_175 : decode cX12_book 175 = .ok (.iconst 0, 1) := by decide +kernel
theorem dX12_book_176 : decode cX12_book 176 = .ok (.iaload, 1) := by decide +kernel
theorem dX12_book_177 : decode cX12_book 177 = .ok (.ifCond .le 8, 3) := by decide +kernel
theorem dX12_book_180 : decode cX12_book 180 = .ok (.iload_n 3, 1) := by decide +kernel
theorem dX12_book_181 : decode cX12_book 181 = .ok (.istore_n 2, 1) := by decide +kernel
theorem dX12_book_182 : decode cX12_book 182 = .ok (.goto 13, 3) := by decide +kernel
theorem dX12_book_185 : decode cX12_book 185 = .ok (.aload_n 0, 1) := by decide +kernel
theorem dX12_book_186 : decode cX12_book 186 = .ok (.getfield 96, 3) := by decide +kernel
theorem dX12_book_189 : decode cX12_book 189 = .ok (.iconst 1, 1) := by decide +kernel
theorem dX12_book_190 : decode cX12_book 190 = .ok (.dup2, 1) := by decide +kernel
theorem dX12_book_191 : decode cX12_book 191 = .ok (.iaload, 1) := by decide +kernel
theorem dX12_book_192 : decode cX12_book 192 = .ok (.iconst 1, 1) := by decide +kernel
theorem dX12_book_193 : decode cX12_book 193 = .ok (.iadd, 1) := by decide +kernel
theorem dX12_book_194 : decode cX12_book 194 = .ok (.iastore, 1) := by decide +kernel
theorem dX12_book_195 : decode cX12_book 195 = .ok (.iinc 3 1, 3) := by decide +kernel
theorem dX12_book_198 : decode cX12_book 198 = .ok (.goto (-87), 3) := by decide +kernel
theorem dX12_book_201 : decode cX12_book 201 = .ok (.aload_n 0, 1) := by decide +kernel
theorem dX12_book_202 : decode cX12_book 202 = .ok (.getfield 96, 3) := by decide +kernel
theorem dX12_book_205 : decode cX12_book 205 = .ok (.iconst 2, 1) := by decide +kernel
theorem dX12_book_206 : decode cX12_book 206 = .ok (.aload_n 0, 1) := by decide +kernel
theorem dX12_book_207 : decode cX12_book 207 = .ok (.getfield 33, 3) := by decide +kernel
theorem dX12_book_210 : decode cX12_book 210 = .ok (.bipush 97, 2) := by decide +kernel
theorem dX12_book_212 : decode cX12_book 212 = .ok (.iaload, 1) := by decide +kernel
theorem dX12_book_213 : decode cX12_book 213 = .ok (.iastore, 1) := by decide +kernel
theorem dX12_book_214 : decode cX12_book 214 = .ok (.aload_n 0, 1) := by decide +kernel
theorem dX12_book_215 : decode cX12_book 215 = .ok (.getfield 96, 3) := by decide +kernel
theorem dX12_book_218 : decode cX12_book 218 = .ok (.iconst 3, 1) := by decide +kernel
theorem dX12_book_219 : decode cX12_book 219 = .ok (.aload_n 0, 1) := by decide +kernel
theorem dX12_book_220 : decode cX12_book 220 = .ok (.invokevirtual 374, 3) := by decide +kernel
theorem dX12_book_223 : decode cX12_book 223 = .ok (.iastore, 1) := by decide +kernel
theorem dX12_book_224 : decode cX12_book 224 = .ok (.aload_n 0, 1) := by decide +kernel
theorem dX12_book_225 : decode cX12_book 225 = .ok (.iconst 1, 1) := by decide +kernel
theorem dX12_book_226 : decode cX12_book 226 = .ok (.putfield 500, 3) := by decide +kernel
theorem dX12_book_229 : decode cX12_book 229 = .ok (.iload_n 1, 1) := by decide +kernel
theorem dX12_book_230 : decode cX12_book 230 = .ok (.iconst 1, 1) := by decide +kernel
theorem dX12_book_231 : decode cX12_book 231 = .ok (.if_icmp .ne 52, 3) := by decide +kernel
theorem dX12_book_234 : decode cX12_book 234 = .ok (.aload_n 0, 1) := by decide +kernel
theorem dX12_book_235 : decode cX12_book 235 = .ok (.getfield 96, 3) := by decide +kernel
theorem dX12_book_238 : decode cX12_book 238 = .ok (.iconst 1, 1) := by decide +kernel
theorem dX12_book_239 : decode cX12_book 239 = .ok (.iaload, 1) := by decide +kernel
theorem dX12_book_240 : decode cX12_book 240 = .ok (.ifCond .le 43, 3) := by decide +kernel
theorem dX12_book_243 : decode cX12_book 243 = .ok (.aload_n 0, 1) := by decide +kernel
theorem dX12_book_244 : decode cX12_book 244 = .ok (.invokevirtual 386, 3) := by decide +kernel
theorem dX12_book_247 : decode cX12_book 247 = .ok (.iconst 0, 1) := by decide +kernel
theorem dX12_book_248 : decode cX12_book 248 = .ok (.istore_n 3, 1) := by decide +kernel
theorem dX12_book_249 : decode cX12_book 249 = .ok (.iload_n 3, 1) := by decide +kernel
theorem dX12_book_250 : decode cX12_book 250 = .ok (.bipush 24, 2) := by decide +kernel
theorem dX12_book_252 : decode cX12_book 252 = .ok (.if_icmp .ge 31, 3) := by decide +kernel
theorem dX12_book_255 : decode cX12_book 255 = .ok (.aload_n 0, 1) := by decide +kernel
theorem dX12_book_256 : decode cX12_book 256 = .ok (.getfield 50, 3) := by decide +kernel
theorem dX12_book_259 : decode cX12_book 259 = .ok (.bipush 24, 2) := by decide +kernel
theorem dX12_book_261 : decode cX12_book 261 = .ok (.aload_n 0, 1) := by decide +kernel
theorem dX12_book_262 : decode cX12_book 262 = .ok (.getfield 307, 3) := by decide +kernel
theorem dX12_book_265 : decode cX12_book 265 = .ok (.iconst 1, 1) := by decide +kernel
theorem dX12_book_266 : decode cX12_book 266 = .ok (.isub, 1) := by decide +kernel
theorem dX12_book_267 : decode cX12_book 267 = .ok (.imul, 1) := by decide +kernel
theorem dX12_book_268 : decode cX12_book 268 = .ok (.iload_n 3, 1) := by decide +kernel
theorem dX12_book_269 : decode cX12_book 269 = .ok (.iadd, 1) := by decide +kernel
theorem dX12_book_270 : decode cX12_book 270 = .ok (.aload_n 0, 1) := by decide +kernel
theorem dX12_book_271 : decode cX12_book 271 = .ok (.getfield 53, 3) := by decide +kernel
theorem dX12_book_274 : decode cX12_book 274 = .ok (.iload_n 3, 1) := by decide +kernel
theorem dX12_book_275 : decode cX12_book 275 = .ok (.iaload, 1) := by decide +kernel
theorem dX12_book_276 : decode cX12_book 276 = .ok (.iastore, 1) := by decide +kernel
theorem dX12_book_277 : decode cX12_book 277 = .ok (.iinc 3 1, 3) := by decide +kernel
theorem dX12_book_280 : decode cX12_book 280 = .ok (.goto (-31), 3) := by decide +kernel
theorem dX12_book_283 : decode cX12_book 283 = .ok (.iload_n 1, 1) := by decide +kernel
theorem dX12_book_284 : decode cX12_book 284 = .ok (.ifCond .ne 7, 3) := by decide +kernel
theorem dX12_book_287 : decode cX12_book 287 = .ok (.aload_n 0, 1) := by decide +kernel
theorem dX12_book_288 : decode cX12_book 288 = .ok (.invokevirtual 405, 3) := by decide +kernel
theorem dX12_book_291 : decode cX12_book 291 = .ok (.iload_n 2, 1) := by decide +kernel
theorem dX12_book_292 : decode cX12_book 292 = .ok (.ireturn, 1) := by decide +kernel
theorem dX12_told_0 : decode cX12_told 0 = .ok (.aload_n 0, 1) := by decide +kernel
theorem dX12_told_1 : decode cX12_told 1 = .ok (.iconst 0, 1) := by decide +kernel
theorem dX12_told_2 : decode cX12_told 2 = .ok (.putfield 1, 3) := by decide +kernel
theorem dX12_told_5 : decode cX12_told 5 = .ok (.aload_n 0, 1) := by decide +kernel
theorem dX12_told_6 : decode cX12_told 6 = .ok (.getfield 500, 3) := by decide +kernel
theorem dX12_told_9 : decode cX12_told 9 = .ok (.ifCond .eq 21, 3) := by decide +kernel
theorem dX12_told_12 : decode cX12_told 12 = .ok (.iload_n 1, 1) := by decide +kernel
theorem dX12_told_13 : decode cX12_told 13 = .ok (.iconst 0, 1) := by decide +kernel
theorem dX12_told_14 : decode cX12_told 14 = .ok (.iconst 3, 1) := by decide +kernel
theorem dX12_told_15 : decode cX12_told 15 = .ok (.invokestatic 223, 3) := by decide +kernel
theorem dX12_told_18 : decode cX12_told 18 = .ok (.ifCond .eq 12, 3) := by decide +kernel
theorem dX12_told_21 : decode cX12_told 21 = .ok (.aload_n 0, 1) := by decide +kernel
theorem dX12_told_22 : decode cX12_told 22 = .ok (.getfield 96, 3) := by decide +kernel
theorem dX12_told_25 : decode cX12_told 25 = .ok (.iload_n 1, 1) := by decide +kernel
theorem dX12_told_26 : decode cX12_told 26 = .ok (.iaload, 1) := by decide +kernel
theorem dX12_told_27 : decode cX12_told 27 = .ok (.goto 4, 3) := by decide +kernel
theorem dX12_told_30 : decode cX12_told 30 = .ok (.iconst (-1), 1) := by decide +kernel
theorem dX12_told_31 : decode cX12_told 31 = .ok (.ireturn, 1) := by decide +kernel
theorem dX12_putCode_0 : decode cX12_putCode 0 = .ok (.aload_n 0, 1) := by decide +kernel
theorem dX12_putCode_1 : decode cX12_putCode 1 = .ok (.getfield 40, 3) := by decide +kernel
theorem dX12_putCode_4 : decode cX12_putCode 4 = .ok (.iconst 3, 1) := by decide +kernel
theorem dX12_putCode_5 : decode cX12_putCode 5 = .ok (.aload_n 0, 1) := by decide +kernel
theorem dX12_putCode_6 : decode cX12_putCode 6 = .ok (.getfield 503, 3) := by decide +kernel
theorem dX12_putCode_9 : decode cX12_putCode 9 = .ok (.imul, 1) := by decide +kernel
theorem dX12_putCode_10 : decode cX12_putCode 10 = .ok (.iload_n 1, 1) := by decide +kernel
theorem dX12_putCode_11 : decode cX12_putCode 11 = .ok (.iastore, 1) := by decide +kernel
theorem dX12_putCode_12 : decode cX12_putCode 12 = .ok (.aload_n 0, 1) := by decide +kernel
theorem dX12_putCode_13 : decode cX12_putCode 13 = .ok (.getfield 40, 3) := by decide +kernel
theorem dX12_putCode_16 : decode cX12_putCode 16 = .ok (.iconst 3, 1) := by decide +kernel
theorem dX12_putCode_17 : decode cX12_putCode 17 = .ok (.aload_n 0, 1) := by decide +kernel
theorem dX12_putCode_18 : decode cX12_putCode 18 = .ok (.getfield 503, 3) := by decide +kernel
theorem dX12_putCode_21 : decode cX12_putCode 21 = .ok (.imul, 1) := by decide +kernel
theorem dX12_putCode_22 : decode cX12_putCode 22 = .ok (.iconst 1, 1) := by decide +kernel
theorem dX12_putCode_23 : decode cX12_putCode 23 = .ok (.iadd, 1) := by decide +kernel
theorem dX12_putCode_24 : decode cX12_putCode 24 = .ok (.iload_n 2, 1) := by decide +kernel
theorem dX12_putCode_25 : decode cX12_putCode 25 = .ok (.iastore, 1) := by decide +kernel
theorem dX12_putCode_26 : decode cX12_putCode 26 = .ok (.aload_n 0, 1) := by decide +kernel
theorem dX12_putCode_27 : decode cX12_putCode 27 = .ok (.getfield 40, 3) := by decide +kernel
theorem dX12_putCode_30 : decode cX12_putCode 30 = .ok (.iconst 3, 1) := by decide +kernel
theorem dX12_putCode_31 : decode cX12_putCode 31 = .ok (.aload_n 0, 1) := by decide +kernel
theorem dX12_putCode_32 : decode cX12_putCode 32 = .ok (.getfield 503, 3) := by decide +kernel
theorem dX12_putCode_35 : decode cX12_putCode 35 = .ok (.imul, 1) := by decide +kernel
theorem dX12_putCode_36 : decode cX12_putCode 36 = .ok (.iconst 2, 1) := by decide +kernel
theorem dX12_putCode_37 : decode cX12_putCode 37 = .ok (.iadd, 1) := by decide +kernel
theorem dX12_putCode_38 : decode cX12_putCode 38 = .ok (.iload_n 3, 1) := by decide +kernel
theorem dX12_putCode_39 : decode cX12_putCode 39 = .ok (.iastore, 1) := by decide +kernel
theorem dX12_putCode_40 : decode cX12_putCode 40 = .ok (.aload_n 0, 1) := by decide +kernel
theorem dX12_putCode_41 : decode cX12_putCode 41 = .ok (.dup, 1) := by decide +kernel
theorem dX12_putCode_42 : decode cX12_putCode 42 = .ok (.getfield 503, 3) := by decide +kernel
theorem dX12_putCode_45 : decode cX12_putCode 45 = .ok (.iconst 1, 1) := by decide +kernel
theorem dX12_putCode_46 : decode cX12_putCode 46 = .ok (.iadd, 1) := by decide +kernel
theorem dX12_putCode_47 : decode cX12_putCode 47 = .ok (.putfield 503, 3) := by decide +kernel
theorem dX12_putCode_50 : decode cX12_putCode 50 = .ok (.return_, 1) := by decide +kernel
theorem dX12_joins_0 : decode cX12_joins 0 = .ok (.aload_n 0, 1) := by decide +kernel
theorem dX12_joins_1 : decode cX12_joins 1 = .ok (.getfield 506, 3) := by decide +kernel
theorem dX12_joins_4 : decode cX12_joins 4 = .ok (.ifCond .le 69, 3) := by decide +kernel
theorem dX12_joins_7 : decode cX12_joins 7 = .ok (.aload_n 0, 1) := by decide +kernel
theorem dX12_joins_8 : decode cX12_joins 8 = .ok (.getfield 99, 3) := by decide +kernel
theorem dX12_joins_11 : decode cX12_joins 11 = .ok (.aload_n 0, 1) := by decide +kernel
theorem dX12_joins_12 : decode cX12_joins 12 = .ok (.getfield 506, 3) := by decide +kernel
theorem dX12_joins_15 : decode cX12_joins 15 = .ok (.iconst 1, 1) := by decide +kernel
theorem dX12_joins_16 : decode cX12_joins 16 = .ok (.isub, 1) := by decide +kernel
theorem dX12_joins_17 : decode cX12_joins 17 = .ok (.iaload, 1) := by decide +kernel
theorem dX12_joins_18 : decode cX12_joins 18 = .ok (.bipush 21, 2) := by decide +kernel
theorem dX12_joins_20 : decode cX12_joins 20 = .ok (.if_icmp .eq 25, 3) := by decide +kernel
theorem dX12_joins_23 : decode cX12_joins 23 = .ok (.aload_n 0, 1) := by decide +kernel
theorem dX12_joins_24 : decode cX12_joins 24 = .ok (.getfield 99, 3) := by decide +kernel
theorem dX12_joins_27 : decode cX12_joins 27 = .ok (.aload_n 0, 1) := by decide +kernel
theorem dX12_joins_28 : decode cX12_joins 28 = .ok (.getfield 506, 3) := by decide +kernel
theorem dX12_joins_31 : decode cX12_joins 31 = .ok (.iconst 1, 1) := by decide +kernel
theorem dX12_joins_32 : decode cX12_joins 32 = .ok (.isub, 1) := by decide +kernel
theorem dX12_joins_33 : decode cX12_joins 33 = .ok (.iaload, 1) := by decide +kernel
theorem dX12_joins_34 : decode cX12_joins 34 = .ok (.bipush 22, 2) := by decide +kernel
theorem dX12_joins_36 : decode cX12_joins 36 = .ok (.if_icmp .ne 37, 3) := by decide +kernel
theorem dX12_joins_39 : decode cX12_joins 39 = .ok (.iload_n 1, 1) := by decide +kernel
theorem dX12_joins_40 : decode cX12_joins 40 = .ok (.bipush 22, 2) := by decide +kernel
theorem dX12_joins_42 : decode cX12_joins 42 = .ok (.if_icmp .ne 31, 3) := by decide +kernel
theorem dX12_joins_45 : decode cX12_joins 45 = .ok (.aload_n 0, 1) := by decide +kernel
theorem dX12_joins_46 : decode cX12_joins 46 = .ok (.dup, 1) := by decide +kernel
theorem dX12_joins_47 : decode cX12_joins 47 = .ok (.getfield 506, 3) := by decide +kernel
theorem dX12_joins_50 : decode cX12_joins 50 = .ok (.iconst 1, 1) := by decide +kernel
theorem dX12_joins_51 : decode cX12_joins 51 = .ok (.isub, 1) := by decide +kernel
theorem dX12_joins_52 : decode cX12_joins 52 = .ok (.putfield 506, 3) := by decide +kernel
theorem dX12_joins_55 : decode cX12_joins 55 = .ok (.aload_n 0, 1) := by decide +kernel
theorem dX12_joins_56 : decode cX12_joins 56 = .ok (.aload_n 0, 1) := by decide +kernel
theorem dX12_joins_57 : decode cX12_joins 57 = .ok (.getfield 99, 3) := by decide +kernel
theorem dX12_joins_60 : decode cX12_joins 60 = .ok (.aload_n 0, 1) := by decide +kernel
theorem dX12_joins_61 : decode cX12_joins 61 = .ok (.getfield 506, 3) := by decide +kernel
theorem dX12_joins_64 : decode cX12_joins 64 = .ok (.iaload, 1) := by decide +kernel
theorem dX12_joins_65 : decode cX12_joins 65 = .ok (.iconst 0, 1) := by decide +kernel
theorem dX12_joins_66 : decode cX12_joins 66 = .ok (.iconst 0, 1) := by decide +kernel
theorem dX12_joins_67 : decode cX12_joins 67 = .ok (.invokevirtual 509, 3) := by decide +kernel
theorem dX12_joins_70 : decode cX12_joins 70 = .ok (.goto (-70), 3) := by decide +kernel
theorem dX12_joins_73 : decode cX12_joins 73 = .ok (.return_, 1) := by decide +kernel
theorem dX12_nots_0 : decode cX12_nots 0 = .ok (.aload_n 0, 1) := by decide +kernel
theorem dX12_nots_1 : decode cX12_nots 1 = .ok (.getfield 506, 3) := by decide +kernel
theorem dX12_nots_4 : decode cX12_nots 4 = .ok (.ifCond .le 50, 3) := by decide +kernel
theorem dX12_nots_7 : decode cX12_nots 7 = .ok (.aload_n 0, 1) := by decide +kernel
theorem dX12_nots_8 : decode cX12_nots 8 = .ok (.getfield 99, 3) := by decide +kernel
theorem dX12_nots_11 : decode cX12_nots 11 = .ok (.aload_n 0, 1) := by decide +kernel
theorem dX12_nots_12 : decode cX12_nots 12 = .ok (.getfield 506, 3) := by decide +kernel
theorem dX12_nots_15 : decode cX12_nots 15 = .ok (.iconst 1, 1) := by decide +kernel
theorem dX12_nots_16 : decode cX12_nots 16 = .ok (.isub, 1) := by decide +kernel
theorem dX12_nots_17 : decode cX12_nots 17 = .ok (.iaload, 1) := by decide +kernel
theorem dX12_nots_18 : decode cX12_nots 18 = .ok (.bipush 20, 2) := by decide +kernel
theorem dX12_nots_20 : decode cX12_nots 20 = .ok (.if_icmp .ne 34, 3) := by decide +kernel
theorem dX12_nots_23 : decode cX12_nots 23 = .ok (.aload_n 0, 1) := by decide +kernel
theorem dX12_nots_24 : decode cX12_nots 24 = .ok (.dup, 1) := by decide +kernel
theorem dX12_nots_25 : decode cX12_nots 25 = .ok (.getfield 506, 3) := by decide +kernel
theorem dX12_nots_28 : decode cX12_nots 28 = .ok (.iconst 1, 1) := by decide +kernel
theorem dX12_nots_29 : decode cX12_nots 29 = .ok (.isub, 1) := by decide +kernel
theorem dX12_nots_30 : decode cX12_nots 30 = .ok (.putfield 506, 3) := by decide +kernel
theorem dX12_nots_33 : decode cX12_nots 33 = .ok (.aload_n 0, 1) := by decide +kernel
theorem dX12_nots_34 : decode cX12_nots 34 = .ok (.dup, 1) := by decide +kernel
theorem dX12_nots_35 : decode cX12_nots 35 = .ok (.getfield 512, 3) := by decide +kernel
theorem dX12_nots_38 : decode cX12_nots 38 = .ok (.iconst 1, 1) := by decide +kernel
theorem dX12_nots_39 : decode cX12_nots 39 = .ok (.isub, 1) := by decide +kernel
theorem dX12_nots_40 : decode cX12_nots 40 = .ok (.putfield 512, 3) := by decide +kernel
theorem dX12_nots_43 : decode cX12_nots 43 = .ok (.aload_n 0, 1) := by decide +kernel
theorem dX12_nots_44 : decode cX12_nots 44 = .ok (.bipush 20, 2) := by decide +kernel
theorem dX12_nots_46 : decode cX12_nots 46 = .ok (.iconst 0, 1) := by decide +kernel
theorem dX12_nots_47 : decode cX12_nots 47 = .ok (.iconst 0, 1) := by decide +kernel
theorem dX12_nots_48 : decode cX12_nots 48 = .ok (.invokevirtual 509, 3) := by decide +kernel
theorem dX12_nots_51 : decode cX12_nots 51 = .ok (.goto (-51), 3) := by decide +kernel
theorem dX12_nots_54 : decode cX12_nots 54 = .ok (.return_, 1) := by decide +kernel
theorem dX12_leafOf_0 : decode cX12_leafOf 0 = .ok (.aload_n 0, 1) := by decide +kernel
theorem dX12_leafOf_1 : decode cX12_leafOf 1 = .ok (.ldc2_w 162, 3) := by decide +kernel
theorem dX12_leafOf_4 : decode cX12_leafOf 4 = .ok (.invokevirtual 248, 3) := by decide +kernel
theorem dX12_leafOf_7 : decode cX12_leafOf 7 = .ok (.ifCond .eq 7, 3) := by decide +kernel
theorem dX12_leafOf_10 : decode cX12_leafOf 10 = .ok (.iconst 0, 1) := by decide +kernel
theorem dX12_leafOf_11 : decode cX12_leafOf 11 = .ok (.goto 104, 3) := by decide +kernel
theorem dX12_leafOf_14 : decode cX12_leafOf 14 = .ok (.aload_n 0, 1) := by decide +kernel
theorem dX12_leafOf_15 : decode cX12_leafOf 15 = .ok (.ldc2_w 164, 3) := by decide +kernel
theorem dX12_leafOf_18 : decode cX12_leafOf 18 = .ok (.invokevirtual 248, 3) := by decide +kernel
theorem dX12_leafOf_21 : decode cX12_leafOf 21 = .ok (.ifCond .eq 7, 3) := by decide +kernel
theorem dX12_leafOf_24 : decode cX12_leafOf 24 = .ok (.iconst 1, 1) := by decide +kernel
theorem dX12_leafOf_25 : decode cX12_leafOf 25 = .ok (.goto 90, 3) := by decide +kernel
theorem dX12_leafOf_28 : decode cX12_leafOf 28 = .ok (.aload_n 0, 1) := by decide +kernel
theorem dX12_leafOf_29 : decode cX12_leafOf 29 = .ok (.ldc2_w 166, 3) := by decide +kernel
theorem dX12_leafOf_32 : decode cX12_leafOf 32 = .ok (.invokevirtual 248, 3) := by decide +kernel
theorem dX12_leafOf_35 : decode cX12_leafOf 35 = .ok (.ifCond .eq 7, 3) := by decide +kernel
theorem dX12_leafOf_38 : decode cX12_leafOf 38 = .ok (.iconst 2, 1) := by decide +kernel
theorem dX12_leafOf_39 : decode cX12_leafOf 39 = .ok (.goto 76, 3) := by decide +kernel
theorem dX12_leafOf_42 : decode cX12_leafOf 42 = .ok (.aload_n 0, 1) := by decide +kernel
theorem dX12_leafOf_43 : decode cX12_leafOf 43 = .ok (.ldc2_w 168, 3) := by decide +kernel
theorem dX12_leafOf_46 : decode cX12_leafOf 46 = .ok (.invokevirtual 248, 3) := by decide +kernel
theorem dX12_leafOf_49 : decode cX12_leafOf 49 = .ok (.ifCond .eq 7, 3) := by decide +kernel
theorem dX12_leafOf_52 : decode cX12_leafOf 52 = .ok (.iconst 3, 1) := by decide +kernel
theorem dX12_leafOf_53 : decode cX12_leafOf 53 = .ok (.goto 62, 3) := by decide +kernel
theorem dX12_leafOf_56 : decode cX12_leafOf 56 = .ok (.aload_n 0, 1) := by decide +kernel
theorem dX12_leafOf_57 : decode cX12_leafOf 57 = .ok (.ldc2_w 170, 3) := by decide +kernel
theorem dX12_leafOf_60 : decode cX12_leafOf 60 = .ok (.invokevirtual 248, 3) := by decide +kernel
theorem dX12_leafOf_63 : decode cX12_leafOf 63 = .ok (.ifCond .eq 7, 3) := by decide +kernel
theorem dX12_leafOf_66 : decode cX12_leafOf 66 = .ok (.iconst 4, 1) := by decide +kernel
theorem dX12_leafOf_67 : decode cX12_leafOf 67 = .ok (.goto 48, 3) := by decide +kernel
theorem dX12_leafOf_70 : decode cX12_leafOf 70 = .ok (.aload_n 0, 1) := by decide +kernel
theorem dX12_leafOf_71 : decode cX12_leafOf 71 = .ok (.ldc2_w 172, 3) := by decide +kernel
theorem dX12_leafOf_74 : decode cX12_leafOf 74 = .ok (.invokevirtual 248, 3) := by decide +kernel
theorem dX12_leafOf_77 : decode cX12_leafOf 77 = .ok (.ifCond .eq 7, 3) := by decide +kernel
theorem dX12_leafOf_80 : decode cX12_leafOf 80 = .ok (.iconst 5, 1) := by decide +kernel
theorem dX12_leafOf_81 : decode cX12_leafOf 81 = .ok (.goto 34, 3) := by decide +kernel
theorem dX12_leafOf_84 : decode cX12_leafOf 84 = .ok (.aload_n 0, 1) := by decide +kernel
theorem dX12_leafOf_85 : decode cX12_leafOf 85 = .ok (.ldc2_w 174, 3) := by decide +kernel
theorem dX12_leafOf_88 : decode cX12_leafOf 88 = .ok (.invokevirtual 248, 3) := by decide +kernel
theorem dX12_leafOf_91 : decode cX12_leafOf 91 = .ok (.ifCond .eq 8, 3) := by decide +kernel
theorem dX12_leafOf_94 : decode cX12_leafOf 94 = .ok (.bipush 6, 2) := by decide +kernel
theorem dX12_leafOf_96 : decode cX12_leafOf 96 = .ok (.goto 19, 3) := by decide +kernel
theorem dX12_leafOf_99 : decode cX12_leafOf 99 = .ok (.aload_n 0, 1) := by decide +kernel
theorem dX12_leafOf_100 : decode cX12_leafOf 100 = .ok (.ldc2_w 176, 3) := by decide +kernel
theorem dX12_leafOf_103 : decode cX12_leafOf 103 = .ok (.invokevirtual 248, 3) := by decide +kernel
theorem dX12_leafOf_106 : decode cX12_leafOf 106 = .ok (.ifCond .eq 8, 3) := by decide +kernel
theorem dX12_leafOf_109 : decode cX12_leafOf 109 = .ok (.bipush 7, 2) := by decide +kernel
theorem dX12_leafOf_111 : decode cX12_leafOf 111 = .ok (.goto 4, 3) := by decide +kernel
theorem dX12_leafOf_114 : decode cX12_leafOf 114 = .ok (.iconst (-1), 1) := by decide +kernel
theorem dX12_leafOf_115 : decode cX12_leafOf 115 = .ok (.ireturn, 1) := by decide +kernel
theorem dX12_operand_0 : decode cX12_operand 0 = .ok (.aload_n 0, 1) := by decide +kernel
theorem dX12_operand_1 : decode cX12_operand 1 = .ok (.ldc2_w 160, 3) := by decide +kernel
theorem dX12_operand_4 : decode cX12_operand 4 = .ok (.invokevirtual 248, 3) := by decide +kernel
theorem dX12_operand_7 : decode cX12_operand 7 = .ok (.istore_n 1, 1) := by decide +kernel
theorem dX12_operand_8 : decode cX12_operand 8 = .ok (.aload_n 0, 1) := by decide +kernel
theorem dX12_operand_9 : decode cX12_operand 9 = .ok (.bipush 40, 2) := by decide +kernel
theorem dX12_operand_11 : decode cX12_operand 11 = .ok (.invokevirtual 214, 3) := by decide +kernel
theorem dX12_operand_14 : decode cX12_operand 14 = .ok (.istore_n 2, 1) := by decide +kernel
theorem dX12_operand_15 : decode cX12_operand 15 = .ok (.aload_n 0, 1) := by decide +kernel
theorem dX12_operand_16 : decode cX12_operand 16 = .ok (.invokevirtual 515, 3) := by decide +kernel
theorem dX12_operand_19 : decode cX12_operand 19 = .ok (.istore_n 3, 1) := by decide +kernel
theorem dX12_operand_20 : decode cX12_operand 20 = .ok (.iload_n 1, 1) := by decide +kernel
theorem dX12_operand_21 : decode cX12_operand 21 = .ok (.ifCond .ne 17, 3) := by decide +kernel
theorem dX12_operand_24 : decode cX12_operand 24 = .ok (.iload_n 2, 1) := by decide +kernel
theorem dX12_operand_25 : decode cX12_operand 25 = .ok (.ifCond .ne 13, 3) := by decide +kernel
theorem dX12_operand_28 : decode cX12_operand 28 = .ok (.iload_n 3, 1) := by decide +kernel
theorem dX12_operand_29 : decode cX12_operand 29 = .ok (.ifCond .ge 9, 3) := by decide +kernel
theorem dX12_operand_32 : decode cX12_operand 32 = .ok (.aload_n 0, 1) := by decide +kernel
theorem dX12_operand_33 : decode cX12_operand 33 = .ok (.iconst 1, 1) := by decide +kernel
theorem dX12_operand_34 : decode cX12_operand 34 = .ok (.invokevirtual 217, 3) := by decide +kernel
theorem dX12_operand_37 : decode cX12_operand 37 = .ok (.ireturn, 1) := by decide +kernel
theorem dX12_operand_38 : decode cX12_operand 38 = .ok (.aload_n 0, 1) := by decide +kernel
theorem dX12_operand_39 : decode cX12_operand 39 = .ok (.getfield 518, 3) := by decide +kernel
theorem dX12_operand_42 : decode cX12_operand 42 = .ok (.bipush 20, 2) := by decide +kernel
theorem dX12_operand_44 : decode cX12_operand 44 = .ok (.if_icmp .eq 12, 3) := by decide +kernel
theorem dX12_operand_47 : decode cX12_operand 47 = .ok (.aload_n 0, 1) := by decide +kernel
theorem dX12_operand_48 : decode cX12_operand 48 = .ok (.getfield 512, 3) := by decide +kernel
theorem dX12_operand_51 : decode cX12_operand 51 = .ok (.bipush 8, 2) := by decide +kernel
theorem dX12_operand_53 : decode cX12_operand 53 = .ok (.if_icmp .le 9, 3) := by decide +kernel
theorem dX12_operand_56 : decode cX12_operand 56 = .ok (.aload_n 0, 1) := by decide +kernel
theorem dX12_operand_57 : decode cX12_operand 57 = .ok (.iconst 4, 1) := by decide +kernel
theorem dX12_operand_58 : decode cX12_operand 58 = .ok (.invokevirtual 217, 3) := by decide +kernel
theorem dX12_operand_61 : decode cX12_operand 61 = .ok (.ireturn, 1) := by decide +kernel
theorem dX12_operand_62 : decode cX12_operand 62 = .ok (.aload_n 0, 1) := by decide +kernel
theorem dX12_operand_63 : decode cX12_operand 63 = .ok (.dup, 1) := by decide +kernel
theorem dX12_operand_64 : decode cX12_operand 64 = .ok (.getfield 518, 3) := by decide +kernel
theorem dX12_operand_67 : decode cX12_operand 67 = .ok (.iconst 1, 1) := by decide +kernel
theorem dX12_operand_68 : decode cX12_operand 68 = .ok (.iadd, 1) := by decide +kernel
theorem dX12_operand_69 : decode cX12_operand 69 = .ok (.putfield 518, 3) := by decide +kernel
theorem dX12_operand_72 : decode cX12_operand 72 = .ok (.aload_n 0, 1) := by decide +kernel
theorem dX12_operand_73 : decode cX12_operand 73 = .ok (.invokevirtual 220, 3) := by decide +kernel
theorem dX12_operand_76 : decode cX12_operand 76 = .ok (.iload_n 1, 1) := by decide +kernel
theorem dX12_operand_77 : decode cX12_operand 77 = .ok (.ifCond .ne 7, 3) := by decide +kernel
theorem dX12_operand_80 : decode cX12_operand 80 = .ok (.iload_n 2, 1) := by decide +kernel
theorem dX12_operand_81 : decode cX12_operand 81 = .ok (.ifCond .eq 45, 3) := by decide +kernel
theorem dX12_operand_84 : decode cX12_operand 84 = .ok (.aload_n 0, 1) := by decide +kernel
theorem dX12_operand_85 : decode cX12_operand 85 = .ok (.getfield 99, 3) := by decide +kernel
theorem dX12_operand_88 : decode cX12_operand 88 = .ok (.aload_n 0, 1) := by decide +kernel
theorem dX12_operand_89 : decode cX12_operand 89 = .ok (.getfield 506, 3) := by decide +kernel
theorem dX12_operand_92 : decode cX12_operand 92 = .ok (.iload_n 1, 1) := by decide +kernel
theorem dX12_operand_93 : decode cX12_operand 93 = .ok (.ifCond .eq 8, 3) := by decide +kernel
theorem dX12_operand_96 : decode cX12_operand 96 = .ok (.bipush 20, 2) := by decide +kernel
theorem dX12_operand_98 : decode cX12_operand 98 = .ok (.goto 5, 3) := by decide +kernel
theorem dX12_operand_101 : decode cX12_operand 101 = .ok (.bipush 23, 2) := by decide +kernel
theorem dX12_operand_103 : decode cX12_operand 103 = .ok (.iastore, 1) := by decide +kernel
theorem dX12_operand_104 : decode cX12_operand 104 = .ok (.aload_n 0, 1) := by decide +kernel
theorem dX12_operand_105 : decode cX12_operand 105 = .ok (.dup, 1) := by decide +kernel
theorem dX12_operand_106 : decode cX12_operand 106 = .ok (.getfield 506, 3) := by decide +kernel
theorem dX12_operand_109 : decode cX12_operand 109 = .ok (.iconst 1, 1) := by decide +kernel
theorem dX12_operand_110 : decode cX12_operand 110 = .ok (.iadd, 1) := by decide +kernel
theorem dX12_operand_111 : decode cX12_operand 111 = .ok (.putfield 506, 3) := by decide +kernel
theorem dX12_operand_114 : decode cX12_operand 114 = .ok (.aload_n 0, 1) := by decide +kernel
theorem dX12_operand_115 : decode cX12_operand 115 = .ok (.dup, 1) := by decide +kernel
theorem dX12_operand_116 : decode cX12_operand 116 = .ok (.getfield 512, 3) := by decide +kernel
theorem dX12_operand_119 : decode cX12_operand 119 = .ok (.iconst 1, 1) := by decide +kernel
theorem dX12_operand_120 : decode cX12_operand 120 = .ok (.iadd, 1) := by decide +kernel
theorem dX12_operand_121 : decode cX12_operand 121 = .ok (.putfield 512, 3) := by decide +kernel
theorem dX12_operand_124 : decode cX12_operand 124 = .ok (.iconst 1, 1) := by decide +kernel
theorem dX12_operand_125 : decode cX12_operand 125 = .ok (.ireturn, 1) := by decide +kernel
theorem dX12_operand_126 : decode cX12_operand 126 = .ok (.aload_n 0, 1) := by decide +kernel
theorem dX12_operand_127 : decode cX12_operand 127 = .ok (.iconst 1, 1) := by decide +kernel
theorem dX12_operand_128 : decode cX12_operand 128 = .ok (.putfield 521, 3) := by decide +kernel
theorem dX12_operand_131 : decode cX12_operand 131 = .ok (.iload_n 3, 1) := by decide +kernel
theorem dX12_operand_132 : decode cX12_operand 132 = .ok (.iconst 2, 1) := by decide +kernel
theorem dX12_operand_133 : decode cX12_operand 133 = .ok (.if_icmp .ge 12, 3) := by decide +kernel
theorem dX12_operand_136 : decode cX12_operand 136 = .ok (.aload_n 0, 1) := by decide +kernel
theorem dX12_operand_137 : decode cX12_operand 137 = .ok (.iload_n 3, 1) := by decide +kernel
theorem dX12_operand_138 : decode cX12_operand 138 = .ok (.iconst 0, 1) := by decide +kernel
theorem dX12_operand_139 : decode cX12_operand 139 = .ok (.iconst 0, 1) := by decide +kernel
theorem dX12_operand_140 : decode cX12_operand 140 = .ok (.invokevirtual 509, 3) := by decide +kernel
theorem dX12_operand_143 : decode cX12_operand 143 = .ok (.iconst 1, 1) := by decide +kernel
theorem dX12_operand_144 : decode cX12_operand 144 = .ok (.ireturn, 1) := by decide +kernel
theorem dX12_operand_145 : decode cX12_operand 145 = .ok (.iload_n 3, 1) := by decide +kernel
theorem dX12_operand_146 : decode cX12_operand 146 = .ok (.iconst 5, 1) := by decide +kernel
theorem dX12_operand_147 : decode cX12_operand 147 = .ok (.if_icmp .ge 64, 3) := by decide +kernel
theorem dX12_operand_150 : decode cX12_operand 150 = .ok (.iload_n 3, 1) := by decide +kernel
theorem dX12_operand_151 : decode cX12_operand 151 = .ok (.iconst 2, 1) := by decide +kernel
theorem dX12_operand_152 : decode cX12_operand 152 = .ok (.if_icmp .ne 10, 3) := by decide +kernel
theorem dX12_operand_155 : decode cX12_operand 155 = .ok (.aload_n 0, 1) := by decide +kernel
theorem dX12_operand_156 : decode cX12_operand 156 = .ok (.invokevirtual 283, 3) := by decide +kernel
theorem dX12_operand_159 : decode cX12_operand 159 = .ok (.goto 27, 3) := by decide +kernel
theorem dX12_operand_162 : decode cX12_operand 162 = .ok (.iload_n 3, 1) := by decide +kernel
theorem dX12_operand_163 : decode cX12_operand 163 = .ok (.iconst 3, 1) := by decide +kernel
theorem dX12_operand_164 : decode cX12_operand 164 = .ok (.if_icmp .ne 18, 3) := by decide +kernel
theorem dX12_operand_167 : decode cX12_operand 167 = .ok (.aload_n 0, 1) := by decide +kernel
theorem dX12_operand_168 : decode cX12_operand 168 = .ok (.bipush 6, 2) := by decide +kernel
theorem dX12_operand_170 : decode cX12_operand 170 = .ok (.aload_n 0, 1) := by decide +kernel
theorem dX12_operand_171 : decode cX12_operand 171 = .ok (.getfield 33, 3) := by decide +kernel
theorem dX12_operand_174 : decode cX12_operand 174 = .ok (.iconst 1, 1) := by decide +kernel
theorem dX12_operand_175 : decode cX12_operand 175 = .ok (.iaload, 1) := by decide +kernel
theorem dX12_operand_176 : decode cX12_operand 176 = .ok (.invokevirtual 245, 3) := by decide +kernel
theorem dX12_operand_179 : decode cX12_operand 179 = .ok (.goto 7, 3) := by decide +kernel
theorem dX12_operand_182 : decode cX12_operand 182 = .ok (.aload_n 0, 1) := by decide +kernel
theorem dX12_operand_183 : decode cX12_operand 183 = .ok (.invokevirtual 289, 3) := by decide +kernel
theorem dX12_operand_186 : decode cX12_operand 186 = .ok (.istore 4, 2) := by decide +kernel
theorem dX12_operand_188 : decode cX12_operand 188 = .ok (.iload 4, 2) := by decide +kernel
theorem dX12_operand_190 : decode cX12_operand 190 = .ok (.ifCond .ne 5, 3) := by decide +kernel
theorem dX12_operand_193 : decode cX12_operand 193 = .ok (.iconst 0, 1) := by decide +kernel
theorem dX12_operand_194 : decode cX12_operand 194 = .ok (.ireturn, 1) := by decide +kernel
theorem dX12_operand_195 : decode cX12_operand 195 = .ok (.aload_n 0, 1) := by decide +kernel
theorem dX12_operand_196 : decode cX12_operand 196 = .ok (.iload_n 3, 1) := by decide +kernel
theorem dX12_operand_197 : decode cX12_operand 197 = .ok (.iconst 0, 1) := by decide +kernel
theorem dX12_operand_198 : decode cX12_operand 198 = .ok (.aload_n 0, 1) := by decide +kernel
theorem dX12_operand_199 : decode cX12_operand 199 = .ok (.getfield 227, 3) := by decide +kernel
theorem dX12_operand_202 : decode cX12_operand 202 = .ok (.invokevirtual 509, 3) := by decide +kernel
theorem dX12_operand_205 : decode cX12_operand 205 = .ok (.aload_n 0, 1) := by decide +kernel
theorem dX12_operand_206 : decode cX12_operand 206 = .ok (.invokevirtual 220, 3) := by decide +kernel
theorem dX12_operand_209 : decode cX12_operand 209 = .ok (.iconst 1, 1) := by decide +kernel
theorem dX12_operand_210 : decode cX12_operand 210 = .ok (.ireturn, 1) := by decide +kernel
theorem dX12_operand_211 : decode cX12_operand 211 = .ok (.aload_n 0, 1) := by decide +kernel
theorem dX12_operand_212 : decode cX12_operand 212 = .ok (.getfield 191, 3) := by decide +kernel
theorem dX12_operand_215 : decode cX12_operand 215 = .ok (.iconst 3, 1) := by decide +kernel
theorem dX12_operand_216 : decode cX12_operand 216 = .ok (.if_icmp .ne 21, 3) := by decide +kernel
theorem dX12_operand_219 : decode cX12_operand 219 = .ok (.aload_n 0, 1) := by decide +kernel
theorem dX12_operand_220 : decode cX12_operand 220 = .ok (.getfield 201, 3) := by decide +kernel
theorem dX12_operand_223 : decode cX12_operand 223 = .ok (.bipush 60, 2) := by decide +kernel
theorem dX12_operand_225 : decode cX12_operand 225 = .ok (.if_icmp .lt 12, 3) := by decide +kernel
theorem dX12_operand_228 : decode cX12_operand 228 = .ok (.aload_n 0, 1) := by decide +kernel
theorem dX12_operand_229 : decode cX12_operand 229 = .ok (.getfield 201, 3) := by decide +kernel
theorem dX12_operand_232 : decode cX12_operand 232 = .ok (.bipush 62, 2) := by decide +kernel
theorem dX12_operand_234 : decode cX12_operand 234 = .ok (.if_icmp .le 9, 3) := by decide +kernel
theorem dX12_operand_237 : decode cX12_operand 237 = .ok (.aload_n 0, 1) := by decide +kernel
theorem dX12_operand_238 : decode cX12_operand 238 = .ok (.iconst 1, 1) := by decide +kernel
theorem dX12_operand_239 : decode cX12_operand 239 = .ok (.invokevirtual 217, 3) := by decide +kernel
theorem dX12_operand_242 : decode cX12_operand 242 = .ok (.ireturn, 1) := by decide +kernel
theorem dX12_operand_243 : decode cX12_operand 243 = .ok (.aload_n 0, 1) := by decide +kernel
theorem dX12_operand_244 : decode cX12_operand 244 = .ok (.getfield 201, 3) := by decide +kernel
theorem dX12_operand_247 : decode cX12_operand 247 = .ok (.istore 4, 2) := by decide +kernel
theorem dX12_operand_249 : decode cX12_operand 249 = .ok (.aload_n 0, 1) := by decide +kernel
theorem dX12_operand_250 : decode cX12_operand 250 = .ok (.invokevirtual 220, 3) := by decide +kernel
theorem dX12_operand_253 : decode cX12_operand 253 = .ok (.aload_n 0, 1) := by decide +kernel
theorem dX12_operand_254 : decode cX12_operand 254 = .ok (.getfield 191, 3) := by decide +kernel
theorem dX12_operand_257 : decode cX12_operand 257 = .ok (.iconst 2, 1) := by decide +kernel
theorem dX12_operand_258 : decode cX12_operand 258 = .ok (.if_icmp .eq 9, 3) := by decide +kernel
theorem dX12_operand_261 : decode cX12_operand 261 = .ok (.aload_n 0, 1) := by decide +kernel
theorem dX12_operand_262 : decode cX12_operand 262 = .ok (.iconst 1, 1) := by decide +kernel
theorem dX12_operand_263 : decode cX12_operand 263 = .ok (.invokevirtual 217, 3) := by decide +kernel
theorem dX12_operand_266 : decode cX12_operand 266 = .ok (.ireturn, 1) := by decide +kernel
theorem dX12_operand_267 : decode cX12_operand 267 = .ok (.aload_n 0, 1) := by decide +kernel
theorem dX12_operand_268 : decode cX12_operand 268 = .ok (.iload_n 3, 1) := by decide +kernel
theorem dX12_operand_269 : decode cX12_operand 269 = .ok (.iload 4, 2) := by decide +kernel
theorem dX12_operand_271 : decode cX12_operand 271 = .ok (.aload_n 0, 1) := by decide +kernel
theorem dX12_operand_272 : decode cX12_operand 272 = .ok (.getfield 201, 3) := by decide +kernel
theorem dX12_operand_275 : decode cX12_operand 275 = .ok (.invokevirtual 509, 3) := by decide +kernel
theorem dX12_operand_278 : decode cX12_operand 278 = .ok (.aload_n 0, 1) := by decide +kernel
theorem dX12_operand_279 : decode cX12_operand 279 = .ok (.invokevirtual 220, 3) := by decide +kernel
theorem dX12_operand_282 : decode cX12_operand 282 = .ok (.iconst 1, 1) := by decide +kernel
theorem dX12_operand_283 : decode cX12_operand 283 = .ok (.ireturn, 1) := by decide +kernel
theorem dX12_behind_0 : decode cX12_behind 0 = .ok (.aload_n 0, 1) := by decide +kernel
theorem dX12_behind_1 : decode cX12_behind 1 = .ok (.invokevirtual 524, 3) := by decide +kernel
theorem dX12_behind_4 : decode cX12_behind 4 = .ok (.aload_n 0, 1) := by decide +kernel
theorem dX12_behind_5 : decode cX12_behind 5 = .ok (.ldc2_w 158, 3) := by decide +kernel
theorem dX12_behind_8 : decode cX12_behind 8 = .ok (.invokevirtual 248, 3) := by decide +kernel
theorem dX12_behind_11 : decode cX12_behind 11 = .ok (.ifCond .ne 13, 3) := by decide +kernel
theorem dX12_behind_14 : decode cX12_behind 14 = .ok (.aload_n 0, 1) := by decide +kernel
theorem dX12_behind_15 : decode cX12_behind 15 = .ok (.ldc2_w 156, 3) := by decide +kernel
theorem dX12_behind_18 : decode cX12_behind 18 = .ok (.invokevirtual 248, 3) := by decide +kernel
theorem dX12_behind_21 : decode cX12_behind 21 = .ok (.ifCond .eq 71, 3) := by decide +kernel
theorem dX12_behind_24 : decode cX12_behind 24 = .ok (.aload_n 0, 1) := by decide +kernel
theorem dX12_behind_25 : decode cX12_behind 25 = .ok (.aload_n 0, 1) := by decide +kernel
theorem dX12_behind_26 : decode cX12_behind 26 = .ok (.ldc2_w 158, 3) := by decide +kernel
theorem dX12_behind_29 : decode cX12_behind 29 = .ok (.invokevirtual 248, 3) := by decide +kernel
theorem dX12_behind_32 : decode cX12_behind 32 = .ok (.ifCond .eq 8, 3) := by decide +kernel
theorem dX12_behind_35 : decode cX12_behind 35 = .ok (.bipush 21, 2) := by decide +kernel
theorem dX12_behind_37 : decode cX12_behind 37 = .ok (.goto 5, 3) := by decide +kernel
theorem dX12_behind_40 : decode cX12_behind 40 = .ok (.bipush 22, 2) := by decide +kernel
theorem dX12_behind_42 : decode cX12_behind 42 = .ok (.invokevirtual 527, 3) := by decide +kernel
theorem dX12_behind_45 : decode cX12_behind 45 = .ok (.aload_n 0, 1) := by decide +kernel
theorem dX12_behind_46 : decode cX12_behind 46 = .ok (.getfield 99, 3) := by decide +kernel
theorem dX12_behind_49 : decode cX12_behind 49 = .ok (.aload_n 0, 1) := by decide +kernel
theorem dX12_behind_50 : decode cX12_behind 50 = .ok (.getfield 506, 3) := by decide +kernel
theorem dX12_behind_53 : decode cX12_behind 53 = .ok (.aload_n 0, 1) := by decide +kernel
theorem dX12_behind_54 : decode cX12_behind 54 = .ok (.ldc2_w 158, 3) := by decide +kernel
theorem dX12_behind_57 : decode cX12_behind 57 = .ok (.invokevirtual 248, 3) := by decide +kernel
theorem dX12_behind_60 : decode cX12_behind 60 = .ok (.ifCond .eq 8, 3) := by decide +kernel
theorem dX12_behind_63 : decode cX12_behind 63 = .ok (.bipush 21, 2) := by decide +kernel
theorem dX12_behind_65 : decode cX12_behind 65 = .ok (.goto 5, 3) := by decide +kernel
theorem dX12_behind_68 : decode cX12_behind 68 = .ok (.bipush 22, 2) := by decide +kernel
theorem dX12_behind_70 : decode cX12_behind 70 = .ok (.iastore, 1) := by decide +kernel
theorem dX12_behind_71 : decode cX12_behind 71 = .ok (.aload_n 0, 1) := by decide +kernel
theorem dX12_behind_72 : decode cX12_behind 72 = .ok (.dup, 1) := by decide +kernel
theorem dX12_behind_73 : decode cX12_behind 73 = .ok (.getfield 506, 3) := by decide +kernel
theorem dX12_behind_76 : decode cX12_behind 76 = .ok (.iconst 1, 1) := by decide +kernel
theorem dX12_behind_77 : decode cX12_behind 77 = .ok (.iadd, 1) := by decide +kernel
theorem dX12_behind_78 : decode cX12_behind 78 = .ok (.putfield 506, 3) := by decide +kernel
theorem dX12_behind_81 : decode cX12_behind 81 = .ok (.aload_n 0, 1) := by decide +kernel
theorem dX12_behind_82 : decode cX12_behind 82 = .ok (.iconst 0, 1) := by decide +kernel
theorem dX12_behind_83 : decode cX12_behind 83 = .ok (.putfield 521, 3) := by decide +kernel
theorem dX12_behind_86 : decode cX12_behind 86 = .ok (.aload_n 0, 1) := by decide +kernel
theorem dX12_behind_87 : decode cX12_behind 87 = .ok (.invokevirtual 220, 3) := by decide +kernel
theorem dX12_behind_90 : decode cX12_behind 90 = .ok (.iconst 1, 1) := by decide +kernel
theorem dX12_behind_91 : decode cX12_behind 91 = .ok (.ireturn, 1) := by decide +kernel
theorem dX12_behind_92 : decode cX12_behind 92 = .ok (.aload_n 0, 1) := by decide +kernel
theorem dX12_behind_93 : decode cX12_behind 93 = .ok (.bipush 22, 2) := by decide +kernel
theorem dX12_behind_95 : decode cX12_behind 95 = .ok (.invokevirtual 527, 3) := by decide +kernel
theorem dX12_behind_98 : decode cX12_behind 98 = .ok (.aload_n 0, 1) := by decide +kernel
theorem dX12_behind_99 : decode cX12_behind 99 = .ok (.bipush 41, 2) := by decide +kernel
theorem dX12_behind_101 : decode cX12_behind 101 = .ok (.invokevirtual 214, 3) := by decide +kernel
theorem dX12_behind_104 : decode cX12_behind 104 = .ok (.ifCond .eq 10, 3) := by decide +kernel
theorem dX12_behind_107 : decode cX12_behind 107 = .ok (.aload_n 0, 1) := by decide +kernel
theorem dX12_behind_108 : decode cX12_behind 108 = .ok (.getfield 506, 3) := by decide +kernel
theorem dX12_behind_111 : decode cX12_behind 111 = .ok (.ifCond .ne 9, 3) := by decide +kernel
theorem dX12_behind_114 : decode cX12_behind 114 = .ok (.aload_n 0, 1) := by decide +kernel
theorem dX12_behind_115 : decode cX12_behind 115 = .ok (.iconst 1, 1) := by decide +kernel
theorem dX12_behind_116 : decode cX12_behind 116 = .ok (.invokevirtual 217, 3) := by decide +kernel
theorem dX12_behind_119 : decode cX12_behind 119 = .ok (.ireturn, 1) := by decide +kernel
theorem dX12_behind_120 : decode cX12_behind 120 = .ok (.aload_n 0, 1) := by decide +kernel
theorem dX12_behind_121 : decode cX12_behind 121 = .ok (.dup, 1) := by decide +kernel
theorem dX12_behind_122 : decode cX12_behind 122 = .ok (.getfield 506, 3) := by decide +kernel
theorem dX12_behind_125 : decode cX12_behind 125 = .ok (.iconst 1, 1) := by decide +kernel
theorem dX12_behind_126 : decode cX12_behind 126 = .ok (.isub, 1) := by decide +kernel
theorem dX12_behind_127 : decode cX12_behind 127 = .ok (.putfield 506, 3) := by decide +kernel
theorem dX12_behind_130 : decode cX12_behind 130 = .ok (.aload_n 0, 1) := by decide +kernel
theorem dX12_behind_131 : decode cX12_behind 131 = .ok (.dup, 1) := by decide +kernel
theorem dX12_behind_132 : decode cX12_behind 132 = .ok (.getfield 512, 3) := by decide +kernel
theorem dX12_behind_135 : decode cX12_behind 135 = .ok (.iconst 1, 1) := by decide +kernel
theorem dX12_behind_136 : decode cX12_behind 136 = .ok (.isub, 1) := by decide +kernel
theorem dX12_behind_137 : decode cX12_behind 137 = .ok (.putfield 512, 3) := by decide +kernel
theorem dX12_behind_140 : decode cX12_behind 140 = .ok (.aload_n 0, 1) := by decide +kernel
theorem dX12_behind_141 : decode cX12_behind 141 = .ok (.invokevirtual 220, 3) := by decide +kernel
theorem dX12_behind_144 : decode cX12_behind 144 = .ok (.iconst 1, 1) := by decide +kernel
theorem dX12_behind_145 : decode cX12_behind 145 = .ok (.ireturn, 1) := by decide +kernel
theorem dX12_sentence_0 : decode cX12_sentence 0 = .ok (.aload_n 0, 1) := by decide +kernel
theorem dX12_sentence_1 : decode cX12_sentence 1 = .ok (.iconst 0, 1) := by decide +kernel
theorem dX12_sentence_2 : decode cX12_sentence 2 = .ok (.putfield 1, 3) := by decide +kernel
theorem dX12_sentence_5 : decode cX12_sentence 5 = .ok (.aload_n 0, 1) := by decide +kernel
theorem dX12_sentence_6 : decode cX12_sentence 6 = .ok (.sipush 200, 3) := by decide +kernel
theorem dX12_sentence_9 : decode cX12_sentence 9 = .ok (.invokevirtual 295, 3) := by decide +kernel
theorem dX12_sentence_12 : decode cX12_sentence 12 = .ok (.aload_n 0, 1) := by decide +kernel
theorem dX12_sentence_13 : decode cX12_sentence 13 = .ok (.iconst 0, 1) := by decide +kernel
theorem dX12_sentence_14 : decode cX12_sentence 14 = .ok (.putfield 208, 3) := by decide +kernel
theorem dX12_sentence_17 : decode cX12_sentence 17 = .ok (.aload_n 0, 1) := by decide +kernel
theorem dX12_sentence_18 : decode cX12_sentence 18 = .ok (.iconst 0, 1) := by decide +kernel
theorem dX12_sentence_19 : decode cX12_sentence 19 = .ok (.putfield 503, 3) := by decide +kernel
theorem dX12_sentence_22 : decode cX12_sentence 22 = .ok (.aload_n 0, 1) := by decide +kernel
theorem dX12_sentence_23 : decode cX12_sentence 23 = .ok (.iconst 0, 1) := by decide +kernel
theorem dX12_sentence_24 : decode cX12_sentence 24 = .ok (.putfield 518, 3) := by decide +kernel
theorem dX12_sentence_27 : decode cX12_sentence 27 = .ok (.aload_n 0, 1) := by decide +kernel
theorem dX12_sentence_28 : decode cX12_sentence 28 = .ok (.iconst 0, 1) := by decide +kernel
theorem dX12_sentence_29 : decode cX12_sentence 29 = .ok (.putfield 506, 3) := by decide +kernel
theorem dX12_sentence_32 : decode cX12_sentence 32 = .ok (.aload_n 0, 1) := by decide +kernel
theorem dX12_sentence_33 : decode cX12_sentence 33 = .ok (.iconst 1, 1) := by decide +kernel
theorem dX12_sentence_34 : decode cX12_sentence 34 = .ok (.putfield 512, 3) := by decide +kernel
theorem dX12_sentence_37 : decode cX12_sentence 37 = .ok (.aload_n 0, 1) := by decide +kernel
theorem dX12_sentence_38 : decode cX12_sentence 38 = .ok (.iconst 0, 1) := by decide +kernel
theorem dX12_sentence_39 : decode cX12_sentence 39 = .ok (.putfield 521, 3) := by decide +kernel
theorem dX12_sentence_42 : decode cX12_sentence 42 = .ok (.aload_n 0, 1) := by decide +kernel
theorem dX12_sentence_43 : decode cX12_sentence 43 = .ok (.invokevirtual 220, 3) := by decide +kernel
theorem dX12_sentence_46 : decode cX12_sentence 46 = .ok (.iconst 1, 1) := by decide +kernel
theorem dX12_sentence_47 : decode cX12_sentence 47 = .ok (.istore_n 1, 1) := by decide +kernel
theorem dX12_sentence_48 : decode cX12_sentence 48 = .ok (.iload_n 1, 1) := by decide +kernel
theorem dX12_sentence_49 : decode cX12_sentence 49 = .ok (.ifCond .eq 83, 3) := by decide +kernel
theorem dX12_sentence_52 : decode cX12_sentence 52 = .ok (.aload_n 0, 1) := by decide +kernel
theorem dX12_sentence_53 : decode cX12_sentence 53 = .ok (.getfield 521, 3) := by decide +kernel
theorem dX12_sentence_56 : decode cX12_sentence 56 = .ok (.ifCond .eq 45, 3) := by decide +kernel
theorem dX12_sentence_59 : decode cX12_sentence 59 = .ok (.aload_n 0, 1) := by decide +kernel
theorem dX12_sentence_60 : decode cX12_sentence 60 = .ok (.getfield 191, 3) := by decide +kernel
theorem dX12_sentence_63 : decode cX12_sentence 63 = .ok (.ifCond .ne 38, 3) := by decide +kernel
theorem dX12_sentence_66 : decode cX12_sentence 66 = .ok (.aload_n 0, 1) := by decide +kernel
theorem dX12_sentence_67 : decode cX12_sentence 67 = .ok (.invokevirtual 524, 3) := by decide +kernel
theorem dX12_sentence_70 : decode cX12_sentence 70 = .ok (.aload_n 0, 1) := by decide +kernel
theorem dX12_sentence_71 : decode cX12_sentence 71 = .ok (.bipush 22, 2) := by decide +kernel
theorem dX12_sentence_73 : decode cX12_sentence 73 = .ok (.invokevirtual 527, 3) := by decide +kernel
theorem dX12_sentence_76 : decode cX12_sentence 76 = .ok (.aload_n 0, 1) := by decide +kernel
theorem dX12_sentence_77 : decode cX12_sentence 77 = .ok (.getfield 506, 3) := by decide +kernel
theorem dX12_sentence_80 : decode cX12_sentence 80 = .ok (.ifCond .le 16, 3) := by decide +kernel
theorem dX12_sentence_83 : decode cX12_sentence 83 = .ok (.aload_n 0, 1) := by decide +kernel
theorem dX12_sentence_84 : decode cX12_sentence 84 = .ok (.iconst 1, 1) := by decide +kernel
theorem dX12_sentence_85 : decode cX12_sentence 85 = .ok (.invokevirtual 217, 3) := by decide +kernel
theorem dX12_sentence_88 : decode cX12_sentence 88 = .ok (.pop, 1) := by decide +kernel
theorem dX12_sentence_89 : decode cX12_sentence 89 = .ok (.iconst (-1), 1) := by decide +kernel
theorem dX12_sentence_90 : decode cX12_sentence 90 = .ok (.aload_n 0, 1) := by decide +kernel
theorem dX12_sentence_91 : decode cX12_sentence 91 = .ok (.getfield 211, 3) := by decide +kernel
theorem dX12_sentence_94 : decode cX12_sentence 94 = .ok (.isub, 1) := by decide +kernel
theorem dX12_sentence_95 : decode cX12_sentence 95 = .ok (.ireturn, 1) := by decide +kernel
theorem dX12_sentence_96 : decode cX12_sentence 96 = .ok (.iconst 0, 1) := by decide +kernel
theorem dX12_sentence_97 : decode cX12_sentence 97 = .ok (.istore_n 1, 1) := by decide +kernel
theorem dX12_sentence_98 : decode cX12_sentence 98 = .ok (.goto (-50), 3) := by decide +kernel
theorem dX12_sentence_101 : decode cX12_sentence 101 = .ok (.aload_n 0, 1) := by decide +kernel
theorem dX12_sentence_102 : decode cX12_sentence 102 = .ok (.getfield 521, 3) := by decide +kernel
theorem dX12_sentence_105 : decode cX12_sentence 105 = .ok (.ifCond .eq 13, 3) := by decide +kernel
theorem dX12_sentence_108 : decode cX12_sentence 108 = .ok (.aload_n 0, 1) := by decide +kernel
theorem dX12_sentence_109 : decode cX12_sentence 109 = .ok (.invokevirtual 530, 3) := by decide +kernel
theorem dX12_sentence_112 : decode cX12_sentence 112 = .ok (.ifCond .ne (-64), 3) := by decide +kernel
theorem dX12_sentence_115 : decode cX12_sentence 115 = .ok (.goto 10, 3) := by decide +kernel
theorem dX12_sentence_118 : decode cX12_sentence 118 = .ok (.aload_n 0, 1) := by decide +kernel
theorem dX12_sentence_119 : decode cX12_sentence 119 = .ok (.invokevirtual 533, 3) := by decide +kernel
theorem dX12_sentence_122 : decode cX12_sentence 122 = .ok (.ifCond .ne (-74), 3) := by decide +kernel
theorem dX12_sentence_125 : decode cX12_sentence 125 = .ok (.iconst (-1), 1) := by decide +kernel
theorem dX12_sentence_126 : decode cX12_sentence 126 = .ok (.aload_n 0, 1) := by decide +kernel
theorem dX12_sentence_127 : decode cX12_sentence 127 = .ok (.getfield 211, 3) := by decide +kernel
theorem dX12_sentence_130 : decode cX12_sentence 130 = .ok (.isub, 1) := by decide +kernel
theorem dX12_sentence_131 : decode cX12_sentence 131 = .ok (.ireturn, 1) := by decide +kernel
theorem dX12_sentence_132 : decode cX12_sentence 132 = .ok (.aload_n 0, 1) := by decide +kernel
theorem dX12_sentence_133 : decode cX12_sentence 133 = .ok (.getfield 33, 3) := by decide +kernel
theorem dX12_sentence_136 : decode cX12_sentence 136 = .ok (.bipush 121, 2) := by decide +kernel
theorem dX12_sentence_138 : decode cX12_sentence 138 = .ok (.aload_n 0, 1) := by decide +kernel
theorem dX12_sentence_139 : decode cX12_sentence 139 = .ok (.getfield 503, 3) := by decide +kernel
theorem dX12_sentence_142 : decode cX12_sentence 142 = .ok (.iastore, 1) := by decide +kernel
theorem dX12_sentence_143 : decode cX12_sentence 143 = .ok (.iconst 0, 1) := by decide +kernel
theorem dX12_sentence_144 : decode cX12_sentence 144 = .ok (.istore_n 2, 1) := by decide +kernel
theorem dX12_sentence_145 : decode cX12_sentence 145 = .ok (.iload_n 2, 1) := by decide +kernel
theorem dX12_sentence_146 : decode cX12_sentence 146 = .ok (.iconst 3, 1) := by decide +kernel
theorem dX12_sentence_147 : decode cX12_sentence 147 = .ok (.aload_n 0, 1) := by decide +kernel
theorem dX12_sentence_148 : decode cX12_sentence 148 = .ok (.getfield 503, 3) := by decide +kernel
theorem dX12_sentence_151 : decode cX12_sentence 151 = .ok (.imul, 1) := by decide +kernel
theorem dX12_sentence_152 : decode cX12_sentence 152 = .ok (.if_icmp .ge 24, 3) := by decide +kernel
theorem dX12_sentence_155 : decode cX12_sentence 155 = .ok (.aload_n 0, 1) := by decide +kernel
theorem dX12_sentence_156 : decode cX12_sentence 156 = .ok (.getfield 33, 3) := by decide +kernel
theorem dX12_sentence_159 : decode cX12_sentence 159 = .ok (.bipush 122, 2) := by decide +kernel
theorem dX12_sentence_161 : decode cX12_sentence 161 = .ok (.iload_n 2, 1) := by decide +kernel
theorem dX12_sentence_162 : decode cX12_sentence 162 = .ok (.iadd, 1) := by decide +kernel
theorem dX12_sentence_163 : decode cX12_sentence 163 = .ok (.aload_n 0, 1) := by decide +kernel
theorem dX12_sentence_164 : decode cX12_sentence 164 = .ok (.getfield 40, 3) := by decide +kernel
theorem dX12_sentence_167 : decode cX12_sentence 167 = .ok (.iload_n 2, 1) := by decide +kernel
theorem dX12_sentence_168 : decode cX12_sentence 168 = .ok (.iaload, 1) := by decide +kernel
theorem dX12_sentence_169 : decode cX12_sentence 169 = .ok (.iastore, 1) := by decide +kernel
theorem dX12_sentence_170 : decode cX12_sentence 170 = .ok (.iinc 2 1, 3) := by decide +kernel
theorem dX12_sentence_173 : decode cX12_sentence 173 = .ok (.goto (-28), 3) := by decide +kernel
theorem dX12_sentence_176 : decode cX12_sentence 176 = .ok (.aload_n 0, 1) := by decide +kernel
theorem dX12_sentence_177 : decode cX12_sentence 177 = .ok (.getfield 518, 3) := by decide +kernel
theorem dX12_sentence_180 : decode cX12_sentence 180 = .ok (.ireturn, 1) := by decide +kernel
theorem dX12_isLeaf_0 : decode cX12_isLeaf 0 = .ok (.aload_n 0, 1) := by decide +kernel
theorem dX12_isLeaf_1 : decode cX12_isLeaf 1 = .ok (.iload_n 1, 1) := by decide +kernel
theorem dX12_isLeaf_2 : decode cX12_isLeaf 2 = .ok (.invokevirtual 362, 3) := by decide +kernel
theorem dX12_isLeaf_5 : decode cX12_isLeaf 5 = .ok (.istore 5, 2) := by decide +kernel
theorem dX12_isLeaf_7 : decode cX12_isLeaf 7 = .ok (.iload 5, 2) := by decide +kernel
theorem dX12_isLeaf_9 : decode cX12_isLeaf 9 = .ok (.ifCond .ge 7, 3) := by decide +kernel
theorem dX12_isLeaf_12 : decode cX12_isLeaf 12 = .ok (.iconst (-1), 1) := by decide +kernel
theorem dX12_isLeaf_13 : decode cX12_isLeaf 13 = .ok (.goto 10, 3) := by decide +kernel
theorem dX12_isLeaf_16 : decode cX12_isLeaf 16 = .ok (.aload_n 0, 1) := by decide +kernel
theorem dX12_isLeaf_17 : decode cX12_isLeaf 17 = .ok (.iload 5, 2) := by decide +kernel
theorem dX12_isLeaf_19 : decode cX12_isLeaf 19 = .ok (.iload_n 1, 1) := by decide +kernel
theorem dX12_isLeaf_20 : decode cX12_isLeaf 20 = .ok (.invokevirtual 352, 3) := by decide +kernel
theorem dX12_isLeaf_23 : decode cX12_isLeaf 23 = .ok (.istore 6, 2) := by decide +kernel
theorem dX12_isLeaf_25 : decode cX12_isLeaf 25 = .ok (.iload_n 2, 1) := by decide +kernel
theorem dX12_isLeaf_26 : decode cX12_isLeaf 26 = .ok (.tableswitch 114 0 4 #[34, 45, 56, 79, 92], 34) := by decide +kernel
theorem dX12_isLeaf_60 : decode cX12_isLeaf 60 = .ok (.iload 5, 2) := by decide +kernel
theorem dX12_isLeaf_62 : decode cX12_isLeaf 62 = .ok (.ifCond .ge 7, 3) := by decide +kernel
theorem dX12_isLeaf_65 : decode cX12_isLeaf 65 = .ok (.iconst 1, 1) := by decide +kernel
theorem dX12_isLeaf_66 : decode cX12_isLeaf 66 = .ok (.goto 4, 3) := by decide +kernel
theorem dX12_isLeaf_69 : decode cX12_isLeaf 69 = .ok (.iconst 0, 1) := by decide +kernel
theorem dX12_isLeaf_70 : decode cX12_isLeaf 70 = .ok (.ireturn, 1) := by decide +kernel
theorem dX12_isLeaf_71 : decode cX12_isLeaf 71 = .ok (.iload 6, 2) := by decide +kernel
theorem dX12_isLeaf_73 : decode cX12_isLeaf 73 = .ok (.ifCond .lt 7, 3) := by decide +kernel
theorem dX12_isLeaf_76 : decode cX12_isLeaf 76 = .ok (.iconst 1, 1) := by decide +kernel
theorem dX12_isLeaf_77 : decode cX12_isLeaf 77 = .ok (.goto 4, 3) := by decide +kernel
theorem dX12_isLeaf_80 : decode cX12_isLeaf 80 = .ok (.iconst 0, 1) := by decide +kernel
theorem dX12_isLeaf_81 : decode cX12_isLeaf 81 = .ok (.ireturn, 1) := by decide +kernel
theorem dX12_isLeaf_82 : decode cX12_isLeaf 82 = .ok (.iload 5, 2) := by decide +kernel
theorem dX12_isLeaf_84 : decode cX12_isLeaf 84 = .ok (.ifCond .lt 19, 3) := by decide +kernel
theorem dX12_isLeaf_87 : decode cX12_isLeaf 87 = .ok (.aload_n 0, 1) := by decide +kernel
theorem dX12_isLeaf_88 : decode cX12_isLeaf 88 = .ok (.iload 5, 2) := by decide +kernel
theorem dX12_isLeaf_90 : decode cX12_isLeaf 90 = .ok (.iload_n 1, 1) := by decide +kernel
theorem dX12_isLeaf_91 : decode cX12_isLeaf 91 = .ok (.invokevirtual 368, 3) := by decide +kernel
theorem dX12_isLeaf_94 : decode cX12_isLeaf 94 = .ok (.iload 4, 2) := by decide +kernel
theorem dX12_isLeaf_96 : decode cX12_isLeaf 96 = .ok (.if_icmp .ne 7, 3) := by decide +kernel
theorem dX12_isLeaf_99 : decode cX12_isLeaf 99 = .ok (.iconst 1, 1) := by decide +kernel
theorem dX12_isLeaf_100 : decode cX12_isLeaf 100 = .ok (.goto 4, 3) := by decide +kernel
theorem dX12_isLeaf_103 : decode cX12_isLeaf 103 = .ok (.iconst 0, 1) := by decide +kernel
theorem dX12_isLeaf_104 : decode cX12_isLeaf 104 = .ok (.ireturn, 1) := by decide +kernel
theorem dX12_isLeaf_105 : decode cX12_isLeaf 105 = .ok (.iload 5, 2) := by decide +kernel
theorem dX12_isLeaf_107 : decode cX12_isLeaf 107 = .ok (.iload 4, 2) := by decide +kernel
theorem dX12_isLeaf_109 : decode cX12_isLeaf 109 = .ok (.if_icmp .ne 7, 3) := by decide +kernel
theorem dX12_isLeaf_112 : decode cX12_isLeaf 112 = .ok (.iconst 1, 1) := by decide +kernel
theorem dX12_isLeaf_113 : decode cX12_isLeaf 113 = .ok (.goto 4, 3) := by decide +kernel
theorem dX12_isLeaf_116 : decode cX12_isLeaf 116 = .ok (.iconst 0, 1) := by decide +kernel
theorem dX12_isLeaf_117 : decode cX12_isLeaf 117 = .ok (.ireturn, 1) := by decide +kernel
theorem dX12_isLeaf_118 : decode cX12_isLeaf 118 = .ok (.iload 6, 2) := by decide +kernel
theorem dX12_isLeaf_120 : decode cX12_isLeaf 120 = .ok (.ifCond .lt 18, 3) := by decide +kernel
theorem dX12_isLeaf_123 : decode cX12_isLeaf 123 = .ok (.aload_n 0, 1) := by decide +kernel
theorem dX12_isLeaf_124 : decode cX12_isLeaf 124 = .ok (.iload 6, 2) := by decide +kernel
theorem dX12_isLeaf_126 : decode cX12_isLeaf 126 = .ok (.invokevirtual 330, 3) := by decide +kernel
theorem dX12_isLeaf_129 : decode cX12_isLeaf 129 = .ok (.iload 4, 2) := by decide +kernel
theorem dX12_isLeaf_131 : decode cX12_isLeaf 131 = .ok (.if_icmp .ne 7, 3) := by decide +kernel
theorem dX12_isLeaf_134 : decode cX12_isLeaf 134 = .ok (.iconst 1, 1) := by decide +kernel
theorem dX12_isLeaf_135 : decode cX12_isLeaf 135 = .ok (.goto 4, 3) := by decide +kernel
theorem dX12_isLeaf_138 : decode cX12_isLeaf 138 = .ok (.iconst 0, 1) := by decide +kernel
theorem dX12_isLeaf_139 : decode cX12_isLeaf 139 = .ok (.ireturn, 1) := by decide +kernel
theorem dX12_isLeaf_140 : decode cX12_isLeaf 140 = .ok (.iload_n 2, 1) := by decide +kernel
theorem dX12_isLeaf_141 : decode cX12_isLeaf 141 = .ok (.iconst 5, 1) := by decide +kernel
theorem dX12_isLeaf_142 : decode cX12_isLeaf 142 = .ok (.if_icmp .ne 15, 3) := by decide +kernel
theorem dX12_isLeaf_145 : decode cX12_isLeaf 145 = .ok (.aload_n 0, 1) := by decide +kernel
theorem dX12_isLeaf_146 : decode cX12_isLeaf 146 = .ok (.getfield 33, 3) := by decide +kernel
theorem dX12_isLeaf_149 : decode cX12_isLeaf 149 = .ok (.bipush 109, 2) := by decide +kernel
theorem dX12_isLeaf_151 : decode cX12_isLeaf 151 = .ok (.iload_n 1, 1) := by decide +kernel
theorem dX12_isLeaf_152 : decode cX12_isLeaf 152 = .ok (.iadd, 1) := by decide +kernel
theorem dX12_isLeaf_153 : decode cX12_isLeaf 153 = .ok (.iaload, 1) := by decide +kernel
theorem dX12_isLeaf_154 : decode cX12_isLeaf 154 = .ok (.goto 22, 3) := by decide +kernel
theorem dX12_isLeaf_157 : decode cX12_isLeaf 157 = .ok (.iload_n 2, 1) := by decide +kernel
theorem dX12_isLeaf_158 : decode cX12_isLeaf 158 = .ok (.bipush 6, 2) := by decide +kernel
theorem dX12_isLeaf_160 : decode cX12_isLeaf 160 = .ok (.if_icmp .ne 15, 3) := by decide +kernel
theorem dX12_isLeaf_163 : decode cX12_isLeaf 163 = .ok (.aload_n 0, 1) := by decide +kernel
theorem dX12_isLeaf_164 : decode cX12_isLeaf 164 = .ok (.getfield 33, 3) := by decide +kernel
theorem dX12_isLeaf_167 : decode cX12_isLeaf 167 = .ok (.bipush 115, 2) := by decide +kernel
theorem dX12_isLeaf_169 : decode cX12_isLeaf 169 = .ok (.iload_n 1, 1) := by decide +kernel
theorem dX12_isLeaf_170 : decode cX12_isLeaf 170 = .ok (.iadd, 1) := by decide +kernel
theorem dX12_isLeaf_171 : decode cX12_isLeaf 171 = .ok (.iaload, 1) := by decide +kernel
theorem dX12_isLeaf_172 : decode cX12_isLeaf 172 = .ok (.goto 4, 3) := by decide +kernel
theorem dX12_isLeaf_175 : decode cX12_isLeaf 175 = .ok (.iload_n 1, 1) := by decide +kernel
theorem dX12_isLeaf_176 : decode cX12_isLeaf 176 = .ok (.istore 7, 2) := by decide +kernel
theorem dX12_isLeaf_178 : decode cX12_isLeaf 178 = .ok (.iload_n 3, 1) := by decide +kernel
theorem dX12_isLeaf_179 : decode cX12_isLeaf 179 = .ok (.bipush 60, 2) := by decide +kernel
theorem dX12_isLeaf_181 : decode cX12_isLeaf 181 = .ok (.if_icmp .ne 18, 3) := by decide +kernel
theorem dX12_isLeaf_184 : decode cX12_isLeaf 184 = .ok (.iload 7, 2) := by decide +kernel
theorem dX12_isLeaf_186 : decode cX12_isLeaf 186 = .ok (.iload 4, 2) := by decide +kernel
theorem dX12_isLeaf_188 : decode cX12_isLeaf 188 = .ok (.if_icmp .ge 7, 3) := by decide +kernel
theorem dX12_isLeaf_191 : decode cX12_isLeaf 191 = .ok (.iconst 1, 1) := by decide +kernel
theorem dX12_isLeaf_192 : decode cX12_isLeaf 192 = .ok (.goto 40, 3) := by decide +kernel
theorem dX12_isLeaf_195 : decode cX12_isLeaf 195 = .ok (.iconst 0, 1) := by decide +kernel
theorem dX12_isLeaf_196 : decode cX12_isLeaf 196 = .ok (.goto 36, 3) := by decide +kernel
theorem dX12_isLeaf_199 : decode cX12_isLeaf 199 = .ok (.iload_n 3, 1) := by decide +kernel
theorem dX12_isLeaf_200 : decode cX12_isLeaf 200 = .ok (.bipush 61, 2) := by decide +kernel
theorem dX12_isLeaf_202 : decode cX12_isLeaf 202 = .ok (.if_icmp .ne 18, 3) := by decide +kernel
theorem dX12_isLeaf_205 : decode cX12_isLeaf 205 = .ok (.iload 7, 2) := by decide +kernel
theorem dX12_isLeaf_207 : decode cX12_isLeaf 207 = .ok (.iload 4, 2) := by decide +kernel
theorem dX12_isLeaf_209 : decode cX12_isLeaf 209 = .ok (.if_icmp .ne 7, 3) := by decide +kernel
theorem dX12_isLeaf_212 : decode cX12_isLeaf 212 = .ok (.iconst 1, 1) := by decide +kernel
theorem dX12_isLeaf_213 : decode cX12_isLeaf 213 = .ok (.goto 19, 3) := by decide +kernel
theorem dX12_isLeaf_216 : decode cX12_isLeaf 216 = .ok (.iconst 0, 1) := by decide +kernel
theorem dX12_isLeaf_217 : decode cX12_isLeaf 217 = .ok (.goto 15, 3) := by decide +kernel
theorem dX12_isLeaf_220 : decode cX12_isLeaf 220 = .ok (.iload 7, 2) := by decide +kernel
theorem dX12_isLeaf_222 : decode cX12_isLeaf 222 = .ok (.iload 4, 2) := by decide +kernel
theorem dX12_isLeaf_224 : decode cX12_isLeaf 224 = .ok (.if_icmp .le 7, 3) := by decide +kernel
theorem dX12_isLeaf_227 : decode cX12_isLeaf 227 = .ok (.iconst 1, 1) := by decide +kernel
theorem dX12_isLeaf_228 : decode cX12_isLeaf 228 = .ok (.goto 4, 3) := by decide +kernel
theorem dX12_isLeaf_231 : decode cX12_isLeaf 231 = .ok (.iconst 0, 1) := by decide +kernel
theorem dX12_isLeaf_232 : decode cX12_isLeaf 232 = .ok (.ireturn, 1) := by decide +kernel
theorem dX12_isSaid_0 : decode cX12_isSaid 0 = .ok (.iconst 0, 1) := by decide +kernel
theorem dX12_isSaid_1 : decode cX12_isSaid 1 = .ok (.istore_n 2, 1) := by decide +kernel
theorem dX12_isSaid_2 : decode cX12_isSaid 2 = .ok (.iconst 0, 1) := by decide +kernel
theorem dX12_isSaid_3 : decode cX12_isSaid 3 = .ok (.istore_n 3, 1) := by decide +kernel
theorem dX12_isSaid_4 : decode cX12_isSaid 4 = .ok (.iload_n 3, 1) := by decide +kernel
theorem dX12_isSaid_5 : decode cX12_isSaid 5 = .ok (.aload_n 0, 1) := by decide +kernel
theorem dX12_isSaid_6 : decode cX12_isSaid 6 = .ok (.getfield 33, 3) := by decide +kernel
theorem dX12_isSaid_9 : decode cX12_isSaid 9 = .ok (.bipush 121, 2) := by decide +kernel
theorem dX12_isSaid_11 : decode cX12_isSaid 11 = .ok (.iaload, 1) := by decide +kernel
theorem dX12_isSaid_12 : decode cX12_isSaid 12 = .ok (.if_icmp .ge 198, 3) := by decide +kernel
theorem dX12_isSaid_15 : decode cX12_isSaid 15 = .ok (.bipush 122, 2) := by decide +kernel
theorem dX12_isSaid_17 : decode cX12_isSaid 17 = .ok (.iconst 3, 1) := by decide +kernel
theorem dX12_isSaid_18 : decode cX12_isSaid 18 = .ok (.iload_n 3, 1) := by decide +kernel
theorem dX12_isSaid_19 : decode cX12_isSaid 19 = .ok (.imul, 1) := by decide +kernel
theorem dX12_isSaid_20 : decode cX12_isSaid 20 = .ok (.iadd, 1) := by decide +kernel
theorem dX12_isSaid_21 : decode cX12_isSaid 21 = .ok (.istore 4, 2) := by decide +kernel
theorem dX12_isSaid_23 : decode cX12_isSaid 23 = .ok (.aload_n 0, 1) := by decide +kernel
theorem dX12_isSaid_24 : decode cX12_isSaid 24 = .ok (.getfield 33, 3) := by decide +kernel
theorem dX12_isSaid_27 : decode cX12_isSaid 27 = .ok (.iload 4, 2) := by decide +kernel
theorem dX12_isSaid_29 : decode cX12_isSaid 29 = .ok (.iaload, 1) := by decide +kernel
theorem dX12_isSaid_30 : decode cX12_isSaid 30 = .ok (.bipush 20, 2) := by decide +kernel
theorem dX12_isSaid_32 : decode cX12_isSaid 32 = .ok (.if_icmp .ne 30, 3) := by decide +kernel
theorem dX12_isSaid_35 : decode cX12_isSaid 35 = .ok (.aload_n 0, 1) := by decide +kernel
theorem dX12_isSaid_36 : decode cX12_isSaid 36 = .ok (.getfield 102, 3) := by decide +kernel
theorem dX12_isSaid_39 : decode cX12_isSaid 39 = .ok (.iload_n 2, 1) := by decide +kernel
theorem dX12_isSaid_40 : decode cX12_isSaid 40 = .ok (.iconst 1, 1) := by decide +kernel
theorem dX12_isSaid_41 : decode cX12_isSaid 41 = .ok (.isub, 1) := by decide +kernel
theorem dX12_isSaid_42 : decode cX12_isSaid 42 = .ok (.aload_n 0, 1) := by decide +kernel
theorem dX12_isSaid_43 : decode cX12_isSaid 43 = .ok (.getfield 102, 3) := by decide +kernel
theorem dX12_isSaid_46 : decode cX12_isSaid 46 = .ok (.iload_n 2, 1) := by decide +kernel
theorem dX12_isSaid_47 : decode cX12_isSaid 47 = .ok (.iconst 1, 1) := by decide +kernel
theorem dX12_isSaid_48 : decode cX12_isSaid 48 = .ok (.isub, 1) := by decide +kernel
theorem dX12_isSaid_49 : decode cX12_isSaid 49 = .ok (.baload, 1) := by decide +kernel
theorem dX12_isSaid_50 : decode cX12_isSaid 50 = .ok (.ifCond .ne 7, 3) := by decide +kernel
theorem dX12_isSaid_53 : decode cX12_isSaid 53 = .ok (.iconst 1, 1) := by decide +kernel
theorem dX12_isSaid_54 : decode cX12_isSaid 54 = .ok (.goto 4, 3) := by decide +kernel
theorem dX12_isSaid_57 : decode cX12_isSaid 57 = .ok (.iconst 0, 1) := by decide +kernel
theorem dX12_isSaid_58 : decode cX12_isSaid 58 = .ok (.bastore, 1) := by decide +kernel
theorem dX12_isSaid_59 : decode cX12_isSaid 59 = .ok (.goto 145, 3) := by decide +kernel
theorem dX12_isSaid_62 : decode cX12_isSaid 62 = .ok (.aload_n 0, 1) := by decide +kernel
theorem dX12_isSaid_63 : decode cX12_isSaid 63 = .ok (.getfield 33, 3) := by decide +kernel
theorem dX12_isSaid_66 : decode cX12_isSaid 66 = .ok (.iload 4, 2) := by decide +kernel
theorem dX12_isSaid_68 : decode cX12_isSaid 68 = .ok (.iaload, 1) := by decide +kernel
theorem dX12_isSaid_69 : decode cX12_isSaid 69 = .ok (.bipush 21, 2) := by decide +kernel
theorem dX12_isSaid_71 : decode cX12_isSaid 71 = .ok (.if_icmp .eq 15, 3) := by decide +kernel
theorem dX12_isSaid_74 : decode cX12_isSaid 74 = .ok (.aload_n 0, 1) := by decide +kernel
theorem dX12_isSaid_75 : decode cX12_isSaid 75 = .ok (.getfield 33, 3) := by decide +kernel
theorem dX12_isSaid_78 : decode cX12_isSaid 78 = .ok (.iload 4, 2) := by decide +kernel
theorem dX12_isSaid_80 : decode cX12_isSaid 80 = .ok (.iaload, 1) := by decide +kernel
theorem dX12_isSaid_81 : decode cX12_isSaid 81 = .ok (.bipush 22, 2) := by decide +kernel
theorem dX12_isSaid_83 : decode cX12_isSaid 83 = .ok (.if_icmp .ne 82, 3) := by decide +kernel
theorem dX12_isSaid_86 : decode cX12_isSaid 86 = .ok (.iinc 2 (-1), 3) := by decide +kernel
theorem dX12_isSaid_89 : decode cX12_isSaid 89 = .ok (.aload_n 0, 1) := by decide +kernel
theorem dX12_isSaid_90 : decode cX12_isSaid 90 = .ok (.getfield 102, 3) := by decide +kernel
theorem dX12_isSaid_93 : decode cX12_isSaid 93 = .ok (.iload_n 2, 1) := by decide +kernel
theorem dX12_isSaid_94 : decode cX12_isSaid 94 = .ok (.iconst 1, 1) := by decide +kernel
theorem dX12_isSaid_95 : decode cX12_isSaid 95 = .ok (.isub, 1) := by decide +kernel
theorem dX12_isSaid_96 : decode cX12_isSaid 96 = .ok (.aload_n 0, 1) := by decide +kernel
theorem dX12_isSaid_97 : decode cX12_isSaid 97 = .ok (.getfield 33, 3) := by decide +kernel
theorem dX12_isSaid_100 : decode cX12_isSaid 100 = .ok (.iload 4, 2) := by decide +kernel
theorem dX12_isSaid_102 : decode cX12_isSaid 102 = .ok (.iaload, 1) := by decide +kernel
theorem dX12_isSaid_103 : decode cX12_isSaid 103 = .ok (.bipush 21, 2) := by decide +kernel
theorem dX12_isSaid_105 : decode cX12_isSaid 105 = .ok (.if_icmp .ne 31, 3) := by decide +kernel
theorem dX12_isSaid_108 : decode cX12_isSaid 108 = .ok (.aload_n 0, 1) := by decide +kernel
theorem dX12_isSaid_109 : decode cX12_isSaid 109 = .ok (.getfield 102, 3) := by decide +kernel
theorem dX12_isSaid_112 : decode cX12_isSaid 112 = .ok (.iload_n 2, 1) := by decide +kernel
theorem dX12_isSaid_113 : decode cX12_isSaid 113 = .ok (.iconst 1, 1) := by decide +kernel
theorem dX12_isSaid_114 : decode cX12_isSaid 114 = .ok (.isub, 1) := by decide +kernel
theorem dX12_isSaid_115 : decode cX12_isSaid 115 = .ok (.baload, 1) := by decide +kernel
theorem dX12_isSaid_116 : decode cX12_isSaid 116 = .ok (.ifCond .eq 16, 3) := by decide +kernel
theorem dX12_isSaid_119 : decode cX12_isSaid 119 = .ok (.aload_n 0, 1) := by decide +kernel
theorem dX12_isSaid_120 : decode cX12_isSaid 120 = .ok (.getfield 102, 3) := by decide +kernel
theorem dX12_isSaid_123 : decode cX12_isSaid 123 = .ok (.iload_n 2, 1) := by decide +kernel
theorem dX12_isSaid_124 : decode cX12_isSaid 124 = .ok (.baload, 1) := by decide +kernel
theorem dX12_isSaid_125 : decode cX12_isSaid 125 = .ok (.ifCond .eq 7, 3) := by decide +kernel
theorem dX12_isSaid_128 : decode cX12_isSaid 128 = .ok (.iconst 1, 1) := by decide +kernel
theorem dX12_isSaid_129 : decode cX12_isSaid 129 = .ok (.goto 32, 3) := by decide +kernel
theorem dX12_isSaid_132 : decode cX12_isSaid 132 = .ok (.iconst 0, 1) := by decide +kernel
theorem dX12_isSaid_133 : decode cX12_isSaid 133 = .ok (.goto 28, 3) := by decide +kernel
theorem dX12_isSaid_136 : decode cX12_isSaid 136 = .ok (.aload_n 0, 1) := by decide +kernel
theorem dX12_isSaid_137 : decode cX12_isSaid 137 = .ok (.getfield 102, 3) := by decide +kernel
theorem dX12_isSaid_140 : decode cX12_isSaid 140 = .ok (.iload_n 2, 1) := by decide +kernel
theorem dX12_isSaid_141 : decode cX12_isSaid 141 = .ok (.iconst 1, 1) := by decide +kernel
theorem dX12_isSaid_142 : decode cX12_isSaid 142 = .ok (.isub, 1) := by decide +kernel
theorem dX12_isSaid_143 : decode cX12_isSaid 143 = .ok (.baload, 1) := by decide +kernel
theorem dX12_isSaid_144 : decode cX12_isSaid 144 = .ok (.ifCond .ne 12, 3) := by decide +kernel
theorem dX12_isSaid_147 : decode cX12_isSaid 147 = .ok (.aload_n 0, 1) := by decide +kernel
theorem dX12_isSaid_148 : decode cX12_isSaid 148 = .ok (.getfield 102, 3) := by decide +kernel
theorem dX12_isSaid_151 : decode cX12_isSaid 151 = .ok (.iload_n 2, 1) := by decide +kernel
theorem dX12_isSaid_152 : decode cX12_isSaid 152 = .ok (.baload, 1) := by decide +kernel
theorem dX12_isSaid_153 : decode cX12_isSaid 153 = .ok (.ifCond .eq 7, 3) := by decide +kernel
theorem dX12_isSaid_156 : decode cX12_isSaid 156 = .ok (.iconst 1, 1) := by decide +kernel
theorem dX12_isSaid_157 : decode cX12_isSaid 157 = .ok (.goto 4, 3) := by decide +kernel
theorem dX12_isSaid_160 : decode cX12_isSaid 160 = .ok (.iconst 0, 1) := by decide +kernel
theorem dX12_isSaid_161 : decode cX12_isSaid 161 = .ok (.bastore, 1) := by decide +kernel
theorem dX12_isSaid_162 : decode cX12_isSaid 162 = .ok (.goto 42, 3) := by decide +kernel
theorem dX12_isSaid_165 : decode cX12_isSaid 165 = .ok (.aload_n 0, 1) := by decide +kernel
theorem dX12_isSaid_166 : decode cX12_isSaid 166 = .ok (.getfield 102, 3) := by decide +kernel
theorem dX12_isSaid_169 : decode cX12_isSaid 169 = .ok (.iload_n 2, 1) := by decide +kernel
theorem dX12_isSaid_170 : decode cX12_isSaid 170 = .ok (.aload_n 0, 1) := by decide +kernel
theorem dX12_isSaid_171 : decode cX12_isSaid 171 = .ok (.iload_n 1, 1) := by decide +kernel
theorem dX12_isSaid_172 : decode cX12_isSaid 172 = .ok (.aload_n 0, 1) := by decide +kernel
theorem dX12_isSaid_173 : decode cX12_isSaid 173 = .ok (.getfield 33, 3) := by decide +kernel
theorem dX12_isSaid_176 : decode cX12_isSaid 176 = .ok (.iload 4, 2) := by decide +kernel
theorem dX12_isSaid_178 : decode cX12_isSaid 178 = .ok (.iaload, 1) := by decide +kernel
theorem dX12_isSaid_179 : decode cX12_isSaid 179 = .ok (.aload_n 0, 1) := by decide +kernel
theorem dX12_isSaid_180 : decode cX12_isSaid 180 = .ok (.getfield 33, 3) := by decide +kernel
theorem dX12_isSaid_183 : decode cX12_isSaid 183 = .ok (.iload 4, 2) := by decide +kernel
theorem dX12_isSaid_185 : decode cX12_isSaid 185 = .ok (.iconst 1, 1) := by decide +kernel
theorem dX12_isSaid_186 : decode cX12_isSaid 186 = .ok (.iadd, 1) := by decide +kernel
theorem dX12_isSaid_187 : decode cX12_isSaid 187 = .ok (.iaload, 1) := by decide +kernel
theorem dX12_isSaid_188 : decode cX12_isSaid 188 = .ok (.aload_n 0, 1) := by decide +kernel
theorem dX12_isSaid_189 : decode cX12_isSaid 189 = .ok (.getfield 33, 3) := by decide +kernel
theorem dX12_isSaid_192 : decode cX12_isSaid 192 = .ok (.iload 4, 2) := by decide +kernel
theorem dX12_isSaid_194 : decode cX12_isSaid 194 = .ok (.iconst 2, 1) := by decide +kernel
theorem dX12_isSaid_195 : decode cX12_isSaid 195 = .ok (.iadd, 1) := by decide +kernel
theorem dX12_isSaid_196 : decode cX12_isSaid 196 = .ok (.iaload, 1) := by decide +kernel
theorem dX12_isSaid_197 : decode cX12_isSaid 197 = .ok (.invokevirtual 536, 3) := by decide +kernel
theorem dX12_isSaid_200 : decode cX12_isSaid 200 = .ok (.bastore, 1) := by decide +kernel
theorem dX12_isSaid_201 : decode cX12_isSaid 201 = .ok (.iinc 2 1, 3) := by decide +kernel
theorem dX12_isSaid_204 : decode cX12_isSaid 204 = .ok (.iinc 3 1, 3) := by decide +kernel
theorem dX12_isSaid_207 : decode cX12_isSaid 207 = .ok (.goto (-203), 3) := by decide +kernel
theorem dX12_isSaid_210 : decode cX12_isSaid 210 = .ok (.aload_n 0, 1) := by decide +kernel
theorem dX12_isSaid_211 : decode cX12_isSaid 211 = .ok (.getfield 102, 3) := by decide +kernel
theorem dX12_isSaid_214 : decode cX12_isSaid 214 = .ok (.iconst 0, 1) := by decide +kernel
theorem dX12_isSaid_215 : decode cX12_isSaid 215 = .ok (.baload, 1) := by decide +kernel
theorem dX12_isSaid_216 : decode cX12_isSaid 216 = .ok (.ireturn, 1) := by decide +kernel
theorem dX12_said_0 : decode cX12_said 0 = .ok (.aload_n 0, 1) := by decide +kernel
theorem dX12_said_1 : decode cX12_said 1 = .ok (.iconst 0, 1) := by decide +kernel
theorem dX12_said_2 : decode cX12_said 2 = .ok (.putfield 1, 3) := by decide +kernel
theorem dX12_said_5 : decode cX12_said 5 = .ok (.aload_n 0, 1) := by decide +kernel
theorem dX12_said_6 : decode cX12_said 6 = .ok (.getfield 33, 3) := by decide +kernel
theorem dX12_said_9 : decode cX12_said 9 = .ok (.bipush 121, 2) := by decide +kernel
theorem dX12_said_11 : decode cX12_said 11 = .ok (.iaload, 1) := by decide +kernel
theorem dX12_said_12 : decode cX12_said 12 = .ok (.ifCond .eq 8, 3) := by decide +kernel
theorem dX12_said_15 : decode cX12_said 15 = .ok (.iload_n 1, 1) := by decide +kernel
theorem dX12_said_16 : decode cX12_said 16 = .ok (.iconst (-1), 1) := by decide +kernel
theorem dX12_said_17 : decode cX12_said 17 = .ok (.if_icmp .ge 5, 3) := by decide +kernel
theorem dX12_said_20 : decode cX12_said 20 = .ok (.iconst (-1), 1) := by decide +kernel
theorem dX12_said_21 : decode cX12_said 21 = .ok (.ireturn, 1) := by decide +kernel
theorem dX12_said_22 : decode cX12_said 22 = .ok (.iconst 0, 1) := by decide +kernel
theorem dX12_said_23 : decode cX12_said 23 = .ok (.istore_n 2, 1) := by decide +kernel
theorem dX12_said_24 : decode cX12_said 24 = .ok (.iconst 0, 1) := by decide +kernel
theorem dX12_said_25 : decode cX12_said 25 = .ok (.istore_n 3, 1) := by decide +kernel
theorem dX12_said_26 : decode cX12_said 26 = .ok (.iload_n 3, 1) := by decide +kernel
theorem dX12_said_27 : decode cX12_said 27 = .ok (.aload_n 0, 1) := by decide +kernel
theorem dX12_said_28 : decode cX12_said 28 = .ok (.getfield 33, 3) := by decide +kernel
theorem dX12_said_31 : decode cX12_said 31 = .ok (.iconst 0, 1) := by decide +kernel
theorem dX12_said_32 : decode cX12_said 32 = .ok (.iaload, 1) := by decide +kernel
theorem dX12_said_33 : decode cX12_said 33 = .ok (.if_icmp .ge 30, 3) := by decide +kernel
theorem dX12_said_36 : decode cX12_said 36 = .ok (.aload_n 0, 1) := by decide +kernel
theorem dX12_said_37 : decode cX12_said 37 = .ok (.iload_n 3, 1) := by decide +kernel
theorem dX12_said_38 : decode cX12_said 38 = .ok (.invokevirtual 540, 3) := by decide +kernel
theorem dX12_said_41 : decode cX12_said 41 = .ok (.ifCond .ne 6, 3) := by decide +kernel
theorem dX12_said_44 : decode cX12_said 44 = .ok (.goto 13, 3) := by decide +kernel
theorem dX12_said_47 : decode cX12_said 47 = .ok (.iload_n 2, 1) := by decide +kernel
theorem dX12_said_48 : decode cX12_said 48 = .ok (.iload_n 1, 1) := by decide +kernel
theorem dX12_said_49 : decode cX12_said 49 = .ok (.if_icmp .ne 5, 3) := by decide +kernel
theorem dX12_said_52 : decode cX12_said 52 = .ok (.iload_n 3, 1) := by decide +kernel
theorem dX12_said_53 : decode cX12_said 53 = .ok (.ireturn, 1) := by decide +kernel
theorem dX12_said_54 : decode cX12_said 54 = .ok (.iinc 2 1, 3) := by decide +kernel
theorem dX12_said_57 : decode cX12_said 57 = .ok (.iinc 3 1, 3) := by decide +kernel
theorem dX12_said_60 : decode cX12_said 60 = .ok (.goto (-34), 3) := by decide +kernel
theorem dX12_said_63 : decode cX12_said 63 = .ok (.iload_n 1, 1) := by decide +kernel
theorem dX12_said_64 : decode cX12_said 64 = .ok (.iconst (-1), 1) := by decide +kernel
theorem dX12_said_65 : decode cX12_said 65 = .ok (.if_icmp .ne 7, 3) := by decide +kernel
theorem dX12_said_68 : decode cX12_said 68 = .ok (.iload_n 2, 1) := by decide +kernel
theorem dX12_said_69 : decode cX12_said 69 = .ok (.goto 4, 3) := by decide +kernel
theorem dX12_said_72 : decode cX12_said 72 = .ok (.iconst (-1), 1) := by decide +kernel
theorem dX12_said_73 : decode cX12_said 73 = .ok (.ireturn, 1) := by decide +kernel
theorem dX12_image_0 : decode cX12_image 0 = .ok (.aload_n 0, 1) := by decide +kernel
theorem dX12_image_1 : decode cX12_image 1 = .ok (.iconst 0, 1) := by decide +kernel
theorem dX12_image_2 : decode cX12_image 2 = .ok (.putfield 1, 3) := by decide +kernel
theorem dX12_image_5 : decode cX12_image 5 = .ok (.iload_n 1, 1) := by decide +kernel
theorem dX12_image_6 : decode cX12_image 6 = .ok (.iconst 0, 1) := by decide +kernel
theorem dX12_image_7 : decode cX12_image 7 = .ok (.iconst 1, 1) := by decide +kernel
theorem dX12_image_8 : decode cX12_image 8 = .ok (.invokestatic 223, 3) := by decide +kernel
theorem dX12_image_11 : decode cX12_image 11 = .ok (.ifCond .ne 5, 3) := by decide +kernel
theorem dX12_image_14 : decode cX12_image 14 = .ok (.iconst 0, 1) := by decide +kernel
theorem dX12_image_15 : decode cX12_image 15 = .ok (.ireturn, 1) := by decide +kernel
theorem dX12_image_16 : decode cX12_image 16 = .ok (.iconst 0, 1) := by decide +kernel
theorem dX12_image_17 : decode cX12_image 17 = .ok (.istore_n 2, 1) := by decide +kernel
theorem dX12_image_18 : decode cX12_image 18 = .ok (.iload_n 2, 1) := by decide +kernel
theorem dX12_image_19 : decode cX12_image 19 = .ok (.sipush 302, 3) := by decide +kernel
theorem dX12_image_22 : decode cX12_image 22 = .ok (.if_icmp .ge 27, 3) := by decide +kernel
theorem dX12_image_25 : decode cX12_image 25 = .ok (.aload_n 0, 1) := by decide +kernel
theorem dX12_image_26 : decode cX12_image 26 = .ok (.getfield 105, 3) := by decide +kernel
theorem dX12_image_29 : decode cX12_image 29 = .ok (.sipush 302, 3) := by decide +kernel
theorem dX12_image_32 : decode cX12_image 32 = .ok (.iload_n 1, 1) := by decide +kernel
theorem dX12_image_33 : decode cX12_image 33 = .ok (.imul, 1) := by decide +kernel
theorem dX12_image_34 : decode cX12_image 34 = .ok (.iload_n 2, 1) := by decide +kernel
theorem dX12_image_35 : decode cX12_image 35 = .ok (.iadd, 1) := by decide +kernel
theorem dX12_image_36 : decode cX12_image 36 = .ok (.aload_n 0, 1) := by decide +kernel
theorem dX12_image_37 : decode cX12_image 37 = .ok (.getfield 33, 3) := by decide +kernel
theorem dX12_image_40 : decode cX12_image 40 = .ok (.iload_n 2, 1) := by decide +kernel
theorem dX12_image_41 : decode cX12_image 41 = .ok (.iaload, 1) := by decide +kernel
theorem dX12_image_42 : decode cX12_image 42 = .ok (.iastore, 1) := by decide +kernel
theorem dX12_image_43 : decode cX12_image 43 = .ok (.iinc 2 1, 3) := by decide +kernel
theorem dX12_image_46 : decode cX12_image 46 = .ok (.goto (-28), 3) := by decide +kernel
theorem dX12_image_49 : decode cX12_image 49 = .ok (.iconst 0, 1) := by decide +kernel
theorem dX12_image_50 : decode cX12_image 50 = .ok (.istore_n 2, 1) := by decide +kernel
theorem dX12_image_51 : decode cX12_image 51 = .ok (.iload_n 2, 1) := by decide +kernel
theorem dX12_image_52 : decode cX12_image 52 = .ok (.bipush 20, 2) := by decide +kernel
theorem dX12_image_54 : decode cX12_image 54 = .ok (.if_icmp .ge 26, 3) := by decide +kernel
theorem dX12_image_57 : decode cX12_image 57 = .ok (.aload_n 0, 1) := by decide +kernel
theorem dX12_image_58 : decode cX12_image 58 = .ok (.getfield 108, 3) := by decide +kernel
theorem dX12_image_61 : decode cX12_image 61 = .ok (.bipush 20, 2) := by decide +kernel
theorem dX12_image_63 : decode cX12_image 63 = .ok (.iload_n 1, 1) := by decide +kernel
theorem dX12_image_64 : decode cX12_image 64 = .ok (.imul, 1) := by decide +kernel
theorem dX12_image_65 : decode cX12_image 65 = .ok (.iload_n 2, 1) := by decide +kernel
theorem dX12_image_66 : decode cX12_image 66 = .ok (.iadd, 1) := by decide +kernel
theorem dX12_image_67 : decode cX12_image 67 = .ok (.aload_n 0, 1) := by decide +kernel
theorem dX12_image_68 : decode cX12_image 68 = .ok (.getfield 43, 3) := by decide +kernel
theorem dX12_image_71 : decode cX12_image 71 = .ok (.iload_n 2, 1) := by decide +kernel
theorem dX12_image_72 : decode cX12_image 72 = .ok (.laload, 1) := by decide +kernel
theorem dX12_image_73 : decode cX12_image 73 = .ok (.lastore, 1) := by decide +kernel
theorem dX12_image_74 : decode cX12_image 74 = .ok (.iinc 2 1, 3) := by decide +kernel
theorem dX12_image_77 : decode cX12_image 77 = .ok (.goto (-26), 3) := by decide +kernel
theorem dX12_image_80 : decode cX12_image 80 = .ok (.aload_n 0, 1) := by decide +kernel
theorem dX12_image_81 : decode cX12_image 81 = .ok (.getfield 111, 3) := by decide +kernel
theorem dX12_image_84 : decode cX12_image 84 = .ok (.iload_n 1, 1) := by decide +kernel
theorem dX12_image_85 : decode cX12_image 85 = .ok (.iconst 1, 1) := by decide +kernel
theorem dX12_image_86 : decode cX12_image 86 = .ok (.bastore, 1) := by decide +kernel
theorem dX12_image_87 : decode cX12_image 87 = .ok (.iconst 1, 1) := by decide +kernel
theorem dX12_image_88 : decode cX12_image 88 = .ok (.ireturn, 1) := by decide +kernel
theorem dX12_restore_0 : decode cX12_restore 0 = .ok (.aload_n 0, 1) := by decide +kernel
theorem dX12_restore_1 : decode cX12_restore 1 = .ok (.iconst 0, 1) := by decide +kernel
theorem dX12_restore_2 : decode cX12_restore 2 = .ok (.putfield 1, 3) := by decide +kernel
theorem dX12_restore_5 : decode cX12_restore 5 = .ok (.iload_n 1, 1) := by decide +kernel
theorem dX12_restore_6 : decode cX12_restore 6 = .ok (.iconst 0, 1) := by decide +kernel
theorem dX12_restore_7 : decode cX12_restore 7 = .ok (.iconst 1, 1) := by decide +kernel
theorem dX12_restore_8 : decode cX12_restore 8 = .ok (.invokestatic 223, 3) := by decide +kernel
theorem dX12_restore_11 : decode cX12_restore 11 = .ok (.ifCond .eq 12, 3) := by decide +kernel
theorem dX12_restore_14 : decode cX12_restore 14 = .ok (.aload_n 0, 1) := by decide +kernel
theorem dX12_restore_15 : decode cX12_restore 15 = .ok (.getfield 111, 3) := by decide +kernel
theorem dX12_restore_18 : decode cX12_restore 18 = .ok (.iload_n 1, 1) := by decide +kernel
theorem dX12_restore_19 : decode cX12_restore 19 = .ok (.baload, 1) := by decide +kernel
theorem dX12_restore_20 : decode cX12_restore 20 = .ok (.ifCond .ne 5, 3) := by decide +kernel
theorem dX12_restore_23 : decode cX12_restore 23 = .ok (.iconst 0, 1) := by decide +kernel
theorem dX12_restore_24 : decode cX12_restore 24 = .ok (.ireturn, 1) := by decide +kernel
theorem dX12_restore_25 : decode cX12_restore 25 = .ok (.iconst 0, 1) := by decide +kernel
theorem dX12_restore_26 : decode cX12_restore 26 = .ok (.istore_n 2, 1) := by decide +kernel
theorem dX12_restore_27 : decode cX12_restore 27 = .ok (.iload_n 2, 1) := by decide +kernel
theorem dX12_restore_28 : decode cX12_restore 28 = .ok (.sipush 302, 3) := by decide +kernel
theorem dX12_restore_31 : decode cX12_restore 31 = .ok (.if_icmp .ge 27, 3) := by decide +kernel
theorem dX12_restore_34 : decode cX12_restore 34 = .ok (.aload_n 0, 1) := by decide +kernel
theorem dX12_restore_35 : decode cX12_restore 35 = .ok (.getfield 33, 3) := by decide +kernel
theorem dX12_restore_38 : decode cX12_restore 38 = .ok (.iload_n 2, 1) := by decide +kernel
theorem dX12_restore_39 : decode cX12_restore 39 = .ok (.aload_n 0, 1) := by decide +kernel
theorem dX12_restore_40 : decode cX12_restore 40 = .ok (.getfield 105, 3) := by decide +kernel
theorem dX12_restore_43 : decode cX12_restore 43 = .ok (.sipush 302, 3) := by decide +kernel
theorem dX12_restore_46 : decode cX12_restore 46 = .ok (.iload_n 1, 1) := by decide +kernel
theorem dX12_restore_47 : decode cX12_restore 47 = .ok (.imul, 1) := by decide +kernel
theorem dX12_restore_48 : decode cX12_restore 48 = .ok (.iload_n 2, 1) := by decide +kernel
theorem dX12_restore_49 : decode cX12_restore 49 = .ok (.iadd, 1) := by decide +kernel
theorem dX12_restore_50 : decode cX12_restore 50 = .ok (.iaload, 1) := by decide +kernel
theorem dX12_restore_51 : decode cX12_restore 51 = .ok (.iastore, 1) := by decide +kernel
theorem dX12_restore_52 : decode cX12_restore 52 = .ok (.iinc 2 1, 3) := by decide +kernel
theorem dX12_restore_55 : decode cX12_restore 55 = .ok (.goto (-28), 3) := by decide +kernel
theorem dX12_restore_58 : decode cX12_restore 58 = .ok (.iconst 0, 1) := by decide +kernel
theorem dX12_restore_59 : decode cX12_restore 59 = .ok (.istore_n 2, 1) := by decide +kernel
theorem dX12_restore_60 : decode cX12_restore 60 = .ok (.iload_n 2, 1) := by decide +kernel
theorem dX12_restore_61 : decode cX12_restore 61 = .ok (.bipush 20, 2) := by decide +kernel
theorem dX12_restore_63 : decode cX12_restore 63 = .ok (.if_icmp .ge 26, 3) := by decide +kernel
theorem dX12_restore_66 : decode cX12_restore 66 = .ok (.aload_n 0, 1) := by decide +kernel
theorem dX12_restore_67 : decode cX12_restore 67 = .ok (.getfield 43, 3) := by decide +kernel
theorem dX12_restore_70 : decode cX12_restore 70 = .ok (.iload_n 2, 1) := by decide +kernel
theorem dX12_restore_71 : decode cX12_restore 71 = .ok (.aload_n 0, 1) := by decide +kernel
theorem dX12_restore_72 : decode cX12_restore 72 = .ok (.getfield 108, 3) := by decide +kernel
theorem dX12_restore_75 : decode cX12_restore 75 = .ok (.bipush 20, 2) := by decide +kernel
theorem dX12_restore_77 : decode cX12_restore 77 = .ok (.iload_n 1, 1) := by decide +kernel
theorem dX12_restore_78 : decode cX12_restore 78 = .ok (.imul, 1) := by decide +kernel
theorem dX12_restore_79 : decode cX12_restore 79 = .ok (.iload_n 2, 1) := by decide +kernel
theorem dX12_restore_80 : decode cX12_restore 80 = .ok (.iadd, 1) := by decide +kernel
theorem dX12_restore_81 : decode cX12_restore 81 = .ok (.laload, 1) := by decide +kernel
theorem dX12_restore_82 : decode cX12_restore 82 = .ok (.lastore, 1) := by decide +kernel
theorem dX12_restore_83 : decode cX12_restore 83 = .ok (.iinc 2 1, 3) := by decide +kernel
theorem dX12_restore_86 : decode cX12_restore 86 = .ok (.goto (-26), 3) := by decide +kernel
theorem dX12_restore_89 : decode cX12_restore 89 = .ok (.aload_n 0, 1) := by decide +kernel
theorem dX12_restore_90 : decode cX12_restore 90 = .ok (.iconst 0, 1) := by decide +kernel
theorem dX12_restore_91 : decode cX12_restore 91 = .ok (.putfield 307, 3) := by decide +kernel
theorem dX12_restore_94 : decode cX12_restore 94 = .ok (.iconst 1, 1) := by decide +kernel
theorem dX12_restore_95 : decode cX12_restore 95 = .ok (.ireturn, 1) := by decide +kernel
theorem dX12_count_0 : decode cX12_count 0 = .ok (.aload_n 0, 1) := by decide +kernel
theorem dX12_count_1 : decode cX12_count 1 = .ok (.iconst 0, 1) := by decide +kernel
theorem dX12_count_2 : decode cX12_count 2 = .ok (.putfield 1, 3) := by decide +kernel
theorem dX12_count_5 : decode cX12_count 5 = .ok (.iload_n 1, 1) := by decide +kernel
theorem dX12_count_6 : decode cX12_count 6 = .ok (.iconst 5, 1) := by decide +kernel
theorem dX12_count_7 : decode cX12_count 7 = .ok (.if_icmp .ne 10, 3) := by decide +kernel
theorem dX12_count_10 : decode cX12_count 10 = .ok (.aload_n 0, 1) := by decide +kernel
theorem dX12_count_11 : decode cX12_count 11 = .ok (.getfield 7, 3) := by decide +kernel
theorem dX12_count_14 : decode cX12_count 14 = .ok (.goto 22, 3) := by decide +kernel
theorem dX12_count_17 : decode cX12_count 17 = .ok (.iload_n 1, 1) := by decide +kernel
theorem dX12_count_18 : decode cX12_count 18 = .ok (.iconst 0, 1) := by decide +kernel
theorem dX12_count_19 : decode cX12_count 19 = .ok (.iconst 4, 1) := by decide +kernel
theorem dX12_count_20 : decode cX12_count 20 = .ok (.invokestatic 223, 3) := by decide +kernel
theorem dX12_count_23 : decode cX12_count 23 = .ok (.ifCond .eq 12, 3) := by decide +kernel
theorem dX12_count_26 : decode cX12_count 26 = .ok (.aload_n 0, 1) := by decide +kernel
theorem dX12_count_27 : decode cX12_count 27 = .ok (.getfield 33, 3) := by decide +kernel
theorem dX12_count_30 : decode cX12_count 30 = .ok (.iload_n 1, 1) := by decide +kernel
theorem dX12_count_31 : decode cX12_count 31 = .ok (.iaload, 1) := by decide +kernel
theorem dX12_count_32 : decode cX12_count 32 = .ok (.goto 4, 3) := by decide +kernel
theorem dX12_count_35 : decode cX12_count 35 = .ok (.iconst (-1), 1) := by decide +kernel
theorem dX12_count_36 : decode cX12_count 36 = .ok (.ireturn, 1) := by decide +kernel
