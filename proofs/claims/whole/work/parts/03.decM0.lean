theorem dX12_init_0 : decode cX12_init 0 = .ok (.aload_n 0, 1) := by decide +kernel
theorem dX12_init_1 : decode cX12_init 1 = .ok (.invokespecial 1, 3) := by decide +kernel
theorem dX12_init_4 : decode cX12_init 4 = .ok (.aload_n 0, 1) := by decide +kernel
theorem dX12_init_5 : decode cX12_init 5 = .ok (.sipush 888, 3) := by decide +kernel
theorem dX12_init_8 : decode cX12_init 8 = .ok (.newarray .int, 2) := by decide +kernel
theorem dX12_init_10 : decode cX12_init 10 = .ok (.putfield 7, 3) := by decide +kernel
theorem dX12_init_13 : decode cX12_init 13 = .ok (.aload_n 0, 1) := by decide +kernel
theorem dX12_init_14 : decode cX12_init 14 = .ok (.sipush 888, 3) := by decide +kernel
theorem dX12_init_17 : decode cX12_init 17 = .ok (.newarray .int, 2) := by decide +kernel
theorem dX12_init_19 : decode cX12_init 19 = .ok (.putfield 13, 3) := by decide +kernel
theorem dX12_init_22 : decode cX12_init 22 = .ok (.aload_n 0, 1) := by decide +kernel
theorem dX12_init_23 : decode cX12_init 23 = .ok (.sipush 488, 3) := by decide +kernel
theorem dX12_init_26 : decode cX12_init 26 = .ok (.newarray .int, 2) := by decide +kernel
theorem dX12_init_28 : decode cX12_init 28 = .ok (.putfield 16, 3) := by decide +kernel
theorem dX12_init_31 : decode cX12_init 31 = .ok (.aload_n 0, 1) := by decide +kernel
theorem dX12_init_32 : decode cX12_init 32 = .ok (.sipush 5856, 3) := by decide +kernel
theorem dX12_init_35 : decode cX12_init 35 = .ok (.newarray .int, 2) := by decide +kernel
theorem dX12_init_37 : decode cX12_init 37 = .ok (.putfield 19, 3) := by decide +kernel
theorem dX12_init_40 : decode cX12_init 40 = .ok (.aload_n 0, 1) := by decide +kernel
theorem dX12_init_41 : decode cX12_init 41 = .ok (.sipush 400, 3) := by decide +kernel
theorem dX12_init_44 : decode cX12_init 44 = .ok (.newarray .int, 2) := by decide +kernel
theorem dX12_init_46 : decode cX12_init 46 = .ok (.putfield 22, 3) := by decide +kernel
theorem dX12_init_49 : decode cX12_init 49 = .ok (.aload_n 0, 1) := by decide +kernel
theorem dX12_init_50 : decode cX12_init 50 = .ok (.iconst (-1), 1) := by decide +kernel
theorem dX12_init_51 : decode cX12_init 51 = .ok (.putfield 25, 3) := by decide +kernel
theorem dX12_init_54 : decode cX12_init 54 = .ok (.aload_n 0, 1) := by decide +kernel
theorem dX12_init_55 : decode cX12_init 55 = .ok (.bipush 7, 2) := by decide +kernel
theorem dX12_init_57 : decode cX12_init 57 = .ok (.newarray .int, 2) := by decide +kernel
theorem dX12_init_59 : decode cX12_init 59 = .ok (.putfield 29, 3) := by decide +kernel
theorem dX12_init_62 : decode cX12_init 62 = .ok (.aload_n 0, 1) := by decide +kernel
theorem dX12_init_63 : decode cX12_init 63 = .ok (.bipush 81, 2) := by decide +kernel
theorem dX12_init_65 : decode cX12_init 65 = .ok (.newarray .int, 2) := by decide +kernel
theorem dX12_init_67 : decode cX12_init 67 = .ok (.putfield 32, 3) := by decide +kernel
theorem dX12_init_70 : decode cX12_init 70 = .ok (.aload_n 0, 1) := by decide +kernel
theorem dX12_init_71 : decode cX12_init 71 = .ok (.sipush 2304, 3) := by decide +kernel
theorem dX12_init_74 : decode cX12_init 74 = .ok (.newarray .int, 2) := by decide +kernel
theorem dX12_init_76 : decode cX12_init 76 = .ok (.putfield 35, 3) := by decide +kernel
theorem dX12_init_79 : decode cX12_init 79 = .ok (.aload_n 0, 1) := by decide +kernel
theorem dX12_init_80 : decode cX12_init 80 = .ok (.bipush 64, 2) := by decide +kernel
theorem dX12_init_82 : decode cX12_init 82 = .ok (.newarray .int, 2) := by decide +kernel
theorem dX12_init_84 : decode cX12_init 84 = .ok (.putfield 38, 3) := by decide +kernel
theorem dX12_init_87 : decode cX12_init 87 = .ok (.aload_n 0, 1) := by decide +kernel
theorem dX12_init_88 : decode cX12_init 88 = .ok (.bipush 81, 2) := by decide +kernel
theorem dX12_init_90 : decode cX12_init 90 = .ok (.newarray .int, 2) := by decide +kernel
theorem dX12_init_92 : decode cX12_init 92 = .ok (.putfield 41, 3) := by decide +kernel
theorem dX12_init_95 : decode cX12_init 95 = .ok (.aload_n 0, 1) := by decide +kernel
theorem dX12_init_96 : decode cX12_init 96 = .ok (.bipush 9, 2) := by decide +kernel
theorem dX12_init_98 : decode cX12_init 98 = .ok (.newarray .int, 2) := by decide +kernel
theorem dX12_init_100 : decode cX12_init 100 = .ok (.putfield 44, 3) := by decide +kernel
theorem dX12_init_103 : decode cX12_init 103 = .ok (.aload_n 0, 1) := by decide +kernel
theorem dX12_init_104 : decode cX12_init 104 = .ok (.getfield 7, 3) := by decide +kernel
theorem dX12_init_107 : decode cX12_init 107 = .ok (.iconst 1, 1) := by decide +kernel
theorem dX12_init_108 : decode cX12_init 108 = .ok (.iconst (-1), 1) := by decide +kernel
theorem dX12_init_109 : decode cX12_init 109 = .ok (.iastore, 1) := by decide +kernel
theorem dX12_init_110 : decode cX12_init 110 = .ok (.aload_n 0, 1) := by decide +kernel
theorem dX12_init_111 : decode cX12_init 111 = .ok (.getfield 7, 3) := by decide +kernel
theorem dX12_init_114 : decode cX12_init 114 = .ok (.bipush 10, 2) := by decide +kernel
theorem dX12_init_116 : decode cX12_init 116 = .ok (.iconst 1, 1) := by decide +kernel
theorem dX12_init_117 : decode cX12_init 117 = .ok (.iastore, 1) := by decide +kernel
theorem dX12_init_118 : decode cX12_init 118 = .ok (.return_, 1) := by decide +kernel
theorem dX12_thrown_0 : decode cX12_thrown 0 = .ok (.aload_n 0, 1) := by decide +kernel
theorem dX12_thrown_1 : decode cX12_thrown 1 = .ok (.getfield 47, 3) := by decide +kernel
theorem dX12_thrown_4 : decode cX12_thrown 4 = .ok (.ireturn, 1) := by decide +kernel
theorem dX12_isIn_0 : decode cX12_isIn 0 = .ok (.iload_n 0, 1) := by decide +kernel
theorem dX12_isIn_1 : decode cX12_isIn 1 = .ok (.iload_n 1, 1) := by decide +kernel
theorem dX12_isIn_2 : decode cX12_isIn 2 = .ok (.if_icmp .lt 12, 3) := by decide +kernel
theorem dX12_isIn_5 : decode cX12_isIn 5 = .ok (.iload_n 0, 1) := by decide +kernel
theorem dX12_isIn_6 : decode cX12_isIn 6 = .ok (.iload_n 2, 1) := by decide +kernel
theorem dX12_isIn_7 : decode cX12_isIn 7 = .ok (.if_icmp .gt 7, 3) := by decide +kernel
theorem dX12_isIn_10 : decode cX12_isIn 10 = .ok (.iconst 1, 1) := by decide +kernel
theorem dX12_isIn_11 : decode cX12_isIn 11 = .ok (.goto 4, 3) := by decide +kernel
theorem dX12_isIn_14 : decode cX12_isIn 14 = .ok (.iconst 0, 1) := by decide +kernel
theorem dX12_isIn_15 : decode cX12_isIn 15 = .ok (.ireturn, 1) := by decide +kernel
theorem dX12_lesser_0 : decode cX12_lesser 0 = .ok (.iload_n 0, 1) := by decide +kernel
theorem dX12_lesser_1 : decode cX12_lesser 1 = .ok (.iload_n 1, 1) := by decide +kernel
theorem dX12_lesser_2 : decode cX12_lesser 2 = .ok (.if_icmp .ge 7, 3) := by decide +kernel
theorem dX12_lesser_5 : decode cX12_lesser 5 = .ok (.iload_n 0, 1) := by decide +kernel
theorem dX12_lesser_6 : decode cX12_lesser 6 = .ok (.goto 4, 3) := by decide +kernel
theorem dX12_lesser_9 : decode cX12_lesser 9 = .ok (.iload_n 1, 1) := by decide +kernel
theorem dX12_lesser_10 : decode cX12_lesser 10 = .ok (.ireturn, 1) := by decide +kernel
theorem dX12_greater_0 : decode cX12_greater 0 = .ok (.iload_n 0, 1) := by decide +kernel
theorem dX12_greater_1 : decode cX12_greater 1 = .ok (.iload_n 1, 1) := by decide +kernel
theorem dX12_greater_2 : decode cX12_greater 2 = .ok (.if_icmp .le 7, 3) := by decide +kernel
theorem dX12_greater_5 : decode cX12_greater 5 = .ok (.iload_n 0, 1) := by decide +kernel
theorem dX12_greater_6 : decode cX12_greater 6 = .ok (.goto 4, 3) := by decide +kernel
theorem dX12_greater_9 : decode cX12_greater 9 = .ok (.iload_n 1, 1) := by decide +kernel
theorem dX12_greater_10 : decode cX12_greater 10 = .ok (.ireturn, 1) := by decide +kernel
theorem dX12_isOf_0 : decode cX12_isOf 0 = .ok (.iload_n 0, 1) := by decide +kernel
theorem dX12_isOf_1 : decode cX12_isOf 1 = .ok (.iload_n 1, 1) := by decide +kernel
theorem dX12_isOf_2 : decode cX12_isOf 2 = .ok (.ishr, 1) := by decide +kernel
theorem dX12_isOf_3 : decode cX12_isOf 3 = .ok (.iconst 1, 1) := by decide +kernel
theorem dX12_isOf_4 : decode cX12_isOf 4 = .ok (.iand, 1) := by decide +kernel
theorem dX12_isOf_5 : decode cX12_isOf 5 = .ok (.iconst 1, 1) := by decide +kernel
theorem dX12_isOf_6 : decode cX12_isOf 6 = .ok (.if_icmp .ne 7, 3) := by decide +kernel
theorem dX12_isOf_9 : decode cX12_isOf 9 = .ok (.iconst 1, 1) := by decide +kernel
theorem dX12_isOf_10 : decode cX12_isOf 10 = .ok (.goto 4, 3) := by decide +kernel
theorem dX12_isOf_13 : decode cX12_isOf 13 = .ok (.iconst 0, 1) := by decide +kernel
theorem dX12_isOf_14 : decode cX12_isOf 14 = .ok (.ireturn, 1) := by decide +kernel
theorem dX12_bits_0 : decode cX12_bits 0 = .ok (.iconst 0, 1) := by decide +kernel
theorem dX12_bits_1 : decode cX12_bits 1 = .ok (.istore_n 1, 1) := by decide +kernel
theorem dX12_bits_2 : decode cX12_bits 2 = .ok (.iconst 0, 1) := by decide +kernel
theorem dX12_bits_3 : decode cX12_bits 3 = .ok (.istore_n 2, 1) := by decide +kernel
theorem dX12_bits_4 : decode cX12_bits 4 = .ok (.iload_n 2, 1) := by decide +kernel
theorem dX12_bits_5 : decode cX12_bits 5 = .ok (.bipush 31, 2) := by decide +kernel
theorem dX12_bits_7 : decode cX12_bits 7 = .ok (.if_icmp .ge 17, 3) := by decide +kernel
theorem dX12_bits_10 : decode cX12_bits 10 = .ok (.iload_n 1, 1) := by decide +kernel
theorem dX12_bits_11 : decode cX12_bits 11 = .ok (.iload_n 0, 1) := by decide +kernel
theorem dX12_bits_12 : decode cX12_bits 12 = .ok (.iload_n 2, 1) := by decide +kernel
theorem dX12_bits_13 : decode cX12_bits 13 = .ok (.ishr, 1) := by decide +kernel
theorem dX12_bits_14 : decode cX12_bits 14 = .ok (.iconst 1, 1) := by decide +kernel
theorem dX12_bits_15 : decode cX12_bits 15 = .ok (.iand, 1) := by decide +kernel
theorem dX12_bits_16 : decode cX12_bits 16 = .ok (.iadd, 1) := by decide +kernel
theorem dX12_bits_17 : decode cX12_bits 17 = .ok (.istore_n 1, 1) := by decide +kernel
theorem dX12_bits_18 : decode cX12_bits 18 = .ok (.iinc 2 1, 3) := by decide +kernel
theorem dX12_bits_21 : decode cX12_bits 21 = .ok (.goto (-17), 3) := by decide +kernel
theorem dX12_bits_24 : decode cX12_bits 24 = .ok (.iload_n 1, 1) := by decide +kernel
theorem dX12_bits_25 : decode cX12_bits 25 = .ok (.ireturn, 1) := by decide +kernel
theorem dX12_of_0 : decode cX12_of 0 = .ok (.aload_n 0, 1) := by decide +kernel
theorem dX12_of_1 : decode cX12_of 1 = .ok (.getfield 7, 3) := by decide +kernel
theorem dX12_of_4 : decode cX12_of 4 = .ok (.bipush 11, 2) := by decide +kernel
theorem dX12_of_6 : decode cX12_of 6 = .ok (.iconst 4, 1) := by decide +kernel
theorem dX12_of_7 : decode cX12_of 7 = .ok (.iload_n 1, 1) := by decide +kernel
theorem dX12_of_8 : decode cX12_of 8 = .ok (.imul, 1) := by decide +kernel
theorem dX12_of_9 : decode cX12_of 9 = .ok (.iadd, 1) := by decide +kernel
theorem dX12_of_10 : decode cX12_of 10 = .ok (.iload_n 2, 1) := by decide +kernel
theorem dX12_of_11 : decode cX12_of 11 = .ok (.iadd, 1) := by decide +kernel
theorem dX12_of_12 : decode cX12_of 12 = .ok (.iaload, 1) := by decide +kernel
theorem dX12_of_13 : decode cX12_of 13 = .ok (.ireturn, 1) := by decide +kernel
theorem dX12_lays_0 : decode cX12_lays 0 = .ok (.aload_n 0, 1) := by decide +kernel
theorem dX12_lays_1 : decode cX12_lays 1 = .ok (.getfield 7, 3) := by decide +kernel
theorem dX12_lays_4 : decode cX12_lays 4 = .ok (.bipush 11, 2) := by decide +kernel
theorem dX12_lays_6 : decode cX12_lays 6 = .ok (.iconst 4, 1) := by decide +kernel
theorem dX12_lays_7 : decode cX12_lays 7 = .ok (.iload_n 1, 1) := by decide +kernel
theorem dX12_lays_8 : decode cX12_lays 8 = .ok (.imul, 1) := by decide +kernel
theorem dX12_lays_9 : decode cX12_lays 9 = .ok (.iadd, 1) := by decide +kernel
theorem dX12_lays_10 : decode cX12_lays 10 = .ok (.iload_n 2, 1) := by decide +kernel
theorem dX12_lays_11 : decode cX12_lays 11 = .ok (.iadd, 1) := by decide +kernel
theorem dX12_lays_12 : decode cX12_lays 12 = .ok (.iload_n 3, 1) := by decide +kernel
theorem dX12_lays_13 : decode cX12_lays 13 = .ok (.iastore, 1) := by decide +kernel
theorem dX12_lays_14 : decode cX12_lays 14 = .ok (.return_, 1) := by decide +kernel
theorem dX12_ofWalker_0 : decode cX12_ofWalker 0 = .ok (.aload_n 0, 1) := by decide +kernel
theorem dX12_ofWalker_1 : decode cX12_ofWalker 1 = .ok (.getfield 7, 3) := by decide +kernel
theorem dX12_ofWalker_4 : decode cX12_ofWalker 4 = .ok (.sipush 128, 3) := by decide +kernel
theorem dX12_ofWalker_7 : decode cX12_ofWalker 7 = .ok (.iconst 4, 1) := by decide +kernel
theorem dX12_ofWalker_8 : decode cX12_ofWalker 8 = .ok (.iload_n 1, 1) := by decide +kernel
theorem dX12_ofWalker_9 : decode cX12_ofWalker 9 = .ok (.imul, 1) := by decide +kernel
theorem dX12_ofWalker_10 : decode cX12_ofWalker 10 = .ok (.iadd, 1) := by decide +kernel
theorem dX12_ofWalker_11 : decode cX12_ofWalker 11 = .ok (.iload_n 2, 1) := by decide +kernel
theorem dX12_ofWalker_12 : decode cX12_ofWalker 12 = .ok (.iadd, 1) := by decide +kernel
theorem dX12_ofWalker_13 : decode cX12_ofWalker 13 = .ok (.iaload, 1) := by decide +kernel
theorem dX12_ofWalker_14 : decode cX12_ofWalker 14 = .ok (.ireturn, 1) := by decide +kernel
theorem dX12_liking_0 : decode cX12_liking 0 = .ok (.aload_n 0, 1) := by decide +kernel
theorem dX12_liking_1 : decode cX12_liking 1 = .ok (.getfield 7, 3) := by decide +kernel
theorem dX12_liking_4 : decode cX12_liking 4 = .ok (.sipush 152, 3) := by decide +kernel
theorem dX12_liking_7 : decode cX12_liking 7 = .ok (.bipush 6, 2) := by decide +kernel
theorem dX12_liking_9 : decode cX12_liking 9 = .ok (.iload_n 1, 1) := by decide +kernel
theorem dX12_liking_10 : decode cX12_liking 10 = .ok (.imul, 1) := by decide +kernel
theorem dX12_liking_11 : decode cX12_liking 11 = .ok (.iadd, 1) := by decide +kernel
theorem dX12_liking_12 : decode cX12_liking 12 = .ok (.iload_n 2, 1) := by decide +kernel
theorem dX12_liking_13 : decode cX12_liking 13 = .ok (.iadd, 1) := by decide +kernel
theorem dX12_liking_14 : decode cX12_liking 14 = .ok (.iaload, 1) := by decide +kernel
theorem dX12_liking_15 : decode cX12_liking 15 = .ok (.ireturn, 1) := by decide +kernel
theorem dX12_isWay_0 : decode cX12_isWay 0 = .ok (.aload_n 0, 1) := by decide +kernel
theorem dX12_isWay_1 : decode cX12_isWay 1 = .ok (.getfield 7, 3) := by decide +kernel
theorem dX12_isWay_4 : decode cX12_isWay 4 = .ok (.bipush 47, 2) := by decide +kernel
theorem dX12_isWay_6 : decode cX12_isWay 6 = .ok (.bipush 9, 2) := by decide +kernel
theorem dX12_isWay_8 : decode cX12_isWay 8 = .ok (.iload_n 1, 1) := by decide +kernel
theorem dX12_isWay_9 : decode cX12_isWay 9 = .ok (.imul, 1) := by decide +kernel
theorem dX12_isWay_10 : decode cX12_isWay 10 = .ok (.iadd, 1) := by decide +kernel
theorem dX12_isWay_11 : decode cX12_isWay 11 = .ok (.iload_n 2, 1) := by decide +kernel
theorem dX12_isWay_12 : decode cX12_isWay 12 = .ok (.iadd, 1) := by decide +kernel
theorem dX12_isWay_13 : decode cX12_isWay 13 = .ok (.iaload, 1) := by decide +kernel
theorem dX12_isWay_14 : decode cX12_isWay 14 = .ok (.iconst 1, 1) := by decide +kernel
theorem dX12_isWay_15 : decode cX12_isWay 15 = .ok (.if_icmp .ne 7, 3) := by decide +kernel
theorem dX12_isWay_18 : decode cX12_isWay 18 = .ok (.iconst 1, 1) := by decide +kernel
theorem dX12_isWay_19 : decode cX12_isWay 19 = .ok (.goto 4, 3) := by decide +kernel
theorem dX12_isWay_22 : decode cX12_isWay 22 = .ok (.iconst 0, 1) := by decide +kernel
theorem dX12_isWay_23 : decode cX12_isWay 23 = .ok (.ireturn, 1) := by decide +kernel
theorem dX12_ways_0 : decode cX12_ways 0 = .ok (.aload_n 0, 1) := by decide +kernel
theorem dX12_ways_1 : decode cX12_ways 1 = .ok (.getfield 7, 3) := by decide +kernel
theorem dX12_ways_4 : decode cX12_ways 4 = .ok (.bipush 47, 2) := by decide +kernel
theorem dX12_ways_6 : decode cX12_ways 6 = .ok (.bipush 9, 2) := by decide +kernel
theorem dX12_ways_8 : decode cX12_ways 8 = .ok (.iload_n 1, 1) := by decide +kernel
theorem dX12_ways_9 : decode cX12_ways 9 = .ok (.imul, 1) := by decide +kernel
theorem dX12_ways_10 : decode cX12_ways 10 = .ok (.iadd, 1) := by decide +kernel
theorem dX12_ways_11 : decode cX12_ways 11 = .ok (.iload_n 2, 1) := by decide +kernel
theorem dX12_ways_12 : decode cX12_ways 12 = .ok (.iadd, 1) := by decide +kernel
theorem dX12_ways_13 : decode cX12_ways 13 = .ok (.iload_n 3, 1) := by decide +kernel
theorem dX12_ways_14 : decode cX12_ways 14 = .ok (.iastore, 1) := by decide +kernel
theorem dX12_ways_15 : decode cX12_ways 15 = .ok (.aload_n 0, 1) := by decide +kernel
theorem dX12_ways_16 : decode cX12_ways 16 = .ok (.getfield 7, 3) := by decide +kernel
theorem dX12_ways_19 : decode cX12_ways 19 = .ok (.bipush 47, 2) := by decide +kernel
theorem dX12_ways_21 : decode cX12_ways 21 = .ok (.bipush 9, 2) := by decide +kernel
theorem dX12_ways_23 : decode cX12_ways 23 = .ok (.iload_n 2, 1) := by decide +kernel
theorem dX12_ways_24 : decode cX12_ways 24 = .ok (.imul, 1) := by decide +kernel
theorem dX12_ways_25 : decode cX12_ways 25 = .ok (.iadd, 1) := by decide +kernel
theorem dX12_ways_26 : decode cX12_ways 26 = .ok (.iload_n 1, 1) := by decide +kernel
theorem dX12_ways_27 : decode cX12_ways 27 = .ok (.iadd, 1) := by decide +kernel
theorem dX12_ways_28 : decode cX12_ways 28 = .ok (.iload_n 3, 1) := by decide +kernel
theorem dX12_ways_29 : decode cX12_ways 29 = .ok (.iastore, 1) := by decide +kernel
theorem dX12_ways_30 : decode cX12_ways 30 = .ok (.return_, 1) := by decide +kernel
theorem dX12_isPane_0 : decode cX12_isPane 0 = .ok (.iload_n 1, 1) := by decide +kernel
theorem dX12_isPane_1 : decode cX12_isPane 1 = .ok (.iconst 0, 1) := by decide +kernel
theorem dX12_isPane_2 : decode cX12_isPane 2 = .ok (.aload_n 0, 1) := by decide +kernel
theorem dX12_isPane_3 : decode cX12_isPane 3 = .ok (.getfield 7, 3) := by decide +kernel
theorem dX12_isPane_6 : decode cX12_isPane 6 = .ok (.iconst 3, 1) := by decide +kernel
theorem dX12_isPane_7 : decode cX12_isPane 7 = .ok (.iaload, 1) := by decide +kernel
theorem dX12_isPane_8 : decode cX12_isPane 8 = .ok (.iconst 1, 1) := by decide +kernel
theorem dX12_isPane_9 : decode cX12_isPane 9 = .ok (.isub, 1) := by decide +kernel
theorem dX12_isPane_10 : decode cX12_isPane 10 = .ok (.invokestatic 50, 3) := by decide +kernel
theorem dX12_isPane_13 : decode cX12_isPane 13 = .ok (.ireturn, 1) := by decide +kernel
theorem dX12_isWalker_0 : decode cX12_isWalker 0 = .ok (.iload_n 1, 1) := by decide +kernel
theorem dX12_isWalker_1 : decode cX12_isWalker 1 = .ok (.iconst 0, 1) := by decide +kernel
theorem dX12_isWalker_2 : decode cX12_isWalker 2 = .ok (.aload_n 0, 1) := by decide +kernel
theorem dX12_isWalker_3 : decode cX12_isWalker 3 = .ok (.getfield 7, 3) := by decide +kernel
theorem dX12_isWalker_6 : decode cX12_isWalker 6 = .ok (.iconst 4, 1) := by decide +kernel
theorem dX12_isWalker_7 : decode cX12_isWalker 7 = .ok (.iaload, 1) := by decide +kernel
theorem dX12_isWalker_8 : decode cX12_isWalker 8 = .ok (.iconst 1, 1) := by decide +kernel
theorem dX12_isWalker_9 : decode cX12_isWalker 9 = .ok (.isub, 1) := by decide +kernel
theorem dX12_isWalker_10 : decode cX12_isWalker 10 = .ok (.invokestatic 50, 3) := by decide +kernel
theorem dX12_isWalker_13 : decode cX12_isWalker 13 = .ok (.ireturn, 1) := by decide +kernel
theorem dX12_allPanes_0 : decode cX12_allPanes 0 = .ok (.iconst 1, 1) := by decide +kernel
theorem dX12_allPanes_1 : decode cX12_allPanes 1 = .ok (.aload_n 0, 1) := by decide +kernel
theorem dX12_allPanes_2 : decode cX12_allPanes 2 = .ok (.getfield 7, 3) := by decide +kernel
theorem dX12_allPanes_5 : decode cX12_allPanes 5 = .ok (.iconst 3, 1) := by decide +kernel
theorem dX12_allPanes_6 : decode cX12_allPanes 6 = .ok (.iaload, 1) := by decide +kernel
theorem dX12_allPanes_7 : decode cX12_allPanes 7 = .ok (.ishl, 1) := by decide +kernel
theorem dX12_allPanes_8 : decode cX12_allPanes 8 = .ok (.iconst 1, 1) := by decide +kernel
theorem dX12_allPanes_9 : decode cX12_allPanes 9 = .ok (.isub, 1) := by decide +kernel
theorem dX12_allPanes_10 : decode cX12_allPanes 10 = .ok (.ireturn, 1) := by decide +kernel
theorem dX12_nextTo_0 : decode cX12_nextTo 0 = .ok (.iconst 0, 1) := by decide +kernel
theorem dX12_nextTo_1 : decode cX12_nextTo 1 = .ok (.istore_n 2, 1) := by decide +kernel
theorem dX12_nextTo_2 : decode cX12_nextTo 2 = .ok (.iconst 0, 1) := by decide +kernel
theorem dX12_nextTo_3 : decode cX12_nextTo 3 = .ok (.istore_n 3, 1) := by decide +kernel
theorem dX12_nextTo_4 : decode cX12_nextTo 4 = .ok (.iload_n 3, 1) := by decide +kernel
theorem dX12_nextTo_5 : decode cX12_nextTo 5 = .ok (.aload_n 0, 1) := by decide +kernel
theorem dX12_nextTo_6 : decode cX12_nextTo 6 = .ok (.getfield 7, 3) := by decide +kernel
theorem dX12_nextTo_9 : decode cX12_nextTo 9 = .ok (.iconst 3, 1) := by decide +kernel
theorem dX12_nextTo_10 : decode cX12_nextTo 10 = .ok (.iaload, 1) := by decide +kernel
theorem dX12_nextTo_11 : decode cX12_nextTo 11 = .ok (.if_icmp .ge 54, 3) := by decide +kernel
theorem dX12_nextTo_14 : decode cX12_nextTo 14 = .ok (.iconst 0, 1) := by decide +kernel
theorem dX12_nextTo_15 : decode cX12_nextTo 15 = .ok (.istore 4, 2) := by decide +kernel
theorem dX12_nextTo_17 : decode cX12_nextTo 17 = .ok (.iload 4, 2) := by decide +kernel
theorem dX12_nextTo_19 : decode cX12_nextTo 19 = .ok (.aload_n 0, 1) := by decide +kernel
theorem dX12_nextTo_20 : decode cX12_nextTo 20 = .ok (.getfield 7, 3) := by decide +kernel
theorem dX12_nextTo_23 : decode cX12_nextTo 23 = .ok (.iconst 3, 1) := by decide +kernel
theorem dX12_nextTo_24 : decode cX12_nextTo 24 = .ok (.iaload, 1) := by decide +kernel
theorem dX12_nextTo_25 : decode cX12_nextTo 25 = .ok (.if_icmp .ge 34, 3) := by decide +kernel
theorem dX12_nextTo_28 : decode cX12_nextTo 28 = .ok (.iload_n 1, 1) := by decide +kernel
theorem dX12_nextTo_29 : decode cX12_nextTo 29 = .ok (.iload_n 3, 1) := by decide +kernel
theorem dX12_nextTo_30 : decode cX12_nextTo 30 = .ok (.invokestatic 54, 3) := by decide +kernel
theorem dX12_nextTo_33 : decode cX12_nextTo 33 = .ok (.ifCond .eq 20, 3) := by decide +kernel
theorem dX12_nextTo_36 : decode cX12_nextTo 36 = .ok (.aload_n 0, 1) := by decide +kernel
theorem dX12_nextTo_37 : decode cX12_nextTo 37 = .ok (.iload_n 3, 1) := by decide +kernel
theorem dX12_nextTo_38 : decode cX12_nextTo 38 = .ok (.iload 4, 2) := by decide +kernel
theorem dX12_nextTo_40 : decode cX12_nextTo 40 = .ok (.invokevirtual 58, 3) := by decide +kernel
theorem dX12_nextTo_43 : decode cX12_nextTo 43 = .ok (.ifCond .eq 10, 3) := by decide +kernel
theorem dX12_nextTo_46 : decode cX12_nextTo 46 = .ok (.iload_n 2, 1) := by decide +kernel
theorem dX12_nextTo_47 : decode cX12_nextTo 47 = .ok (.iconst 1, 1) := by decide +kernel
theorem dX12_nextTo_48 : decode cX12_nextTo 48 = .ok (.iload 4, 2) := by decide +kernel
theorem dX12_nextTo_50 : decode cX12_nextTo 50 = .ok (.ishl, 1) := by decide +kernel
theorem dX12_nextTo_51 : decode cX12_nextTo 51 = .ok (.ior, 1) := by decide +kernel
theorem dX12_nextTo_52 : decode cX12_nextTo 52 = .ok (.istore_n 2, 1) := by decide +kernel
theorem dX12_nextTo_53 : decode cX12_nextTo 53 = .ok (.iinc 4 1, 3) := by decide +kernel
theorem dX12_nextTo_56 : decode cX12_nextTo 56 = .ok (.goto (-39), 3) := by decide +kernel
theorem dX12_nextTo_59 : decode cX12_nextTo 59 = .ok (.iinc 3 1, 3) := by decide +kernel
theorem dX12_nextTo_62 : decode cX12_nextTo 62 = .ok (.goto (-58), 3) := by decide +kernel
theorem dX12_nextTo_65 : decode cX12_nextTo 65 = .ok (.iload_n 2, 1) := by decide +kernel
theorem dX12_nextTo_66 : decode cX12_nextTo 66 = .ok (.ireturn, 1) := by decide +kernel
theorem dX12_farOf_0 : decode cX12_farOf 0 = .ok (.iconst 1, 1) := by decide +kernel
theorem dX12_farOf_1 : decode cX12_farOf 1 = .ok (.iload_n 1, 1) := by decide +kernel
theorem dX12_farOf_2 : decode cX12_farOf 2 = .ok (.ishl, 1) := by decide +kernel
theorem dX12_farOf_3 : decode cX12_farOf 3 = .ok (.istore_n 3, 1) := by decide +kernel
theorem dX12_farOf_4 : decode cX12_farOf 4 = .ok (.iconst 0, 1) := by decide +kernel
theorem dX12_farOf_5 : decode cX12_farOf 5 = .ok (.istore 4, 2) := by decide +kernel
theorem dX12_farOf_7 : decode cX12_farOf 7 = .ok (.iload 4, 2) := by decide +kernel
theorem dX12_farOf_9 : decode cX12_farOf 9 = .ok (.bipush 9, 2) := by decide +kernel
theorem dX12_farOf_11 : decode cX12_farOf 11 = .ok (.if_icmp .ge 28, 3) := by decide +kernel
theorem dX12_farOf_14 : decode cX12_farOf 14 = .ok (.iload_n 3, 1) := by decide +kernel
theorem dX12_farOf_15 : decode cX12_farOf 15 = .ok (.iload_n 2, 1) := by decide +kernel
theorem dX12_farOf_16 : decode cX12_farOf 16 = .ok (.invokestatic 54, 3) := by decide +kernel
theorem dX12_farOf_19 : decode cX12_farOf 19 = .ok (.ifCond .eq 6, 3) := by decide +kernel
theorem dX12_farOf_22 : decode cX12_farOf 22 = .ok (.iload 4, 2) := by decide +kernel
theorem dX12_farOf_24 : decode cX12_farOf 24 = .ok (.ireturn, 1) := by decide +kernel
theorem dX12_farOf_25 : decode cX12_farOf 25 = .ok (.iload_n 3, 1) := by decide +kernel
theorem dX12_farOf_26 : decode cX12_farOf 26 = .ok (.aload_n 0, 1) := by decide +kernel
theorem dX12_farOf_27 : decode cX12_farOf 27 = .ok (.iload_n 3, 1) := by decide +kernel
theorem dX12_farOf_28 : decode cX12_farOf 28 = .ok (.invokevirtual 61, 3) := by decide +kernel
theorem dX12_farOf_31 : decode cX12_farOf 31 = .ok (.ior, 1) := by decide +kernel
theorem dX12_farOf_32 : decode cX12_farOf 32 = .ok (.istore_n 3, 1) := by decide +kernel
theorem dX12_farOf_33 : decode cX12_farOf 33 = .ok (.iinc 4 1, 3) := by decide +kernel
theorem dX12_farOf_36 : decode cX12_farOf 36 = .ok (.goto (-29), 3) := by decide +kernel
theorem dX12_farOf_39 : decode cX12_farOf 39 = .ok (.iconst (-1), 1) := by decide +kernel
theorem dX12_farOf_40 : decode cX12_farOf 40 = .ok (.ireturn, 1) := by decide +kernel
theorem dX12_feed_0 : decode cX12_feed 0 = .ok (.aload_n 0, 1) := by decide +kernel
theorem dX12_feed_1 : decode cX12_feed 1 = .ok (.iconst 0, 1) := by decide +kernel
theorem dX12_feed_2 : decode cX12_feed 2 = .ok (.putfield 47, 3) := by decide +kernel
theorem dX12_feed_5 : decode cX12_feed 5 = .ok (.aload_n 0, 1) := by decide +kernel
theorem dX12_feed_6 : decode cX12_feed 6 = .ok (.getfield 65, 3) := by decide +kernel
theorem dX12_feed_9 : decode cX12_feed 9 = .ok (.bipush 20, 2) := by decide +kernel
theorem dX12_feed_11 : decode cX12_feed 11 = .ok (.iadd, 1) := by decide +kernel
theorem dX12_feed_12 : decode cX12_feed 12 = .ok (.sipush 400, 3) := by decide +kernel
theorem dX12_feed_15 : decode cX12_feed 15 = .ok (.if_icmp .le 5, 3) := by decide +kernel
theorem dX12_feed_18 : decode cX12_feed 18 = .ok (.iconst (-1), 1) := by decide +kernel
theorem dX12_feed_19 : decode cX12_feed 19 = .ok (.ireturn, 1) := by decide +kernel
theorem dX12_feed_20 : decode cX12_feed 20 = .ok (.iconst 0, 1) := by decide +kernel
theorem dX12_feed_21 : decode cX12_feed 21 = .ok (.istore 6, 2) := by decide +kernel
theorem dX12_feed_23 : decode cX12_feed 23 = .ok (.iload 6, 2) := by decide +kernel
theorem dX12_feed_25 : decode cX12_feed 25 = .ok (.bipush 20, 2) := by decide +kernel
theorem dX12_feed_27 : decode cX12_feed 27 = .ok (.if_icmp .ge 93, 3) := by decide +kernel
theorem dX12_feed_30 : decode cX12_feed 30 = .ok (.iload 6, 2) := by decide +kernel
theorem dX12_feed_32 : decode cX12_feed 32 = .ok (.iconst 4, 1) := by decide +kernel
theorem dX12_feed_33 : decode cX12_feed 33 = .ok (.if_icmp .ge 7, 3) := by decide +kernel
theorem dX12_feed_36 : decode cX12_feed 36 = .ok (.iload_n 1, 1) := by decide +kernel
theorem dX12_feed_37 : decode cX12_feed 37 = .ok (.goto 39, 3) := by decide +kernel
theorem dX12_feed_40 : decode cX12_feed 40 = .ok (.iload 6, 2) := by decide +kernel
theorem dX12_feed_42 : decode cX12_feed 42 = .ok (.bipush 8, 2) := by decide +kernel
theorem dX12_feed_44 : decode cX12_feed 44 = .ok (.if_icmp .ge 7, 3) := by decide +kernel
theorem dX12_feed_47 : decode cX12_feed 47 = .ok (.iload_n 2, 1) := by decide +kernel
theorem dX12_feed_48 : decode cX12_feed 48 = .ok (.goto 28, 3) := by decide +kernel
theorem dX12_feed_51 : decode cX12_feed 51 = .ok (.iload 6, 2) := by decide +kernel
theorem dX12_feed_53 : decode cX12_feed 53 = .ok (.bipush 12, 2) := by decide +kernel
theorem dX12_feed_55 : decode cX12_feed 55 = .ok (.if_icmp .ge 7, 3) := by decide +kernel
theorem dX12_feed_58 : decode cX12_feed 58 = .ok (.iload_n 3, 1) := by decide +kernel
theorem dX12_feed_59 : decode cX12_feed 59 = .ok (.goto 17, 3) := by decide +kernel
theorem dX12_feed_62 : decode cX12_feed 62 = .ok (.iload 6, 2) := by decide +kernel
theorem dX12_feed_64 : decode cX12_feed 64 = .ok (.bipush 16, 2) := by decide +kernel
theorem dX12_feed_66 : decode cX12_feed 66 = .ok (.if_icmp .ge 8, 3) := by decide +kernel
theorem dX12_feed_69 : decode cX12_feed 69 = .ok (.iload 4, 2) := by decide +kernel
theorem dX12_feed_71 : decode cX12_feed 71 = .ok (.goto 5, 3) := by decide +kernel
theorem dX12_feed_74 : decode cX12_feed 74 = .ok (.iload 5, 2) := by decide +kernel
theorem dX12_feed_76 : decode cX12_feed 76 = .ok (.istore 7, 2) := by decide +kernel
theorem dX12_feed_78 : decode cX12_feed 78 = .ok (.aload_n 0, 1) := by decide +kernel
theorem dX12_feed_79 : decode cX12_feed 79 = .ok (.getfield 22, 3) := by decide +kernel
theorem dX12_feed_82 : decode cX12_feed 82 = .ok (.aload_n 0, 1) := by decide +kernel
theorem dX12_feed_83 : decode cX12_feed 83 = .ok (.getfield 65, 3) := by decide +kernel
theorem dX12_feed_86 : decode cX12_feed 86 = .ok (.iload 7, 2) := by decide +kernel
theorem dX12_feed_88 : decode cX12_feed 88 = .ok (.bipush 24, 2) := by decide +kernel
theorem dX12_feed_90 : decode cX12_feed 90 = .ok (.bipush 8, 2) := by decide +kernel
theorem dX12_feed_92 : decode cX12_feed 92 = .ok (.iload 6, 2) := by decide +kernel
theorem dX12_feed_94 : decode cX12_feed 94 = .ok (.iconst 4, 1) := by decide +kernel
theorem dX12_feed_95 : decode cX12_feed 95 = .ok (.irem, 1) := by decide +kernel
theorem dX12_feed_96 : decode cX12_feed 96 = .ok (.imul, 1) := by decide +kernel
theorem dX12_feed_97 : decode cX12_feed 97 = .ok (.isub, 1) := by decide +kernel
theorem dX12_feed_98 : decode cX12_feed 98 = .ok (.iushr, 1) := by decide +kernel
theorem dX12_feed_99 : decode cX12_feed 99 = .ok (.sipush 255, 3) := by decide +kernel
theorem dX12_feed_102 : decode cX12_feed 102 = .ok (.iand, 1) := by decide +kernel
theorem dX12_feed_103 : decode cX12_feed 103 = .ok (.iastore, 1) := by decide +kernel
theorem dX12_feed_104 : decode cX12_feed 104 = .ok (.aload_n 0, 1) := by decide +kernel
theorem dX12_feed_105 : decode cX12_feed 105 = .ok (.dup, 1) := by decide +kernel
theorem dX12_feed_106 : decode cX12_feed 106 = .ok (.getfield 65, 3) := by decide +kernel
theorem dX12_feed_109 : decode cX12_feed 109 = .ok (.iconst 1, 1) := by decide +kernel
theorem dX12_feed_110 : decode cX12_feed 110 = .ok (.iadd, 1) := by decide +kernel
theorem dX12_feed_111 : decode cX12_feed 111 = .ok (.putfield 65, 3) := by decide +kernel
theorem dX12_feed_114 : decode cX12_feed 114 = .ok (.iinc 6 1, 3) := by decide +kernel
theorem dX12_feed_117 : decode cX12_feed 117 = .ok (.goto (-94), 3) := by decide +kernel
theorem dX12_feed_120 : decode cX12_feed 120 = .ok (.aload_n 0, 1) := by decide +kernel
theorem dX12_feed_121 : decode cX12_feed 121 = .ok (.getfield 65, 3) := by decide +kernel
theorem dX12_feed_124 : decode cX12_feed 124 = .ok (.ireturn, 1) := by decide +kernel
theorem dX12_end_0 : decode cX12_end 0 = .ok (.aload_n 0, 1) := by decide +kernel
theorem dX12_end_1 : decode cX12_end 1 = .ok (.iconst 0, 1) := by decide +kernel
theorem dX12_end_2 : decode cX12_end 2 = .ok (.putfield 47, 3) := by decide +kernel
theorem dX12_end_5 : decode cX12_end 5 = .ok (.iload_n 1, 1) := by decide +kernel
theorem dX12_end_6 : decode cX12_end 6 = .ok (.iconst 0, 1) := by decide +kernel
theorem dX12_end_7 : decode cX12_end 7 = .ok (.aload_n 0, 1) := by decide +kernel
theorem dX12_end_8 : decode cX12_end 8 = .ok (.getfield 65, 3) := by decide +kernel
theorem dX12_end_11 : decode cX12_end 11 = .ok (.invokestatic 50, 3) := by decide +kernel
theorem dX12_end_14 : decode cX12_end 14 = .ok (.ifCond .ne 5, 3) := by decide +kernel
theorem dX12_end_17 : decode cX12_end 17 = .ok (.iconst 0, 1) := by decide +kernel
theorem dX12_end_18 : decode cX12_end 18 = .ok (.ireturn, 1) := by decide +kernel
theorem dX12_end_19 : decode cX12_end 19 = .ok (.aload_n 0, 1) := by decide +kernel
theorem dX12_end_20 : decode cX12_end 20 = .ok (.iload_n 1, 1) := by decide +kernel
theorem dX12_end_21 : decode cX12_end 21 = .ok (.putfield 65, 3) := by decide +kernel
theorem dX12_end_24 : decode cX12_end 24 = .ok (.iconst 1, 1) := by decide +kernel
theorem dX12_end_25 : decode cX12_end 25 = .ok (.ireturn, 1) := by decide +kernel
theorem dX12_letter_0 : decode cX12_letter 0 = .ok (.aload_n 0, 1) := by decide +kernel
theorem dX12_letter_1 : decode cX12_letter 1 = .ok (.getfield 68, 3) := by decide +kernel
theorem dX12_letter_4 : decode cX12_letter 4 = .ok (.iconst (-1), 1) := by decide +kernel
theorem dX12_letter_5 : decode cX12_letter 5 = .ok (.if_icmp .ne 12, 3) := by decide +kernel
theorem dX12_letter_8 : decode cX12_letter 8 = .ok (.aload_n 0, 1) := by decide +kernel
theorem dX12_letter_9 : decode cX12_letter 9 = .ok (.getfield 22, 3) := by decide +kernel
theorem dX12_letter_12 : decode cX12_letter 12 = .ok (.iload_n 1, 1) := by decide +kernel
theorem dX12_letter_13 : decode cX12_letter 13 = .ok (.iaload, 1) := by decide +kernel
theorem dX12_letter_14 : decode cX12_letter 14 = .ok (.goto 14, 3) := by decide +kernel
theorem dX12_letter_17 : decode cX12_letter 17 = .ok (.aload_n 0, 1) := by decide +kernel
theorem dX12_letter_18 : decode cX12_letter 18 = .ok (.getfield 7, 3) := by decide +kernel
theorem dX12_letter_21 : decode cX12_letter 21 = .ok (.aload_n 0, 1) := by decide +kernel
theorem dX12_letter_22 : decode cX12_letter 22 = .ok (.getfield 68, 3) := by decide +kernel
theorem dX12_letter_25 : decode cX12_letter 25 = .ok (.iload_n 1, 1) := by decide +kernel
theorem dX12_letter_26 : decode cX12_letter 26 = .ok (.iadd, 1) := by decide +kernel
theorem dX12_letter_27 : decode cX12_letter 27 = .ok (.iaload, 1) := by decide +kernel
theorem dX12_letter_28 : decode cX12_letter 28 = .ok (.ireturn, 1) := by decide +kernel
theorem dX12_skip_0 : decode cX12_skip 0 = .ok (.aload_n 0, 1) := by decide +kernel
theorem dX12_skip_1 : decode cX12_skip 1 = .ok (.getfield 71, 3) := by decide +kernel
theorem dX12_skip_4 : decode cX12_skip 4 = .ok (.aload_n 0, 1) := by decide +kernel
theorem dX12_skip_5 : decode cX12_skip 5 = .ok (.getfield 74, 3) := by decide +kernel
theorem dX12_skip_8 : decode cX12_skip 8 = .ok (.if_icmp .ge 29, 3) := by decide +kernel
theorem dX12_skip_11 : decode cX12_skip 11 = .ok (.aload_n 0, 1) := by decide +kernel
theorem dX12_skip_12 : decode cX12_skip 12 = .ok (.aload_n 0, 1) := by decide +kernel
theorem dX12_skip_13 : decode cX12_skip 13 = .ok (.getfield 71, 3) := by decide +kernel
theorem dX12_skip_16 : decode cX12_skip 16 = .ok (.invokevirtual 77, 3) := by decide +kernel
theorem dX12_skip_19 : decode cX12_skip 19 = .ok (.bipush 32, 2) := by decide +kernel
theorem dX12_skip_21 : decode cX12_skip 21 = .ok (.if_icmp .ne 16, 3) := by decide +kernel
theorem dX12_skip_24 : decode cX12_skip 24 = .ok (.aload_n 0, 1) := by decide +kernel
theorem dX12_skip_25 : decode cX12_skip 25 = .ok (.dup, 1) := by decide +kernel
theorem dX12_skip_26 : decode cX12_skip 26 = .ok (.getfield 71, 3) := by decide +kernel
theorem dX12_skip_29 : decode cX12_skip 29 = .ok (.iconst 1, 1) := by decide +kernel
theorem dX12_skip_30 : decode cX12_skip 30 = .ok (.iadd, 1) := by decide +kernel
theorem dX12_skip_31 : decode cX12_skip 31 = .ok (.putfield 71, 3) := by decide +kernel
theorem dX12_skip_34 : decode cX12_skip 34 = .ok (.goto (-34), 3) := by decide +kernel
theorem dX12_skip_37 : decode cX12_skip 37 = .ok (.return_, 1) := by decide +kernel
theorem dX12_isSign_0 : decode cX12_isSign 0 = .ok (.aload_n 0, 1) := by decide +kernel
theorem dX12_isSign_1 : decode cX12_isSign 1 = .ok (.invokevirtual 80, 3) := by decide +kernel
theorem dX12_isSign_4 : decode cX12_isSign 4 = .ok (.aload_n 0, 1) := by decide +kernel
theorem dX12_isSign_5 : decode cX12_isSign 5 = .ok (.getfield 71, 3) := by decide +kernel
theorem dX12_isSign_8 : decode cX12_isSign 8 = .ok (.aload_n 0, 1) := by decide +kernel
theorem dX12_isSign_9 : decode cX12_isSign 9 = .ok (.getfield 74, 3) := by decide +kernel
theorem dX12_isSign_12 : decode cX12_isSign 12 = .ok (.if_icmp .ge 19, 3) := by decide +kernel
theorem dX12_isSign_15 : decode cX12_isSign 15 = .ok (.aload_n 0, 1) := by decide +kernel
theorem dX12_isSign_16 : decode cX12_isSign 16 = .ok (.aload_n 0, 1) := by decide +kernel
theorem dX12_isSign_17 : decode cX12_isSign 17 = .ok (.getfield 71, 3) := by decide +kernel
theorem dX12_isSign_20 : decode cX12_isSign 20 = .ok (.invokevirtual 77, 3) := by decide +kernel
theorem dX12_isSign_23 : decode cX12_isSign 23 = .ok (.iload_n 1, 1) := by decide +kernel
theorem dX12_isSign_24 : decode cX12_isSign 24 = .ok (.if_icmp .ne 7, 3) := by decide +kernel
theorem dX12_isSign_27 : decode cX12_isSign 27 = .ok (.iconst 1, 1) := by decide +kernel
theorem dX12_isSign_28 : decode cX12_isSign 28 = .ok (.goto 4, 3) := by decide +kernel
theorem dX12_isSign_31 : decode cX12_isSign 31 = .ok (.iconst 0, 1) := by decide +kernel
theorem dX12_isSign_32 : decode cX12_isSign 32 = .ok (.ireturn, 1) := by decide +kernel
theorem dX12_has_0 : decode cX12_has 0 = .ok (.aload_n 0, 1) := by decide +kernel
theorem dX12_has_1 : decode cX12_has 1 = .ok (.invokevirtual 80, 3) := by decide +kernel
theorem dX12_has_4 : decode cX12_has 4 = .ok (.aload_n 0, 1) := by decide +kernel
theorem dX12_has_5 : decode cX12_has 5 = .ok (.getfield 71, 3) := by decide +kernel
theorem dX12_has_8 : decode cX12_has 8 = .ok (.istore_n 2, 1) := by decide +kernel
theorem dX12_has_9 : decode cX12_has 9 = .ok (.iload_n 2, 1) := by decide +kernel
theorem dX12_has_10 : decode cX12_has 10 = .ok (.aload_n 0, 1) := by decide +kernel
theorem dX12_has_11 : decode cX12_has 11 = .ok (.getfield 74, 3) := by decide +kernel
theorem dX12_has_14 : decode cX12_has 14 = .ok (.if_icmp .ge 24, 3) := by decide +kernel
theorem dX12_has_17 : decode cX12_has 17 = .ok (.aload_n 0, 1) := by decide +kernel
theorem dX12_has_18 : decode cX12_has 18 = .ok (.iload_n 2, 1) := by decide +kernel
theorem dX12_has_19 : decode cX12_has 19 = .ok (.invokevirtual 77, 3) := by decide +kernel
theorem dX12_has_22 : decode cX12_has 22 = .ok (.bipush 97, 2) := by decide +kernel
theorem dX12_has_24 : decode cX12_has 24 = .ok (.bipush 122, 2) := by decide +kernel
theorem dX12_has_26 : decode cX12_has 26 = .ok (.invokestatic 50, 3) := by decide +kernel
theorem dX12_has_29 : decode cX12_has 29 = .ok (.ifCond .eq 9, 3) := by decide +kernel
theorem dX12_has_32 : decode cX12_has 32 = .ok (.iinc 2 1, 3) := by decide +kernel
theorem dX12_has_35 : decode cX12_has 35 = .ok (.goto (-26), 3) := by decide +kernel
theorem dX12_has_38 : decode cX12_has 38 = .ok (.iload_n 2, 1) := by decide +kernel
theorem dX12_has_39 : decode cX12_has 39 = .ok (.aload_n 0, 1) := by decide +kernel
theorem dX12_has_40 : decode cX12_has 40 = .ok (.getfield 71, 3) := by decide +kernel
theorem dX12_has_43 : decode cX12_has 43 = .ok (.isub, 1) := by decide +kernel
theorem dX12_has_44 : decode cX12_has 44 = .ok (.aload_n 1, 1) := by decide +kernel
theorem dX12_has_45 : decode cX12_has 45 = .ok (.invokevirtual 83, 3) := by decide +kernel
theorem dX12_has_48 : decode cX12_has 48 = .ok (.if_icmp .eq 5, 3) := by decide +kernel
theorem dX12_has_51 : decode cX12_has 51 = .ok (.iconst 0, 1) := by decide +kernel
theorem dX12_has_52 : decode cX12_has 52 = .ok (.ireturn, 1) := by decide +kernel
theorem dX12_has_53 : decode cX12_has 53 = .ok (.iconst 0, 1) := by decide +kernel
theorem dX12_has_54 : decode cX12_has 54 = .ok (.istore_n 3, 1) := by decide +kernel
theorem dX12_has_55 : decode cX12_has 55 = .ok (.iload_n 3, 1) := by decide +kernel
theorem dX12_has_56 : decode cX12_has 56 = .ok (.aload_n 1, 1) := by decide +kernel
theorem dX12_has_57 : decode cX12_has 57 = .ok (.invokevirtual 83, 3) := by decide +kernel
theorem dX12_has_60 : decode cX12_has 60 = .ok (.if_icmp .ge 29, 3) := by decide +kernel
theorem dX12_has_63 : decode cX12_has 63 = .ok (.aload_n 0, 1) := by decide +kernel
theorem dX12_has_64 : decode cX12_has 64 = .ok (.aload_n 0, 1) := by decide +kernel
theorem dX12_has_65 : decode cX12_has 65 = .ok (.getfield 71, 3) := by decide +kernel
theorem dX12_has_68 : decode cX12_has 68 = .ok (.iload_n 3, 1) := by decide +kernel
theorem dX12_has_69 : decode cX12_has 69 = .ok (.iadd, 1) := by decide +kernel
theorem dX12_has_70 : decode cX12_has 70 = .ok (.invokevirtual 77, 3) := by decide +kernel
theorem dX12_has_73 : decode cX12_has 73 = .ok (.aload_n 1, 1) := by decide +kernel
theorem dX12_has_74 : decode cX12_has 74 = .ok (.iload_n 3, 1) := by decide +kernel
theorem dX12_has_75 : decode cX12_has 75 = .ok (.invokevirtual 89, 3) := by decide +kernel
theorem dX12_has_78 : decode cX12_has 78 = .ok (.if_icmp .eq 5, 3) := by decide +kernel
theorem dX12_has_81 : decode cX12_has 81 = .ok (.iconst 0, 1) := by decide +kernel
theorem dX12_has_82 : decode cX12_has 82 = .ok (.ireturn, 1) := by decide +kernel
theorem dX12_has_83 : decode cX12_has 83 = .ok (.iinc 3 1, 3) := by decide +kernel
theorem dX12_has_86 : decode cX12_has 86 = .ok (.goto (-31), 3) := by decide +kernel
theorem dX12_has_89 : decode cX12_has 89 = .ok (.aload_n 0, 1) := by decide +kernel
theorem dX12_has_90 : decode cX12_has 90 = .ok (.iload_n 2, 1) := by decide +kernel
theorem dX12_has_91 : decode cX12_has 91 = .ok (.putfield 71, 3) := by decide +kernel
theorem dX12_has_94 : decode cX12_has 94 = .ok (.iconst 1, 1) := by decide +kernel
theorem dX12_has_95 : decode cX12_has 95 = .ok (.ireturn, 1) := by decide +kernel
theorem dX12_wrong_0 : decode cX12_wrong 0 = .ok (.aload_n 0, 1) := by decide +kernel
theorem dX12_wrong_1 : decode cX12_wrong 1 = .ok (.getfield 25, 3) := by decide +kernel
theorem dX12_wrong_4 : decode cX12_wrong 4 = .ok (.iconst (-1), 1) := by decide +kernel
theorem dX12_wrong_5 : decode cX12_wrong 5 = .ok (.if_icmp .ne 8, 3) := by decide +kernel
theorem dX12_wrong_8 : decode cX12_wrong 8 = .ok (.aload_n 0, 1) := by decide +kernel
theorem dX12_wrong_9 : decode cX12_wrong 9 = .ok (.iload_n 1, 1) := by decide +kernel
theorem dX12_wrong_10 : decode cX12_wrong 10 = .ok (.putfield 25, 3) := by decide +kernel
theorem dX12_wrong_13 : decode cX12_wrong 13 = .ok (.return_, 1) := by decide +kernel
theorem dX12_here_0 : decode cX12_here 0 = .ok (.aload_n 0, 1) := by decide +kernel
theorem dX12_here_1 : decode cX12_here 1 = .ok (.invokevirtual 80, 3) := by decide +kernel
theorem dX12_here_4 : decode cX12_here 4 = .ok (.aload_n 0, 1) := by decide +kernel
theorem dX12_here_5 : decode cX12_here 5 = .ok (.getfield 71, 3) := by decide +kernel
theorem dX12_here_8 : decode cX12_here 8 = .ok (.ireturn, 1) := by decide +kernel
theorem dX12_figures_0 : decode cX12_figures 0 = .ok (.aload_n 0, 1) := by decide +kernel
theorem dX12_figures_1 : decode cX12_figures 1 = .ok (.getfield 25, 3) := by decide +kernel
theorem dX12_figures_4 : decode cX12_figures 4 = .ok (.iconst (-1), 1) := by decide +kernel
theorem dX12_figures_5 : decode cX12_figures 5 = .ok (.if_icmp .eq 5, 3) := by decide +kernel
theorem dX12_figures_8 : decode cX12_figures 8 = .ok (.iconst 0, 1) := by decide +kernel
theorem dX12_figures_9 : decode cX12_figures 9 = .ok (.ireturn, 1) := by decide +kernel
theorem dX12_figures_10 : decode cX12_figures 10 = .ok (.aload_n 0, 1) := by decide +kernel
theorem dX12_figures_11 : decode cX12_figures 11 = .ok (.invokevirtual 93, 3) := by decide +kernel
theorem dX12_figures_14 : decode cX12_figures 14 = .ok (.istore_n 3, 1) := by decide +kernel
theorem dX12_figures_15 : decode cX12_figures 15 = .ok (.iconst 0, 1) := by decide +kernel
theorem dX12_figures_16 : decode cX12_figures 16 = .ok (.istore 4, 2) := by decide +kernel
theorem dX12_figures_18 : decode cX12_figures 18 = .ok (.aload_n 0, 1) := by decide +kernel
theorem dX12_figures_19 : decode cX12_figures 19 = .ok (.getfield 71, 3) := by decide +kernel
theorem dX12_figures_22 : decode cX12_figures 22 = .ok (.aload_n 0, 1) := by decide +kernel
theorem dX12_figures_23 : decode cX12_figures 23 = .ok (.getfield 74, 3) := by decide +kernel
theorem dX12_figures_26 : decode cX12_figures 26 = .ok (.if_icmp .ge 63, 3) := by decide +kernel
theorem dX12_figures_29 : decode cX12_figures 29 = .ok (.aload_n 0, 1) := by decide +kernel
theorem dX12_figures_30 : decode cX12_figures 30 = .ok (.aload_n 0, 1) := by decide +kernel
theorem dX12_figures_31 : decode cX12_figures 31 = .ok (.getfield 71, 3) := by decide +kernel
theorem dX12_figures_34 : decode cX12_figures 34 = .ok (.invokevirtual 77, 3) := by decide +kernel
theorem dX12_figures_37 : decode cX12_figures 37 = .ok (.bipush 48, 2) := by decide +kernel
theorem dX12_figures_39 : decode cX12_figures 39 = .ok (.bipush 57, 2) := by decide +kernel
theorem dX12_figures_41 : decode cX12_figures 41 = .ok (.invokestatic 50, 3) := by decide +kernel
theorem dX12_figures_44 : decode cX12_figures 44 = .ok (.ifCond .eq 45, 3) := by decide +kernel
theorem dX12_figures_47 : decode cX12_figures 47 = .ok (.aload_n 0, 1) := by decide +kernel
theorem dX12_figures_48 : decode cX12_figures 48 = .ok (.getfield 71, 3) := by decide +kernel
theorem dX12_figures_51 : decode cX12_figures 51 = .ok (.iload_n 3, 1) := by decide +kernel
theorem dX12_figures_52 : decode cX12_figures 52 = .ok (.isub, 1) := by decide +kernel
theorem dX12_figures_53 : decode cX12_figures 53 = .ok (.iconst 3, 1) := by decide +kernel
theorem dX12_figures_54 : decode cX12_figures 54 = .ok (.if_icmp .gt 35, 3) := by decide +kernel
theorem dX12_figures_57 : decode cX12_figures 57 = .ok (.bipush 10, 2) := by decide +kernel
theorem dX12_figures_59 : decode cX12_figures 59 = .ok (.iload 4, 2) := by decide +kernel
theorem dX12_figures_61 : decode cX12_figures 61 = .ok (.imul, 1) := by decide +kernel
theorem dX12_figures_62 : decode cX12_figures 62 = .ok (.aload_n 0, 1) := by decide +kernel
theorem dX12_figures_63 : decode cX12_figures 63 = .ok (.aload_n 0, 1) := by decide +kernel
theorem dX12_figures_64 : decode cX12_figures 64 = .ok (.getfield 71, 3) := by decide +kernel
theorem dX12_figures_67 : decode cX12_figures 67 = .ok (.invokevirtual 77, 3) := by decide +kernel
theorem dX12_figures_70 : decode cX12_figures 70 = .ok (.iadd, 1) := by decide +kernel
theorem dX12_figures_71 : decode cX12_figures 71 = .ok (.bipush 48, 2) := by decide +kernel
theorem dX12_figures_73 : decode cX12_figures 73 = .ok (.isub, 1) := by decide +kernel
theorem dX12_figures_74 : decode cX12_figures 74 = .ok (.istore 4, 2) := by decide +kernel
theorem dX12_figures_76 : decode cX12_figures 76 = .ok (.aload_n 0, 1) := by decide +kernel
theorem dX12_figures_77 : decode cX12_figures 77 = .ok (.dup, 1) := by decide +kernel
theorem dX12_figures_78 : decode cX12_figures 78 = .ok (.getfield 71, 3) := by decide +kernel
theorem dX12_figures_81 : decode cX12_figures 81 = .ok (.iconst 1, 1) := by decide +kernel
theorem dX12_figures_82 : decode cX12_figures 82 = .ok (.iadd, 1) := by decide +kernel
theorem dX12_figures_83 : decode cX12_figures 83 = .ok (.putfield 71, 3) := by decide +kernel
theorem dX12_figures_86 : decode cX12_figures 86 = .ok (.goto (-68), 3) := by decide +kernel
theorem dX12_figures_89 : decode cX12_figures 89 = .ok (.aload_n 0, 1) := by decide +kernel
theorem dX12_figures_90 : decode cX12_figures 90 = .ok (.getfield 71, 3) := by decide +kernel
theorem dX12_figures_93 : decode cX12_figures 93 = .ok (.iload_n 3, 1) := by decide +kernel
theorem dX12_figures_94 : decode cX12_figures 94 = .ok (.if_icmp .eq 25, 3) := by decide +kernel
theorem dX12_figures_97 : decode cX12_figures 97 = .ok (.aload_n 0, 1) := by decide +kernel
theorem dX12_figures_98 : decode cX12_figures 98 = .ok (.getfield 71, 3) := by decide +kernel
theorem dX12_figures_101 : decode cX12_figures 101 = .ok (.iload_n 3, 1) := by decide +kernel
theorem dX12_figures_102 : decode cX12_figures 102 = .ok (.isub, 1) := by decide +kernel
theorem dX12_figures_103 : decode cX12_figures 103 = .ok (.iconst 3, 1) := by decide +kernel
theorem dX12_figures_104 : decode cX12_figures 104 = .ok (.if_icmp .gt 15, 3) := by decide +kernel
theorem dX12_figures_107 : decode cX12_figures 107 = .ok (.iload 4, 2) := by decide +kernel
theorem dX12_figures_109 : decode cX12_figures 109 = .ok (.iload_n 1, 1) := by decide +kernel
theorem dX12_figures_110 : decode cX12_figures 110 = .ok (.if_icmp .lt 9, 3) := by decide +kernel
theorem dX12_figures_113 : decode cX12_figures 113 = .ok (.iload 4, 2) := by decide +kernel
theorem dX12_figures_115 : decode cX12_figures 115 = .ok (.iload_n 2, 1) := by decide +kernel
theorem dX12_figures_116 : decode cX12_figures 116 = .ok (.if_icmp .le 8, 3) := by decide +kernel
theorem dX12_figures_119 : decode cX12_figures 119 = .ok (.aload_n 0, 1) := by decide +kernel
theorem dX12_figures_120 : decode cX12_figures 120 = .ok (.iload_n 3, 1) := by decide +kernel
theorem dX12_figures_121 : decode cX12_figures 121 = .ok (.invokevirtual 96, 3) := by decide +kernel
theorem dX12_figures_124 : decode cX12_figures 124 = .ok (.iload 4, 2) := by decide +kernel
theorem dX12_figures_126 : decode cX12_figures 126 = .ok (.ireturn, 1) := by decide +kernel
theorem dX12_after_0 : decode cX12_after 0 = .ok (.aload_n 0, 1) := by decide +kernel
theorem dX12_after_1 : decode cX12_after 1 = .ok (.getfield 25, 3) := by decide +kernel
theorem dX12_after_4 : decode cX12_after 4 = .ok (.iconst (-1), 1) := by decide +kernel
theorem dX12_after_5 : decode cX12_after 5 = .ok (.if_icmp .ne 19, 3) := by decide +kernel
theorem dX12_after_8 : decode cX12_after 8 = .ok (.aload_n 0, 1) := by decide +kernel
theorem dX12_after_9 : decode cX12_after 9 = .ok (.aload_n 1, 1) := by decide +kernel
theorem dX12_after_10 : decode cX12_after 10 = .ok (.invokevirtual 100, 3) := by decide +kernel
theorem dX12_after_13 : decode cX12_after 13 = .ok (.ifCond .ne 11, 3) := by decide +kernel
theorem dX12_after_16 : decode cX12_after 16 = .ok (.aload_n 0, 1) := by decide +kernel
theorem dX12_after_17 : decode cX12_after 17 = .ok (.aload_n 0, 1) := by decide +kernel
theorem dX12_after_18 : decode cX12_after 18 = .ok (.getfield 71, 3) := by decide +kernel
theorem dX12_after_21 : decode cX12_after 21 = .ok (.invokevirtual 96, 3) := by decide +kernel
theorem dX12_after_24 : decode cX12_after 24 = .ok (.aload_n 0, 1) := by decide +kernel
theorem dX12_after_25 : decode cX12_after 25 = .ok (.iload_n 2, 1) := by decide +kernel
theorem dX12_after_26 : decode cX12_after 26 = .ok (.iload_n 3, 1) := by decide +kernel
theorem dX12_after_27 : decode cX12_after 27 = .ok (.invokevirtual 104, 3) := by decide +kernel
theorem dX12_after_30 : decode cX12_after 30 = .ok (.ireturn, 1) := by decide +kernel
theorem dX12_paneLine_0 : decode cX12_paneLine 0 = .ok (.aload_n 0, 1) := by decide +kernel
theorem dX12_paneLine_1 : decode cX12_paneLine 1 = .ok (.getfield 7, 3) := by decide +kernel
theorem dX12_paneLine_4 : decode cX12_paneLine 4 = .ok (.iconst 3, 1) := by decide +kernel
theorem dX12_paneLine_5 : decode cX12_paneLine 5 = .ok (.iaload, 1) := by decide +kernel
theorem dX12_paneLine_6 : decode cX12_paneLine 6 = .ok (.bipush 9, 2) := by decide +kernel
theorem dX12_paneLine_8 : decode cX12_paneLine 8 = .ok (.if_icmp .ne 8, 3) := by decide +kernel
theorem dX12_paneLine_11 : decode cX12_paneLine 11 = .ok (.aload_n 0, 1) := by decide +kernel
theorem dX12_paneLine_12 : decode cX12_paneLine 12 = .ok (.iload_n 1, 1) := by decide +kernel
theorem dX12_paneLine_13 : decode cX12_paneLine 13 = .ok (.invokevirtual 96, 3) := by decide +kernel
theorem dX12_paneLine_16 : decode cX12_paneLine 16 = .ok (.aload_n 0, 1) := by decide +kernel
theorem dX12_paneLine_17 : decode cX12_paneLine 17 = .ok (.getfield 25, 3) := by decide +kernel
theorem dX12_paneLine_20 : decode cX12_paneLine 20 = .ok (.iconst (-1), 1) := by decide +kernel
theorem dX12_paneLine_21 : decode cX12_paneLine 21 = .ok (.if_icmp .ne 22, 3) := by decide +kernel
theorem dX12_paneLine_24 : decode cX12_paneLine 24 = .ok (.aload_n 0, 1) := by decide +kernel
theorem dX12_paneLine_25 : decode cX12_paneLine 25 = .ok (.ldc 108, 2) := by decide +kernel
theorem dX12_paneLine_27 : decode cX12_paneLine 27 = .ok (.invokevirtual 100, 3) := by decide +kernel
theorem dX12_paneLine_30 : decode cX12_paneLine 30 = .ok (.ifCond .eq 13, 3) := by decide +kernel
theorem dX12_paneLine_33 : decode cX12_paneLine 33 = .ok (.aload_n 0, 1) := by decide +kernel
theorem dX12_paneLine_34 : decode cX12_paneLine 34 = .ok (.iconst 0, 1) := by decide +kernel
theorem dX12_paneLine_35 : decode cX12_paneLine 35 = .ok (.bipush 99, 2) := by decide +kernel
theorem dX12_paneLine_37 : decode cX12_paneLine 37 = .ok (.invokevirtual 104, 3) := by decide +kernel
theorem dX12_paneLine_40 : decode cX12_paneLine 40 = .ok (.goto 5, 3) := by decide +kernel
theorem dX12_paneLine_43 : decode cX12_paneLine 43 = .ok (.bipush 20, 2) := by decide +kernel
theorem dX12_paneLine_45 : decode cX12_paneLine 45 = .ok (.istore_n 2, 1) := by decide +kernel
theorem dX12_paneLine_46 : decode cX12_paneLine 46 = .ok (.aload_n 0, 1) := by decide +kernel
theorem dX12_paneLine_47 : decode cX12_paneLine 47 = .ok (.invokevirtual 93, 3) := by decide +kernel
theorem dX12_paneLine_50 : decode cX12_paneLine 50 = .ok (.istore_n 3, 1) := by decide +kernel
theorem dX12_paneLine_51 : decode cX12_paneLine 51 = .ok (.aload_n 0, 1) := by decide +kernel
theorem dX12_paneLine_52 : decode cX12_paneLine 52 = .ok (.getfield 25, 3) := by decide +kernel
theorem dX12_paneLine_55 : decode cX12_paneLine 55 = .ok (.iconst (-1), 1) := by decide +kernel
theorem dX12_paneLine_56 : decode cX12_paneLine 56 = .ok (.if_icmp .ne 16, 3) := by decide +kernel
theorem dX12_paneLine_59 : decode cX12_paneLine 59 = .ok (.aload_n 0, 1) := by decide +kernel
theorem dX12_paneLine_60 : decode cX12_paneLine 60 = .ok (.ldc 110, 2) := by decide +kernel
theorem dX12_paneLine_62 : decode cX12_paneLine 62 = .ok (.invokevirtual 100, 3) := by decide +kernel
theorem dX12_paneLine_65 : decode cX12_paneLine 65 = .ok (.ifCond .eq 7, 3) := by decide +kernel
theorem dX12_paneLine_68 : decode cX12_paneLine 68 = .ok (.iconst 1, 1) := by decide +kernel
theorem dX12_paneLine_69 : decode cX12_paneLine 69 = .ok (.goto 4, 3) := by decide +kernel
theorem dX12_paneLine_72 : decode cX12_paneLine 72 = .ok (.iconst 0, 1) := by decide +kernel
theorem dX12_paneLine_73 : decode cX12_paneLine 73 = .ok (.istore 4, 2) := by decide +kernel
theorem dX12_paneLine_75 : decode cX12_paneLine 75 = .ok (.aload_n 0, 1) := by decide +kernel
theorem dX12_paneLine_76 : decode cX12_paneLine 76 = .ok (.getfield 25, 3) := by decide +kernel
theorem dX12_paneLine_79 : decode cX12_paneLine 79 = .ok (.iconst (-1), 1) := by decide +kernel
theorem dX12_paneLine_80 : decode cX12_paneLine 80 = .ok (.if_icmp .ne 17, 3) := by decide +kernel
theorem dX12_paneLine_83 : decode cX12_paneLine 83 = .ok (.iload 4, 2) := by decide +kernel
theorem dX12_paneLine_85 : decode cX12_paneLine 85 = .ok (.ifCond .eq 12, 3) := by decide +kernel
theorem dX12_paneLine_88 : decode cX12_paneLine 88 = .ok (.iload_n 2, 1) := by decide +kernel
theorem dX12_paneLine_89 : decode cX12_paneLine 89 = .ok (.ifCond .ne 8, 3) := by decide +kernel
theorem dX12_paneLine_92 : decode cX12_paneLine 92 = .ok (.aload_n 0, 1) := by decide +kernel
theorem dX12_paneLine_93 : decode cX12_paneLine 93 = .ok (.iload_n 3, 1) := by decide +kernel
theorem dX12_paneLine_94 : decode cX12_paneLine 94 = .ok (.invokevirtual 96, 3) := by decide +kernel
theorem dX12_paneLine_97 : decode cX12_paneLine 97 = .ok (.aload_n 0, 1) := by decide +kernel
theorem dX12_paneLine_98 : decode cX12_paneLine 98 = .ok (.getfield 25, 3) := by decide +kernel
theorem dX12_paneLine_101 : decode cX12_paneLine 101 = .ok (.iconst (-1), 1) := by decide +kernel
theorem dX12_paneLine_102 : decode cX12_paneLine 102 = .ok (.if_icmp .eq 4, 3) := by decide +kernel
theorem dX12_paneLine_105 : decode cX12_paneLine 105 = .ok (.return_, 1) := by decide +kernel
theorem dX12_paneLine_106 : decode cX12_paneLine 106 = .ok (.aload_n 0, 1) := by decide +kernel
theorem dX12_paneLine_107 : decode cX12_paneLine 107 = .ok (.getfield 7, 3) := by decide +kernel
theorem dX12_paneLine_110 : decode cX12_paneLine 110 = .ok (.iconst 3, 1) := by decide +kernel
theorem dX12_paneLine_111 : decode cX12_paneLine 111 = .ok (.iaload, 1) := by decide +kernel
theorem dX12_paneLine_112 : decode cX12_paneLine 112 = .ok (.istore 5, 2) := by decide +kernel
theorem dX12_paneLine_114 : decode cX12_paneLine 114 = .ok (.aload_n 0, 1) := by decide +kernel
theorem dX12_paneLine_115 : decode cX12_paneLine 115 = .ok (.iload 5, 2) := by decide +kernel
theorem dX12_paneLine_117 : decode cX12_paneLine 117 = .ok (.iconst 0, 1) := by decide +kernel
theorem dX12_paneLine_118 : decode cX12_paneLine 118 = .ok (.iload_n 2, 1) := by decide +kernel
theorem dX12_paneLine_119 : decode cX12_paneLine 119 = .ok (.invokevirtual 112, 3) := by decide +kernel
theorem dX12_paneLine_122 : decode cX12_paneLine 122 = .ok (.aload_n 0, 1) := by decide +kernel
theorem dX12_paneLine_123 : decode cX12_paneLine 123 = .ok (.iload 5, 2) := by decide +kernel
theorem dX12_paneLine_125 : decode cX12_paneLine 125 = .ok (.iconst 1, 1) := by decide +kernel
theorem dX12_paneLine_126 : decode cX12_paneLine 126 = .ok (.iload 4, 2) := by decide +kernel
theorem dX12_paneLine_128 : decode cX12_paneLine 128 = .ok (.ifCond .eq 7, 3) := by decide +kernel
theorem dX12_paneLine_131 : decode cX12_paneLine 131 = .ok (.iconst 1, 1) := by decide +kernel
theorem dX12_paneLine_132 : decode cX12_paneLine 132 = .ok (.goto 4, 3) := by decide +kernel
theorem dX12_paneLine_135 : decode cX12_paneLine 135 = .ok (.iconst 0, 1) := by decide +kernel
theorem dX12_paneLine_136 : decode cX12_paneLine 136 = .ok (.invokevirtual 112, 3) := by decide +kernel
theorem dX12_paneLine_139 : decode cX12_paneLine 139 = .ok (.aload_n 0, 1) := by decide +kernel
theorem dX12_paneLine_140 : decode cX12_paneLine 140 = .ok (.iload 5, 2) := by decide +kernel
theorem dX12_paneLine_142 : decode cX12_paneLine 142 = .ok (.iconst 2, 1) := by decide +kernel
theorem dX12_paneLine_143 : decode cX12_paneLine 143 = .ok (.iconst (-1), 1) := by decide +kernel
theorem dX12_paneLine_144 : decode cX12_paneLine 144 = .ok (.invokevirtual 112, 3) := by decide +kernel
theorem dX12_paneLine_147 : decode cX12_paneLine 147 = .ok (.aload_n 0, 1) := by decide +kernel
theorem dX12_paneLine_148 : decode cX12_paneLine 148 = .ok (.iload 5, 2) := by decide +kernel
theorem dX12_paneLine_150 : decode cX12_paneLine 150 = .ok (.iconst 3, 1) := by decide +kernel
theorem dX12_paneLine_151 : decode cX12_paneLine 151 = .ok (.iconst 0, 1) := by decide +kernel
theorem dX12_paneLine_152 : decode cX12_paneLine 152 = .ok (.invokevirtual 112, 3) := by decide +kernel
theorem dX12_paneLine_155 : decode cX12_paneLine 155 = .ok (.iconst 0, 1) := by decide +kernel
theorem dX12_paneLine_156 : decode cX12_paneLine 156 = .ok (.istore 6, 2) := by decide +kernel
theorem dX12_paneLine_158 : decode cX12_paneLine 158 = .ok (.iload 6, 2) := by decide +kernel
theorem dX12_paneLine_160 : decode cX12_paneLine 160 = .ok (.bipush 9, 2) := by decide +kernel
theorem dX12_paneLine_162 : decode cX12_paneLine 162 = .ok (.if_icmp .ge 18, 3) := by decide +kernel
theorem dX12_paneLine_165 : decode cX12_paneLine 165 = .ok (.aload_n 0, 1) := by decide +kernel
theorem dX12_paneLine_166 : decode cX12_paneLine 166 = .ok (.iload 5, 2) := by decide +kernel
theorem dX12_paneLine_168 : decode cX12_paneLine 168 = .ok (.iload 6, 2) := by decide +kernel
theorem dX12_paneLine_170 : decode cX12_paneLine 170 = .ok (.iconst 0, 1) := by decide +kernel
theorem dX12_paneLine_171 : decode cX12_paneLine 171 = .ok (.invokevirtual 116, 3) := by decide +kernel
theorem dX12_paneLine_174 : decode cX12_paneLine 174 = .ok (.iinc 6 1, 3) := by decide +kernel
theorem dX12_paneLine_177 : decode cX12_paneLine 177 = .ok (.goto (-19), 3) := by decide +kernel
theorem dX12_paneLine_180 : decode cX12_paneLine 180 = .ok (.aload_n 0, 1) := by decide +kernel
theorem dX12_paneLine_181 : decode cX12_paneLine 181 = .ok (.getfield 7, 3) := by decide +kernel
theorem dX12_paneLine_184 : decode cX12_paneLine 184 = .ok (.iconst 3, 1) := by decide +kernel
theorem dX12_paneLine_185 : decode cX12_paneLine 185 = .ok (.dup2, 1) := by decide +kernel
theorem dX12_paneLine_186 : decode cX12_paneLine 186 = .ok (.iaload, 1) := by decide +kernel
theorem dX12_paneLine_187 : decode cX12_paneLine 187 = .ok (.iconst 1, 1) := by decide +kernel
theorem dX12_paneLine_188 : decode cX12_paneLine 188 = .ok (.iadd, 1) := by decide +kernel
theorem dX12_paneLine_189 : decode cX12_paneLine 189 = .ok (.iastore, 1) := by decide +kernel
theorem dX12_paneLine_190 : decode cX12_paneLine 190 = .ok (.return_, 1) := by decide +kernel
theorem dX12_walkerLine_0 : decode cX12_walkerLine 0 = .ok (.aload_n 0, 1) := by decide +kernel
theorem dX12_walkerLine_1 : decode cX12_walkerLine 1 = .ok (.getfield 7, 3) := by decide +kernel
theorem dX12_walkerLine_4 : decode cX12_walkerLine 4 = .ok (.iconst 4, 1) := by decide +kernel
theorem dX12_walkerLine_5 : decode cX12_walkerLine 5 = .ok (.iaload, 1) := by decide +kernel
theorem dX12_walkerLine_6 : decode cX12_walkerLine 6 = .ok (.bipush 6, 2) := by decide +kernel
theorem dX12_walkerLine_8 : decode cX12_walkerLine 8 = .ok (.if_icmp .ne 8, 3) := by decide +kernel
theorem dX12_walkerLine_11 : decode cX12_walkerLine 11 = .ok (.aload_n 0, 1) := by decide +kernel
theorem dX12_walkerLine_12 : decode cX12_walkerLine 12 = .ok (.iload_n 1, 1) := by decide +kernel
theorem dX12_walkerLine_13 : decode cX12_walkerLine 13 = .ok (.invokevirtual 96, 3) := by decide +kernel
theorem dX12_walkerLine_16 : decode cX12_walkerLine 16 = .ok (.aload_n 0, 1) := by decide +kernel
theorem dX12_walkerLine_17 : decode cX12_walkerLine 17 = .ok (.ldc 119, 2) := by decide +kernel
theorem dX12_walkerLine_19 : decode cX12_walkerLine 19 = .ok (.iconst 0, 1) := by decide +kernel
theorem dX12_walkerLine_20 : decode cX12_walkerLine 20 = .ok (.aload_n 0, 1) := by decide +kernel
theorem dX12_walkerLine_21 : decode cX12_walkerLine 21 = .ok (.getfield 7, 3) := by decide +kernel
theorem dX12_walkerLine_24 : decode cX12_walkerLine 24 = .ok (.iconst 3, 1) := by decide +kernel
theorem dX12_walkerLine_25 : decode cX12_walkerLine 25 = .ok (.iaload, 1) := by decide +kernel
theorem dX12_walkerLine_26 : decode cX12_walkerLine 26 = .ok (.iconst 1, 1) := by decide +kernel
theorem dX12_walkerLine_27 : decode cX12_walkerLine 27 = .ok (.isub, 1) := by decide +kernel
theorem dX12_walkerLine_28 : decode cX12_walkerLine 28 = .ok (.invokevirtual 120, 3) := by decide +kernel
theorem dX12_walkerLine_31 : decode cX12_walkerLine 31 = .ok (.istore_n 2, 1) := by decide +kernel
theorem dX12_walkerLine_32 : decode cX12_walkerLine 32 = .ok (.aload_n 0, 1) := by decide +kernel
theorem dX12_walkerLine_33 : decode cX12_walkerLine 33 = .ok (.ldc 124, 2) := by decide +kernel
theorem dX12_walkerLine_35 : decode cX12_walkerLine 35 = .ok (.iconst 0, 1) := by decide +kernel
theorem dX12_walkerLine_36 : decode cX12_walkerLine 36 = .ok (.bipush 99, 2) := by decide +kernel
theorem dX12_walkerLine_38 : decode cX12_walkerLine 38 = .ok (.invokevirtual 120, 3) := by decide +kernel
theorem dX12_walkerLine_41 : decode cX12_walkerLine 41 = .ok (.istore_n 3, 1) := by decide +kernel
theorem dX12_walkerLine_42 : decode cX12_walkerLine 42 = .ok (.iconst (-1), 1) := by decide +kernel
theorem dX12_walkerLine_43 : decode cX12_walkerLine 43 = .ok (.istore 4, 2) := by decide +kernel
theorem dX12_walkerLine_45 : decode cX12_walkerLine 45 = .ok (.aload_n 0, 1) := by decide +kernel
theorem dX12_walkerLine_46 : decode cX12_walkerLine 46 = .ok (.getfield 25, 3) := by decide +kernel
theorem dX12_walkerLine_49 : decode cX12_walkerLine 49 = .ok (.iconst (-1), 1) := by decide +kernel
theorem dX12_walkerLine_50 : decode cX12_walkerLine 50 = .ok (.if_icmp .ne 58, 3) := by decide +kernel
theorem dX12_walkerLine_53 : decode cX12_walkerLine 53 = .ok (.aload_n 0, 1) := by decide +kernel
theorem dX12_walkerLine_54 : decode cX12_walkerLine 54 = .ok (.ldc 126, 2) := by decide +kernel
theorem dX12_walkerLine_56 : decode cX12_walkerLine 56 = .ok (.invokevirtual 100, 3) := by decide +kernel
theorem dX12_walkerLine_59 : decode cX12_walkerLine 59 = .ok (.ifCond .eq 49, 3) := by decide +kernel
theorem dX12_walkerLine_62 : decode cX12_walkerLine 62 = .ok (.aload_n 0, 1) := by decide +kernel
theorem dX12_walkerLine_63 : decode cX12_walkerLine 63 = .ok (.invokevirtual 93, 3) := by decide +kernel
theorem dX12_walkerLine_66 : decode cX12_walkerLine 66 = .ok (.istore 5, 2) := by decide +kernel
theorem dX12_walkerLine_68 : decode cX12_walkerLine 68 = .ok (.aload_n 0, 1) := by decide +kernel
theorem dX12_walkerLine_69 : decode cX12_walkerLine 69 = .ok (.iconst 0, 1) := by decide +kernel
theorem dX12_walkerLine_70 : decode cX12_walkerLine 70 = .ok (.aload_n 0, 1) := by decide +kernel
theorem dX12_walkerLine_71 : decode cX12_walkerLine 71 = .ok (.getfield 7, 3) := by decide +kernel
theorem dX12_walkerLine_74 : decode cX12_walkerLine 74 = .ok (.iconst 3, 1) := by decide +kernel
theorem dX12_walkerLine_75 : decode cX12_walkerLine 75 = .ok (.iaload, 1) := by decide +kernel
theorem dX12_walkerLine_76 : decode cX12_walkerLine 76 = .ok (.iconst 1, 1) := by decide +kernel
theorem dX12_walkerLine_77 : decode cX12_walkerLine 77 = .ok (.isub, 1) := by decide +kernel
theorem dX12_walkerLine_78 : decode cX12_walkerLine 78 = .ok (.invokevirtual 104, 3) := by decide +kernel
theorem dX12_walkerLine_81 : decode cX12_walkerLine 81 = .ok (.istore 4, 2) := by decide +kernel
theorem dX12_walkerLine_83 : decode cX12_walkerLine 83 = .ok (.aload_n 0, 1) := by decide +kernel
theorem dX12_walkerLine_84 : decode cX12_walkerLine 84 = .ok (.getfield 25, 3) := by decide +kernel
theorem dX12_walkerLine_87 : decode cX12_walkerLine 87 = .ok (.iconst (-1), 1) := by decide +kernel
theorem dX12_walkerLine_88 : decode cX12_walkerLine 88 = .ok (.if_icmp .ne 20, 3) := by decide +kernel
theorem dX12_walkerLine_91 : decode cX12_walkerLine 91 = .ok (.aload_n 0, 1) := by decide +kernel
theorem dX12_walkerLine_92 : decode cX12_walkerLine 92 = .ok (.iload 4, 2) := by decide +kernel
theorem dX12_walkerLine_94 : decode cX12_walkerLine 94 = .ok (.iconst 2, 1) := by decide +kernel
theorem dX12_walkerLine_95 : decode cX12_walkerLine 95 = .ok (.invokevirtual 128, 3) := by decide +kernel
theorem dX12_walkerLine_98 : decode cX12_walkerLine 98 = .ok (.iconst (-1), 1) := by decide +kernel
theorem dX12_walkerLine_99 : decode cX12_walkerLine 99 = .ok (.if_icmp .eq 9, 3) := by decide +kernel
theorem dX12_walkerLine_102 : decode cX12_walkerLine 102 = .ok (.aload_n 0, 1) := by decide +kernel
theorem dX12_walkerLine_103 : decode cX12_walkerLine 103 = .ok (.iload 5, 2) := by decide +kernel
theorem dX12_walkerLine_105 : decode cX12_walkerLine 105 = .ok (.invokevirtual 96, 3) := by decide +kernel
theorem dX12_walkerLine_108 : decode cX12_walkerLine 108 = .ok (.aload_n 0, 1) := by decide +kernel
theorem dX12_walkerLine_109 : decode cX12_walkerLine 109 = .ok (.getfield 25, 3) := by decide +kernel
theorem dX12_walkerLine_112 : decode cX12_walkerLine 112 = .ok (.iconst (-1), 1) := by decide +kernel
theorem dX12_walkerLine_113 : decode cX12_walkerLine 113 = .ok (.if_icmp .ne 28, 3) := by decide +kernel
theorem dX12_walkerLine_116 : decode cX12_walkerLine 116 = .ok (.aload_n 0, 1) := by decide +kernel
theorem dX12_walkerLine_117 : decode cX12_walkerLine 117 = .ok (.ldc 131, 2) := by decide +kernel
theorem dX12_walkerLine_119 : decode cX12_walkerLine 119 = .ok (.invokevirtual 100, 3) := by decide +kernel
theorem dX12_walkerLine_122 : decode cX12_walkerLine 122 = .ok (.ifCond .eq 19, 3) := by decide +kernel
theorem dX12_walkerLine_125 : decode cX12_walkerLine 125 = .ok (.aload_n 0, 1) := by decide +kernel
theorem dX12_walkerLine_126 : decode cX12_walkerLine 126 = .ok (.iconst 0, 1) := by decide +kernel
theorem dX12_walkerLine_127 : decode cX12_walkerLine 127 = .ok (.aload_n 0, 1) := by decide +kernel
theorem dX12_walkerLine_128 : decode cX12_walkerLine 128 = .ok (.getfield 7, 3) := by decide +kernel
theorem dX12_walkerLine_131 : decode cX12_walkerLine 131 = .ok (.iconst 3, 1) := by decide +kernel
theorem dX12_walkerLine_132 : decode cX12_walkerLine 132 = .ok (.iaload, 1) := by decide +kernel
theorem dX12_walkerLine_133 : decode cX12_walkerLine 133 = .ok (.iconst 1, 1) := by decide +kernel
theorem dX12_walkerLine_134 : decode cX12_walkerLine 134 = .ok (.isub, 1) := by decide +kernel
theorem dX12_walkerLine_135 : decode cX12_walkerLine 135 = .ok (.invokevirtual 104, 3) := by decide +kernel
theorem dX12_walkerLine_138 : decode cX12_walkerLine 138 = .ok (.goto 4, 3) := by decide +kernel
theorem dX12_walkerLine_141 : decode cX12_walkerLine 141 = .ok (.iconst (-1), 1) := by decide +kernel
theorem dX12_walkerLine_142 : decode cX12_walkerLine 142 = .ok (.istore 5, 2) := by decide +kernel
theorem dX12_walkerLine_144 : decode cX12_walkerLine 144 = .ok (.aload_n 0, 1) := by decide +kernel
theorem dX12_walkerLine_145 : decode cX12_walkerLine 145 = .ok (.getfield 25, 3) := by decide +kernel
theorem dX12_walkerLine_148 : decode cX12_walkerLine 148 = .ok (.iconst (-1), 1) := by decide +kernel
theorem dX12_walkerLine_149 : decode cX12_walkerLine 149 = .ok (.if_icmp .eq 4, 3) := by decide +kernel
theorem dX12_walkerLine_152 : decode cX12_walkerLine 152 = .ok (.return_, 1) := by decide +kernel
theorem dX12_walkerLine_153 : decode cX12_walkerLine 153 = .ok (.aload_n 0, 1) := by decide +kernel
theorem dX12_walkerLine_154 : decode cX12_walkerLine 154 = .ok (.getfield 7, 3) := by decide +kernel
theorem dX12_walkerLine_157 : decode cX12_walkerLine 157 = .ok (.iconst 4, 1) := by decide +kernel
theorem dX12_walkerLine_158 : decode cX12_walkerLine 158 = .ok (.iaload, 1) := by decide +kernel
theorem dX12_walkerLine_159 : decode cX12_walkerLine 159 = .ok (.istore 6, 2) := by decide +kernel
theorem dX12_walkerLine_161 : decode cX12_walkerLine 161 = .ok (.aload_n 0, 1) := by decide +kernel
theorem dX12_walkerLine_162 : decode cX12_walkerLine 162 = .ok (.getfield 7, 3) := by decide +kernel
theorem dX12_walkerLine_165 : decode cX12_walkerLine 165 = .ok (.sipush 128, 3) := by decide +kernel
theorem dX12_walkerLine_168 : decode cX12_walkerLine 168 = .ok (.iconst 4, 1) := by decide +kernel
theorem dX12_walkerLine_169 : decode cX12_walkerLine 169 = .ok (.iload 6, 2) := by decide +kernel
theorem dX12_walkerLine_171 : decode cX12_walkerLine 171 = .ok (.imul, 1) := by decide +kernel
theorem dX12_walkerLine_172 : decode cX12_walkerLine 172 = .ok (.iadd, 1) := by decide +kernel
theorem dX12_walkerLine_173 : decode cX12_walkerLine 173 = .ok (.iconst 0, 1) := by decide +kernel
theorem dX12_walkerLine_174 : decode cX12_walkerLine 174 = .ok (.iadd, 1) := by decide +kernel
theorem dX12_walkerLine_175 : decode cX12_walkerLine 175 = .ok (.iload_n 2, 1) := by decide +kernel
theorem dX12_walkerLine_176 : decode cX12_walkerLine 176 = .ok (.iastore, 1) := by decide +kernel
theorem dX12_walkerLine_177 : decode cX12_walkerLine 177 = .ok (.aload_n 0, 1) := by decide +kernel
theorem dX12_walkerLine_178 : decode cX12_walkerLine 178 = .ok (.getfield 7, 3) := by decide +kernel
theorem dX12_walkerLine_181 : decode cX12_walkerLine 181 = .ok (.sipush 128, 3) := by decide +kernel
theorem dX12_walkerLine_184 : decode cX12_walkerLine 184 = .ok (.iconst 4, 1) := by decide +kernel
theorem dX12_walkerLine_185 : decode cX12_walkerLine 185 = .ok (.iload 6, 2) := by decide +kernel
theorem dX12_walkerLine_187 : decode cX12_walkerLine 187 = .ok (.imul, 1) := by decide +kernel
theorem dX12_walkerLine_188 : decode cX12_walkerLine 188 = .ok (.iadd, 1) := by decide +kernel
theorem dX12_walkerLine_189 : decode cX12_walkerLine 189 = .ok (.iconst 1, 1) := by decide +kernel
theorem dX12_walkerLine_190 : decode cX12_walkerLine 190 = .ok (.iadd, 1) := by decide +kernel
theorem dX12_walkerLine_191 : decode cX12_walkerLine 191 = .ok (.iload_n 3, 1) := by decide +kernel
theorem dX12_walkerLine_192 : decode cX12_walkerLine 192 = .ok (.iastore, 1) := by decide +kernel
theorem dX12_walkerLine_193 : decode cX12_walkerLine 193 = .ok (.aload_n 0, 1) := by decide +kernel
theorem dX12_walkerLine_194 : decode cX12_walkerLine 194 = .ok (.getfield 7, 3) := by decide +kernel
theorem dX12_walkerLine_197 : decode cX12_walkerLine 197 = .ok (.sipush 128, 3) := by decide +kernel
theorem dX12_walkerLine_200 : decode cX12_walkerLine 200 = .ok (.iconst 4, 1) := by decide +kernel
theorem dX12_walkerLine_201 : decode cX12_walkerLine 201 = .ok (.iload 6, 2) := by decide +kernel
theorem dX12_walkerLine_203 : decode cX12_walkerLine 203 = .ok (.imul, 1) := by decide +kernel
theorem dX12_walkerLine_204 : decode cX12_walkerLine 204 = .ok (.iadd, 1) := by decide +kernel
theorem dX12_walkerLine_205 : decode cX12_walkerLine 205 = .ok (.iconst 2, 1) := by decide +kernel
theorem dX12_walkerLine_206 : decode cX12_walkerLine 206 = .ok (.iadd, 1) := by decide +kernel
theorem dX12_walkerLine_207 : decode cX12_walkerLine 207 = .ok (.iload 5, 2) := by decide +kernel
theorem dX12_walkerLine_209 : decode cX12_walkerLine 209 = .ok (.iastore, 1) := by decide +kernel
theorem dX12_walkerLine_210 : decode cX12_walkerLine 210 = .ok (.aload_n 0, 1) := by decide +kernel
theorem dX12_walkerLine_211 : decode cX12_walkerLine 211 = .ok (.getfield 7, 3) := by decide +kernel
theorem dX12_walkerLine_214 : decode cX12_walkerLine 214 = .ok (.sipush 128, 3) := by decide +kernel
theorem dX12_walkerLine_217 : decode cX12_walkerLine 217 = .ok (.iconst 4, 1) := by decide +kernel
theorem dX12_walkerLine_218 : decode cX12_walkerLine 218 = .ok (.iload 6, 2) := by decide +kernel
theorem dX12_walkerLine_220 : decode cX12_walkerLine 220 = .ok (.imul, 1) := by decide +kernel
theorem dX12_walkerLine_221 : decode cX12_walkerLine 221 = .ok (.iadd, 1) := by decide +kernel
theorem dX12_walkerLine_222 : decode cX12_walkerLine 222 = .ok (.iconst 3, 1) := by decide +kernel
theorem dX12_walkerLine_223 : decode cX12_walkerLine 223 = .ok (.iadd, 1) := by decide +kernel
theorem dX12_walkerLine_224 : decode cX12_walkerLine 224 = .ok (.iconst 0, 1) := by decide +kernel
theorem dX12_walkerLine_225 : decode cX12_walkerLine 225 = .ok (.iastore, 1) := by decide +kernel
theorem dX12_walkerLine_226 : decode cX12_walkerLine 226 = .ok (.iload 4, 2) := by decide +kernel
theorem dX12_walkerLine_228 : decode cX12_walkerLine 228 = .ok (.iconst (-1), 1) := by decide +kernel
theorem dX12_walkerLine_229 : decode cX12_walkerLine 229 = .ok (.if_icmp .eq 12, 3) := by decide +kernel
theorem dX12_walkerLine_232 : decode cX12_walkerLine 232 = .ok (.aload_n 0, 1) := by decide +kernel
theorem dX12_walkerLine_233 : decode cX12_walkerLine 233 = .ok (.iload 4, 2) := by decide +kernel
theorem dX12_walkerLine_235 : decode cX12_walkerLine 235 = .ok (.iconst 2, 1) := by decide +kernel
theorem dX12_walkerLine_236 : decode cX12_walkerLine 236 = .ok (.iload 6, 2) := by decide +kernel
theorem dX12_walkerLine_238 : decode cX12_walkerLine 238 = .ok (.invokevirtual 112, 3) := by decide +kernel
theorem dX12_walkerLine_241 : decode cX12_walkerLine 241 = .ok (.iconst 0, 1) := by decide +kernel
theorem dX12_walkerLine_242 : decode cX12_walkerLine 242 = .ok (.istore 7, 2) := by decide +kernel
theorem dX12_walkerLine_244 : decode cX12_walkerLine 244 = .ok (.iload 7, 2) := by decide +kernel
theorem dX12_walkerLine_246 : decode cX12_walkerLine 246 = .ok (.bipush 6, 2) := by decide +kernel
theorem dX12_walkerLine_248 : decode cX12_walkerLine 248 = .ok (.if_icmp .ge 45, 3) := by decide +kernel
theorem dX12_walkerLine_251 : decode cX12_walkerLine 251 = .ok (.aload_n 0, 1) := by decide +kernel
theorem dX12_walkerLine_252 : decode cX12_walkerLine 252 = .ok (.getfield 7, 3) := by decide +kernel
theorem dX12_walkerLine_255 : decode cX12_walkerLine 255 = .ok (.sipush 152, 3) := by decide +kernel
theorem dX12_walkerLine_258 : decode cX12_walkerLine 258 = .ok (.bipush 6, 2) := by decide +kernel
theorem dX12_walkerLine_260 : decode cX12_walkerLine 260 = .ok (.iload 6, 2) := by decide +kernel
theorem dX12_walkerLine_262 : decode cX12_walkerLine 262 = .ok (.imul, 1) := by decide +kernel
theorem dX12_walkerLine_263 : decode cX12_walkerLine 263 = .ok (.iadd, 1) := by decide +kernel
theorem dX12_walkerLine_264 : decode cX12_walkerLine 264 = .ok (.iload 7, 2) := by decide +kernel
theorem dX12_walkerLine_266 : decode cX12_walkerLine 266 = .ok (.iadd, 1) := by decide +kernel
theorem dX12_walkerLine_267 : decode cX12_walkerLine 267 = .ok (.iconst 5, 1) := by decide +kernel
theorem dX12_walkerLine_268 : decode cX12_walkerLine 268 = .ok (.iastore, 1) := by decide +kernel
theorem dX12_walkerLine_269 : decode cX12_walkerLine 269 = .ok (.aload_n 0, 1) := by decide +kernel
theorem dX12_walkerLine_270 : decode cX12_walkerLine 270 = .ok (.getfield 7, 3) := by decide +kernel
theorem dX12_walkerLine_273 : decode cX12_walkerLine 273 = .ok (.sipush 152, 3) := by decide +kernel
theorem dX12_walkerLine_276 : decode cX12_walkerLine 276 = .ok (.bipush 6, 2) := by decide +kernel
theorem dX12_walkerLine_278 : decode cX12_walkerLine 278 = .ok (.iload 7, 2) := by decide +kernel
theorem dX12_walkerLine_280 : decode cX12_walkerLine 280 = .ok (.imul, 1) := by decide +kernel
theorem dX12_walkerLine_281 : decode cX12_walkerLine 281 = .ok (.iadd, 1) := by decide +kernel
theorem dX12_walkerLine_282 : decode cX12_walkerLine 282 = .ok (.iload 6, 2) := by decide +kernel
theorem dX12_walkerLine_284 : decode cX12_walkerLine 284 = .ok (.iadd, 1) := by decide +kernel
theorem dX12_walkerLine_285 : decode cX12_walkerLine 285 = .ok (.iconst 5, 1) := by decide +kernel
theorem dX12_walkerLine_286 : decode cX12_walkerLine 286 = .ok (.iastore, 1) := by decide +kernel
theorem dX12_walkerLine_287 : decode cX12_walkerLine 287 = .ok (.iinc 7 1, 3) := by decide +kernel
theorem dX12_walkerLine_290 : decode cX12_walkerLine 290 = .ok (.goto (-46), 3) := by decide +kernel
theorem dX12_walkerLine_293 : decode cX12_walkerLine 293 = .ok (.aload_n 0, 1) := by decide +kernel
theorem dX12_walkerLine_294 : decode cX12_walkerLine 294 = .ok (.getfield 7, 3) := by decide +kernel
theorem dX12_walkerLine_297 : decode cX12_walkerLine 297 = .ok (.iconst 4, 1) := by decide +kernel
theorem dX12_walkerLine_298 : decode cX12_walkerLine 298 = .ok (.dup2, 1) := by decide +kernel
theorem dX12_walkerLine_299 : decode cX12_walkerLine 299 = .ok (.iaload, 1) := by decide +kernel
theorem dX12_walkerLine_300 : decode cX12_walkerLine 300 = .ok (.iconst 1, 1) := by decide +kernel
theorem dX12_walkerLine_301 : decode cX12_walkerLine 301 = .ok (.iadd, 1) := by decide +kernel
theorem dX12_walkerLine_302 : decode cX12_walkerLine 302 = .ok (.iastore, 1) := by decide +kernel
theorem dX12_walkerLine_303 : decode cX12_walkerLine 303 = .ok (.return_, 1) := by decide +kernel
theorem dX12_wayLine_0 : decode cX12_wayLine 0 = .ok (.aload_n 0, 1) := by decide +kernel
theorem dX12_wayLine_1 : decode cX12_wayLine 1 = .ok (.iconst 0, 1) := by decide +kernel
theorem dX12_wayLine_2 : decode cX12_wayLine 2 = .ok (.aload_n 0, 1) := by decide +kernel
theorem dX12_wayLine_3 : decode cX12_wayLine 3 = .ok (.getfield 7, 3) := by decide +kernel
theorem dX12_wayLine_6 : decode cX12_wayLine 6 = .ok (.iconst 3, 1) := by decide +kernel
theorem dX12_wayLine_7 : decode cX12_wayLine 7 = .ok (.iaload, 1) := by decide +kernel
theorem dX12_wayLine_8 : decode cX12_wayLine 8 = .ok (.iconst 1, 1) := by decide +kernel
theorem dX12_wayLine_9 : decode cX12_wayLine 9 = .ok (.isub, 1) := by decide +kernel
theorem dX12_wayLine_10 : decode cX12_wayLine 10 = .ok (.invokevirtual 104, 3) := by decide +kernel
theorem dX12_wayLine_13 : decode cX12_wayLine 13 = .ok (.istore_n 1, 1) := by decide +kernel
theorem dX12_wayLine_14 : decode cX12_wayLine 14 = .ok (.aload_n 0, 1) := by decide +kernel
theorem dX12_wayLine_15 : decode cX12_wayLine 15 = .ok (.invokevirtual 93, 3) := by decide +kernel
theorem dX12_wayLine_18 : decode cX12_wayLine 18 = .ok (.istore_n 2, 1) := by decide +kernel
theorem dX12_wayLine_19 : decode cX12_wayLine 19 = .ok (.aload_n 0, 1) := by decide +kernel
theorem dX12_wayLine_20 : decode cX12_wayLine 20 = .ok (.iconst 0, 1) := by decide +kernel
theorem dX12_wayLine_21 : decode cX12_wayLine 21 = .ok (.aload_n 0, 1) := by decide +kernel
theorem dX12_wayLine_22 : decode cX12_wayLine 22 = .ok (.getfield 7, 3) := by decide +kernel
theorem dX12_wayLine_25 : decode cX12_wayLine 25 = .ok (.iconst 3, 1) := by decide +kernel
theorem dX12_wayLine_26 : decode cX12_wayLine 26 = .ok (.iaload, 1) := by decide +kernel
theorem dX12_wayLine_27 : decode cX12_wayLine 27 = .ok (.iconst 1, 1) := by decide +kernel
theorem dX12_wayLine_28 : decode cX12_wayLine 28 = .ok (.isub, 1) := by decide +kernel
theorem dX12_wayLine_29 : decode cX12_wayLine 29 = .ok (.invokevirtual 104, 3) := by decide +kernel
theorem dX12_wayLine_32 : decode cX12_wayLine 32 = .ok (.istore_n 3, 1) := by decide +kernel
theorem dX12_wayLine_33 : decode cX12_wayLine 33 = .ok (.aload_n 0, 1) := by decide +kernel
theorem dX12_wayLine_34 : decode cX12_wayLine 34 = .ok (.getfield 25, 3) := by decide +kernel
theorem dX12_wayLine_37 : decode cX12_wayLine 37 = .ok (.iconst (-1), 1) := by decide +kernel
theorem dX12_wayLine_38 : decode cX12_wayLine 38 = .ok (.if_icmp .ne 13, 3) := by decide +kernel
theorem dX12_wayLine_41 : decode cX12_wayLine 41 = .ok (.iload_n 1, 1) := by decide +kernel
theorem dX12_wayLine_42 : decode cX12_wayLine 42 = .ok (.iload_n 3, 1) := by decide +kernel
theorem dX12_wayLine_43 : decode cX12_wayLine 43 = .ok (.if_icmp .ne 8, 3) := by decide +kernel
theorem dX12_wayLine_46 : decode cX12_wayLine 46 = .ok (.aload_n 0, 1) := by decide +kernel
theorem dX12_wayLine_47 : decode cX12_wayLine 47 = .ok (.iload_n 2, 1) := by decide +kernel
theorem dX12_wayLine_48 : decode cX12_wayLine 48 = .ok (.invokevirtual 96, 3) := by decide +kernel
theorem dX12_wayLine_51 : decode cX12_wayLine 51 = .ok (.aload_n 0, 1) := by decide +kernel
theorem dX12_wayLine_52 : decode cX12_wayLine 52 = .ok (.getfield 25, 3) := by decide +kernel
theorem dX12_wayLine_55 : decode cX12_wayLine 55 = .ok (.iconst (-1), 1) := by decide +kernel
theorem dX12_wayLine_56 : decode cX12_wayLine 56 = .ok (.if_icmp .ne 10, 3) := by decide +kernel
theorem dX12_wayLine_59 : decode cX12_wayLine 59 = .ok (.aload_n 0, 1) := by decide +kernel
theorem dX12_wayLine_60 : decode cX12_wayLine 60 = .ok (.iload_n 1, 1) := by decide +kernel
theorem dX12_wayLine_61 : decode cX12_wayLine 61 = .ok (.iload_n 3, 1) := by decide +kernel
theorem dX12_wayLine_62 : decode cX12_wayLine 62 = .ok (.iconst 1, 1) := by decide +kernel
theorem dX12_wayLine_63 : decode cX12_wayLine 63 = .ok (.invokevirtual 116, 3) := by decide +kernel
theorem dX12_wayLine_66 : decode cX12_wayLine 66 = .ok (.return_, 1) := by decide +kernel
theorem dX12_likesLine_0 : decode cX12_likesLine 0 = .ok (.aload_n 0, 1) := by decide +kernel
theorem dX12_likesLine_1 : decode cX12_likesLine 1 = .ok (.iconst 0, 1) := by decide +kernel
theorem dX12_likesLine_2 : decode cX12_likesLine 2 = .ok (.aload_n 0, 1) := by decide +kernel
theorem dX12_likesLine_3 : decode cX12_likesLine 3 = .ok (.getfield 7, 3) := by decide +kernel
theorem dX12_likesLine_6 : decode cX12_likesLine 6 = .ok (.iconst 4, 1) := by decide +kernel
theorem dX12_likesLine_7 : decode cX12_likesLine 7 = .ok (.iaload, 1) := by decide +kernel
theorem dX12_likesLine_8 : decode cX12_likesLine 8 = .ok (.iconst 1, 1) := by decide +kernel
theorem dX12_likesLine_9 : decode cX12_likesLine 9 = .ok (.isub, 1) := by decide +kernel
theorem dX12_likesLine_10 : decode cX12_likesLine 10 = .ok (.invokevirtual 104, 3) := by decide +kernel
theorem dX12_likesLine_13 : decode cX12_likesLine 13 = .ok (.istore_n 1, 1) := by decide +kernel
theorem dX12_likesLine_14 : decode cX12_likesLine 14 = .ok (.aload_n 0, 1) := by decide +kernel
theorem dX12_likesLine_15 : decode cX12_likesLine 15 = .ok (.invokevirtual 93, 3) := by decide +kernel
theorem dX12_likesLine_18 : decode cX12_likesLine 18 = .ok (.istore_n 2, 1) := by decide +kernel
theorem dX12_likesLine_19 : decode cX12_likesLine 19 = .ok (.aload_n 0, 1) := by decide +kernel
theorem dX12_likesLine_20 : decode cX12_likesLine 20 = .ok (.iconst 0, 1) := by decide +kernel
theorem dX12_likesLine_21 : decode cX12_likesLine 21 = .ok (.aload_n 0, 1) := by decide +kernel
theorem dX12_likesLine_22 : decode cX12_likesLine 22 = .ok (.getfield 7, 3) := by decide +kernel
theorem dX12_likesLine_25 : decode cX12_likesLine 25 = .ok (.iconst 4, 1) := by decide +kernel
theorem dX12_likesLine_26 : decode cX12_likesLine 26 = .ok (.iaload, 1) := by decide +kernel
theorem dX12_likesLine_27 : decode cX12_likesLine 27 = .ok (.iconst 1, 1) := by decide +kernel
theorem dX12_likesLine_28 : decode cX12_likesLine 28 = .ok (.isub, 1) := by decide +kernel
theorem dX12_likesLine_29 : decode cX12_likesLine 29 = .ok (.invokevirtual 104, 3) := by decide +kernel
theorem dX12_likesLine_32 : decode cX12_likesLine 32 = .ok (.istore_n 3, 1) := by decide +kernel
theorem dX12_likesLine_33 : decode cX12_likesLine 33 = .ok (.aload_n 0, 1) := by decide +kernel
theorem dX12_likesLine_34 : decode cX12_likesLine 34 = .ok (.getfield 25, 3) := by decide +kernel
theorem dX12_likesLine_37 : decode cX12_likesLine 37 = .ok (.iconst (-1), 1) := by decide +kernel
theorem dX12_likesLine_38 : decode cX12_likesLine 38 = .ok (.if_icmp .ne 13, 3) := by decide +kernel
theorem dX12_likesLine_41 : decode cX12_likesLine 41 = .ok (.iload_n 1, 1) := by decide +kernel
theorem dX12_likesLine_42 : decode cX12_likesLine 42 = .ok (.iload_n 3, 1) := by decide +kernel
theorem dX12_likesLine_43 : decode cX12_likesLine 43 = .ok (.if_icmp .ne 8, 3) := by decide +kernel
theorem dX12_likesLine_46 : decode cX12_likesLine 46 = .ok (.aload_n 0, 1) := by decide +kernel
theorem dX12_likesLine_47 : decode cX12_likesLine 47 = .ok (.iload_n 2, 1) := by decide +kernel
theorem dX12_likesLine_48 : decode cX12_likesLine 48 = .ok (.invokevirtual 96, 3) := by decide +kernel
theorem dX12_likesLine_51 : decode cX12_likesLine 51 = .ok (.aload_n 0, 1) := by decide +kernel
theorem dX12_likesLine_52 : decode cX12_likesLine 52 = .ok (.iconst 0, 1) := by decide +kernel
theorem dX12_likesLine_53 : decode cX12_likesLine 53 = .ok (.bipush 9, 2) := by decide +kernel
theorem dX12_likesLine_55 : decode cX12_likesLine 55 = .ok (.invokevirtual 104, 3) := by decide +kernel
theorem dX12_likesLine_58 : decode cX12_likesLine 58 = .ok (.istore 4, 2) := by decide +kernel
theorem dX12_likesLine_60 : decode cX12_likesLine 60 = .ok (.aload_n 0, 1) := by decide +kernel
theorem dX12_likesLine_61 : decode cX12_likesLine 61 = .ok (.getfield 25, 3) := by decide +kernel
theorem dX12_likesLine_64 : decode cX12_likesLine 64 = .ok (.iconst (-1), 1) := by decide +kernel
theorem dX12_likesLine_65 : decode cX12_likesLine 65 = .ok (.if_icmp .ne 20, 3) := by decide +kernel
theorem dX12_likesLine_68 : decode cX12_likesLine 68 = .ok (.aload_n 0, 1) := by decide +kernel
theorem dX12_likesLine_69 : decode cX12_likesLine 69 = .ok (.getfield 7, 3) := by decide +kernel
theorem dX12_likesLine_72 : decode cX12_likesLine 72 = .ok (.sipush 152, 3) := by decide +kernel
theorem dX12_likesLine_75 : decode cX12_likesLine 75 = .ok (.bipush 6, 2) := by decide +kernel
theorem dX12_likesLine_77 : decode cX12_likesLine 77 = .ok (.iload_n 1, 1) := by decide +kernel
theorem dX12_likesLine_78 : decode cX12_likesLine 78 = .ok (.imul, 1) := by decide +kernel
theorem dX12_likesLine_79 : decode cX12_likesLine 79 = .ok (.iadd, 1) := by decide +kernel
theorem dX12_likesLine_80 : decode cX12_likesLine 80 = .ok (.iload_n 3, 1) := by decide +kernel
theorem dX12_likesLine_81 : decode cX12_likesLine 81 = .ok (.iadd, 1) := by decide +kernel
theorem dX12_likesLine_82 : decode cX12_likesLine 82 = .ok (.iload 4, 2) := by decide +kernel
theorem dX12_likesLine_84 : decode cX12_likesLine 84 = .ok (.iastore, 1) := by decide +kernel
theorem dX12_likesLine_85 : decode cX12_likesLine 85 = .ok (.return_, 1) := by decide +kernel
theorem dX12_tells_0 : decode cX12_tells 0 = .ok (.aload_n 0, 1) := by decide +kernel
theorem dX12_tells_1 : decode cX12_tells 1 = .ok (.iload_n 2, 1) := by decide +kernel
theorem dX12_tells_2 : decode cX12_tells 2 = .ok (.iload_n 3, 1) := by decide +kernel
theorem dX12_tells_3 : decode cX12_tells 3 = .ok (.invokevirtual 104, 3) := by decide +kernel
theorem dX12_tells_6 : decode cX12_tells 6 = .ok (.istore 4, 2) := by decide +kernel
theorem dX12_tells_8 : decode cX12_tells 8 = .ok (.aload_n 0, 1) := by decide +kernel
theorem dX12_tells_9 : decode cX12_tells 9 = .ok (.getfield 25, 3) := by decide +kernel
theorem dX12_tells_12 : decode cX12_tells 12 = .ok (.iconst (-1), 1) := by decide +kernel
theorem dX12_tells_13 : decode cX12_tells 13 = .ok (.if_icmp .ne 11, 3) := by decide +kernel
theorem dX12_tells_16 : decode cX12_tells 16 = .ok (.aload_n 0, 1) := by decide +kernel
theorem dX12_tells_17 : decode cX12_tells 17 = .ok (.getfield 7, 3) := by decide +kernel
theorem dX12_tells_20 : decode cX12_tells 20 = .ok (.iload_n 1, 1) := by decide +kernel
theorem dX12_tells_21 : decode cX12_tells 21 = .ok (.iload 4, 2) := by decide +kernel
theorem dX12_tells_23 : decode cX12_tells 23 = .ok (.iastore, 1) := by decide +kernel
theorem dX12_tells_24 : decode cX12_tells 24 = .ok (.return_, 1) := by decide +kernel
theorem dX12_streetLine_0 : decode cX12_streetLine 0 = .ok (.aload_n 0, 1) := by decide +kernel
theorem dX12_streetLine_1 : decode cX12_streetLine 1 = .ok (.invokevirtual 93, 3) := by decide +kernel
theorem dX12_streetLine_4 : decode cX12_streetLine 4 = .ok (.istore_n 1, 1) := by decide +kernel
theorem dX12_streetLine_5 : decode cX12_streetLine 5 = .ok (.aload_n 0, 1) := by decide +kernel
theorem dX12_streetLine_6 : decode cX12_streetLine 6 = .ok (.ldc 133, 2) := by decide +kernel
theorem dX12_streetLine_8 : decode cX12_streetLine 8 = .ok (.invokevirtual 100, 3) := by decide +kernel
theorem dX12_streetLine_11 : decode cX12_streetLine 11 = .ok (.ifCond .eq 11, 3) := by decide +kernel
theorem dX12_streetLine_14 : decode cX12_streetLine 14 = .ok (.aload_n 0, 1) := by decide +kernel
theorem dX12_streetLine_15 : decode cX12_streetLine 15 = .ok (.iload_n 1, 1) := by decide +kernel
theorem dX12_streetLine_16 : decode cX12_streetLine 16 = .ok (.invokevirtual 135, 3) := by decide +kernel
theorem dX12_streetLine_19 : decode cX12_streetLine 19 = .ok (.goto 123, 3) := by decide +kernel
theorem dX12_streetLine_22 : decode cX12_streetLine 22 = .ok (.aload_n 0, 1) := by decide +kernel
theorem dX12_streetLine_23 : decode cX12_streetLine 23 = .ok (.ldc 138, 2) := by decide +kernel
theorem dX12_streetLine_25 : decode cX12_streetLine 25 = .ok (.invokevirtual 100, 3) := by decide +kernel
theorem dX12_streetLine_28 : decode cX12_streetLine 28 = .ok (.ifCond .eq 11, 3) := by decide +kernel
theorem dX12_streetLine_31 : decode cX12_streetLine 31 = .ok (.aload_n 0, 1) := by decide +kernel
theorem dX12_streetLine_32 : decode cX12_streetLine 32 = .ok (.iload_n 1, 1) := by decide +kernel
theorem dX12_streetLine_33 : decode cX12_streetLine 33 = .ok (.invokevirtual 140, 3) := by decide +kernel
theorem dX12_streetLine_36 : decode cX12_streetLine 36 = .ok (.goto 106, 3) := by decide +kernel
theorem dX12_streetLine_39 : decode cX12_streetLine 39 = .ok (.aload_n 0, 1) := by decide +kernel
theorem dX12_streetLine_40 : decode cX12_streetLine 40 = .ok (.ldc 143, 2) := by decide +kernel
theorem dX12_streetLine_42 : decode cX12_streetLine 42 = .ok (.invokevirtual 100, 3) := by decide +kernel
theorem dX12_streetLine_45 : decode cX12_streetLine 45 = .ok (.ifCond .eq 10, 3) := by decide +kernel
theorem dX12_streetLine_48 : decode cX12_streetLine 48 = .ok (.aload_n 0, 1) := by decide +kernel
theorem dX12_streetLine_49 : decode cX12_streetLine 49 = .ok (.invokevirtual 145, 3) := by decide +kernel
theorem dX12_streetLine_52 : decode cX12_streetLine 52 = .ok (.goto 90, 3) := by decide +kernel
theorem dX12_streetLine_55 : decode cX12_streetLine 55 = .ok (.aload_n 0, 1) := by decide +kernel
theorem dX12_streetLine_56 : decode cX12_streetLine 56 = .ok (.ldc 148, 2) := by decide +kernel
theorem dX12_streetLine_58 : decode cX12_streetLine 58 = .ok (.invokevirtual 100, 3) := by decide +kernel
theorem dX12_streetLine_61 : decode cX12_streetLine 61 = .ok (.ifCond .eq 10, 3) := by decide +kernel
theorem dX12_streetLine_64 : decode cX12_streetLine 64 = .ok (.aload_n 0, 1) := by decide +kernel
theorem dX12_streetLine_65 : decode cX12_streetLine 65 = .ok (.invokevirtual 150, 3) := by decide +kernel
theorem dX12_streetLine_68 : decode cX12_streetLine 68 = .ok (.goto 74, 3) := by decide +kernel
theorem dX12_streetLine_71 : decode cX12_streetLine 71 = .ok (.aload_n 0, 1) := by decide +kernel
theorem dX12_streetLine_72 : decode cX12_streetLine 72 = .ok (.ldc 153, 2) := by decide +kernel
theorem dX12_streetLine_74 : decode cX12_streetLine 74 = .ok (.invokevirtual 100, 3) := by decide +kernel
theorem dX12_streetLine_77 : decode cX12_streetLine 77 = .ok (.ifCond .eq 15, 3) := by decide +kernel
theorem dX12_streetLine_80 : decode cX12_streetLine 80 = .ok (.aload_n 0, 1) := by decide +kernel
theorem dX12_streetLine_81 : decode cX12_streetLine 81 = .ok (.bipush 7, 2) := by decide +kernel
theorem dX12_streetLine_83 : decode cX12_streetLine 83 = .ok (.iconst 0, 1) := by decide +kernel
theorem dX12_streetLine_84 : decode cX12_streetLine 84 = .ok (.bipush 100, 2) := by decide +kernel
theorem dX12_streetLine_86 : decode cX12_streetLine 86 = .ok (.invokevirtual 155, 3) := by decide +kernel
theorem dX12_streetLine_89 : decode cX12_streetLine 89 = .ok (.goto 53, 3) := by decide +kernel
theorem dX12_streetLine_92 : decode cX12_streetLine 92 = .ok (.aload_n 0, 1) := by decide +kernel
theorem dX12_streetLine_93 : decode cX12_streetLine 93 = .ok (.ldc 158, 2) := by decide +kernel
theorem dX12_streetLine_95 : decode cX12_streetLine 95 = .ok (.invokevirtual 100, 3) := by decide +kernel
theorem dX12_streetLine_98 : decode cX12_streetLine 98 = .ok (.ifCond .eq 14, 3) := by decide +kernel
theorem dX12_streetLine_101 : decode cX12_streetLine 101 = .ok (.aload_n 0, 1) := by decide +kernel
theorem dX12_streetLine_102 : decode cX12_streetLine 102 = .ok (.iconst 5, 1) := by decide +kernel
theorem dX12_streetLine_103 : decode cX12_streetLine 103 = .ok (.iconst 0, 1) := by decide +kernel
theorem dX12_streetLine_104 : decode cX12_streetLine 104 = .ok (.bipush 23, 2) := by decide +kernel
theorem dX12_streetLine_106 : decode cX12_streetLine 106 = .ok (.invokevirtual 155, 3) := by decide +kernel
theorem dX12_streetLine_109 : decode cX12_streetLine 109 = .ok (.goto 33, 3) := by decide +kernel
theorem dX12_streetLine_112 : decode cX12_streetLine 112 = .ok (.aload_n 0, 1) := by decide +kernel
theorem dX12_streetLine_113 : decode cX12_streetLine 113 = .ok (.ldc 160, 2) := by decide +kernel
theorem dX12_streetLine_115 : decode cX12_streetLine 115 = .ok (.invokevirtual 100, 3) := by decide +kernel
theorem dX12_streetLine_118 : decode cX12_streetLine 118 = .ok (.ifCond .eq 16, 3) := by decide +kernel
theorem dX12_streetLine_121 : decode cX12_streetLine 121 = .ok (.aload_n 0, 1) := by decide +kernel
theorem dX12_streetLine_122 : decode cX12_streetLine 122 = .ok (.bipush 6, 2) := by decide +kernel
theorem dX12_streetLine_124 : decode cX12_streetLine 124 = .ok (.iconst 0, 1) := by decide +kernel
theorem dX12_streetLine_125 : decode cX12_streetLine 125 = .ok (.sipush 999, 3) := by decide +kernel
theorem dX12_streetLine_128 : decode cX12_streetLine 128 = .ok (.invokevirtual 155, 3) := by decide +kernel
theorem dX12_streetLine_131 : decode cX12_streetLine 131 = .ok (.goto 11, 3) := by decide +kernel
theorem dX12_streetLine_134 : decode cX12_streetLine 134 = .ok (.aload_n 0, 1) := by decide +kernel
theorem dX12_streetLine_135 : decode cX12_streetLine 135 = .ok (.aload_n 0, 1) := by decide +kernel
theorem dX12_streetLine_136 : decode cX12_streetLine 136 = .ok (.getfield 71, 3) := by decide +kernel
theorem dX12_streetLine_139 : decode cX12_streetLine 139 = .ok (.invokevirtual 96, 3) := by decide +kernel
theorem dX12_streetLine_142 : decode cX12_streetLine 142 = .ok (.return_, 1) := by decide +kernel
theorem dX12_begins_0 : decode cX12_begins 0 = .ok (.aload_n 0, 1) := by decide +kernel
theorem dX12_begins_1 : decode cX12_begins 1 = .ok (.iconst (-1), 1) := by decide +kernel
theorem dX12_begins_2 : decode cX12_begins 2 = .ok (.putfield 25, 3) := by decide +kernel
theorem dX12_begins_5 : decode cX12_begins 5 = .ok (.aload_n 0, 1) := by decide +kernel
theorem dX12_begins_6 : decode cX12_begins 6 = .ok (.iconst (-1), 1) := by decide +kernel
theorem dX12_begins_7 : decode cX12_begins 7 = .ok (.putfield 68, 3) := by decide +kernel
theorem dX12_begins_10 : decode cX12_begins 10 = .ok (.aload_n 0, 1) := by decide +kernel
theorem dX12_begins_11 : decode cX12_begins 11 = .ok (.aload_n 0, 1) := by decide +kernel
theorem dX12_begins_12 : decode cX12_begins 12 = .ok (.getfield 65, 3) := by decide +kernel
theorem dX12_begins_15 : decode cX12_begins 15 = .ok (.putfield 74, 3) := by decide +kernel
theorem dX12_begins_18 : decode cX12_begins 18 = .ok (.aload_n 0, 1) := by decide +kernel
theorem dX12_begins_19 : decode cX12_begins 19 = .ok (.iconst 0, 1) := by decide +kernel
theorem dX12_begins_20 : decode cX12_begins 20 = .ok (.putfield 65, 3) := by decide +kernel
theorem dX12_begins_23 : decode cX12_begins 23 = .ok (.aload_n 0, 1) := by decide +kernel
theorem dX12_begins_24 : decode cX12_begins 24 = .ok (.iconst 0, 1) := by decide +kernel
theorem dX12_begins_25 : decode cX12_begins 25 = .ok (.putfield 71, 3) := by decide +kernel
theorem dX12_begins_28 : decode cX12_begins 28 = .ok (.aload_n 0, 1) := by decide +kernel
theorem dX12_begins_29 : decode cX12_begins 29 = .ok (.iconst 0, 1) := by decide +kernel
theorem dX12_begins_30 : decode cX12_begins 30 = .ok (.putfield 162, 3) := by decide +kernel
theorem dX12_begins_33 : decode cX12_begins 33 = .ok (.return_, 1) := by decide +kernel
theorem dX12_read_0 : decode cX12_read 0 = .ok (.aload_n 0, 1) := by decide +kernel
theorem dX12_read_1 : decode cX12_read 1 = .ok (.invokevirtual 80, 3) := by decide +kernel
theorem dX12_read_4 : decode cX12_read 4 = .ok (.aload_n 0, 1) := by decide +kernel
theorem dX12_read_5 : decode cX12_read 5 = .ok (.getfield 71, 3) := by decide +kernel
theorem dX12_read_8 : decode cX12_read 8 = .ok (.aload_n 0, 1) := by decide +kernel
theorem dX12_read_9 : decode cX12_read 9 = .ok (.getfield 74, 3) := by decide +kernel
theorem dX12_read_12 : decode cX12_read 12 = .ok (.if_icmp .ge 7, 3) := by decide +kernel
theorem dX12_read_15 : decode cX12_read 15 = .ok (.iconst 1, 1) := by decide +kernel
theorem dX12_read_16 : decode cX12_read 16 = .ok (.goto 4, 3) := by decide +kernel
theorem dX12_read_19 : decode cX12_read 19 = .ok (.iconst 0, 1) := by decide +kernel
theorem dX12_read_20 : decode cX12_read 20 = .ok (.istore_n 2, 1) := by decide +kernel
theorem dX12_read_21 : decode cX12_read 21 = .ok (.iconst 0, 1) := by decide +kernel
theorem dX12_read_22 : decode cX12_read 22 = .ok (.istore_n 3, 1) := by decide +kernel
theorem dX12_read_23 : decode cX12_read 23 = .ok (.iload_n 2, 1) := by decide +kernel
theorem dX12_read_24 : decode cX12_read 24 = .ok (.ifCond .eq 120, 3) := by decide +kernel
theorem dX12_read_27 : decode cX12_read 27 = .ok (.aload_n 0, 1) := by decide +kernel
theorem dX12_read_28 : decode cX12_read 28 = .ok (.getfield 25, 3) := by decide +kernel
theorem dX12_read_31 : decode cX12_read 31 = .ok (.iconst (-1), 1) := by decide +kernel
theorem dX12_read_32 : decode cX12_read 32 = .ok (.if_icmp .ne 112, 3) := by decide +kernel
theorem dX12_read_35 : decode cX12_read 35 = .ok (.aload_n 0, 1) := by decide +kernel
theorem dX12_read_36 : decode cX12_read 36 = .ok (.invokevirtual 80, 3) := by decide +kernel
theorem dX12_read_39 : decode cX12_read 39 = .ok (.iload_n 3, 1) := by decide +kernel
theorem dX12_read_40 : decode cX12_read 40 = .ok (.iload_n 1, 1) := by decide +kernel
theorem dX12_read_41 : decode cX12_read 41 = .ok (.ifCond .eq 8, 3) := by decide +kernel
theorem dX12_read_44 : decode cX12_read 44 = .ok (.bipush 12, 2) := by decide +kernel
theorem dX12_read_46 : decode cX12_read 46 = .ok (.goto 5, 3) := by decide +kernel
theorem dX12_read_49 : decode cX12_read 49 = .ok (.bipush 14, 2) := by decide +kernel
theorem dX12_read_51 : decode cX12_read 51 = .ok (.if_icmp .ne 14, 3) := by decide +kernel
theorem dX12_read_54 : decode cX12_read 54 = .ok (.aload_n 0, 1) := by decide +kernel
theorem dX12_read_55 : decode cX12_read 55 = .ok (.aload_n 0, 1) := by decide +kernel
theorem dX12_read_56 : decode cX12_read 56 = .ok (.getfield 71, 3) := by decide +kernel
theorem dX12_read_59 : decode cX12_read 59 = .ok (.invokevirtual 96, 3) := by decide +kernel
theorem dX12_read_62 : decode cX12_read 62 = .ok (.goto 18, 3) := by decide +kernel
theorem dX12_read_65 : decode cX12_read 65 = .ok (.iload_n 1, 1) := by decide +kernel
theorem dX12_read_66 : decode cX12_read 66 = .ok (.ifCond .eq 10, 3) := by decide +kernel
theorem dX12_read_69 : decode cX12_read 69 = .ok (.aload_n 0, 1) := by decide +kernel
theorem dX12_read_70 : decode cX12_read 70 = .ok (.invokevirtual 165, 3) := by decide +kernel
theorem dX12_read_73 : decode cX12_read 73 = .ok (.goto 7, 3) := by decide +kernel
theorem dX12_read_76 : decode cX12_read 76 = .ok (.aload_n 0, 1) := by decide +kernel
theorem dX12_read_77 : decode cX12_read 77 = .ok (.invokevirtual 168, 3) := by decide +kernel
theorem dX12_read_80 : decode cX12_read 80 = .ok (.iinc 3 1, 3) := by decide +kernel
theorem dX12_read_83 : decode cX12_read 83 = .ok (.aload_n 0, 1) := by decide +kernel
theorem dX12_read_84 : decode cX12_read 84 = .ok (.invokevirtual 80, 3) := by decide +kernel
theorem dX12_read_87 : decode cX12_read 87 = .ok (.aload_n 0, 1) := by decide +kernel
theorem dX12_read_88 : decode cX12_read 88 = .ok (.getfield 25, 3) := by decide +kernel
theorem dX12_read_91 : decode cX12_read 91 = .ok (.iconst (-1), 1) := by decide +kernel
theorem dX12_read_92 : decode cX12_read 92 = .ok (.if_icmp .ne 14, 3) := by decide +kernel
theorem dX12_read_95 : decode cX12_read 95 = .ok (.aload_n 0, 1) := by decide +kernel
theorem dX12_read_96 : decode cX12_read 96 = .ok (.getfield 71, 3) := by decide +kernel
theorem dX12_read_99 : decode cX12_read 99 = .ok (.aload_n 0, 1) := by decide +kernel
theorem dX12_read_100 : decode cX12_read 100 = .ok (.getfield 74, 3) := by decide +kernel
theorem dX12_read_103 : decode cX12_read 103 = .ok (.if_icmp .ne 8, 3) := by decide +kernel
theorem dX12_read_106 : decode cX12_read 106 = .ok (.iconst 0, 1) := by decide +kernel
theorem dX12_read_107 : decode cX12_read 107 = .ok (.istore_n 2, 1) := by decide +kernel
theorem dX12_read_108 : decode cX12_read 108 = .ok (.goto (-85), 3) := by decide +kernel
theorem dX12_read_111 : decode cX12_read 111 = .ok (.aload_n 0, 1) := by decide +kernel
theorem dX12_read_112 : decode cX12_read 112 = .ok (.bipush 59, 2) := by decide +kernel
theorem dX12_read_114 : decode cX12_read 114 = .ok (.invokevirtual 171, 3) := by decide +kernel
theorem dX12_read_117 : decode cX12_read 117 = .ok (.ifCond .eq 16, 3) := by decide +kernel
theorem dX12_read_120 : decode cX12_read 120 = .ok (.aload_n 0, 1) := by decide +kernel
theorem dX12_read_121 : decode cX12_read 121 = .ok (.dup, 1) := by decide +kernel
theorem dX12_read_122 : decode cX12_read 122 = .ok (.getfield 71, 3) := by decide +kernel
theorem dX12_read_125 : decode cX12_read 125 = .ok (.iconst 1, 1) := by decide +kernel
theorem dX12_read_126 : decode cX12_read 126 = .ok (.iadd, 1) := by decide +kernel
theorem dX12_read_127 : decode cX12_read 127 = .ok (.putfield 71, 3) := by decide +kernel
theorem dX12_read_130 : decode cX12_read 130 = .ok (.goto (-107), 3) := by decide +kernel
theorem dX12_read_133 : decode cX12_read 133 = .ok (.aload_n 0, 1) := by decide +kernel
theorem dX12_read_134 : decode cX12_read 134 = .ok (.aload_n 0, 1) := by decide +kernel
theorem dX12_read_135 : decode cX12_read 135 = .ok (.getfield 71, 3) := by decide +kernel
theorem dX12_read_138 : decode cX12_read 138 = .ok (.invokevirtual 96, 3) := by decide +kernel
theorem dX12_read_141 : decode cX12_read 141 = .ok (.goto (-118), 3) := by decide +kernel
theorem dX12_read_144 : decode cX12_read 144 = .ok (.iload_n 3, 1) := by decide +kernel
theorem dX12_read_145 : decode cX12_read 145 = .ok (.ireturn, 1) := by decide +kernel
theorem dX12_putsAside_0 : decode cX12_putsAside 0 = .ok (.iconst 0, 1) := by decide +kernel
theorem dX12_putsAside_1 : decode cX12_putsAside 1 = .ok (.istore_n 1, 1) := by decide +kernel
theorem dX12_putsAside_2 : decode cX12_putsAside 2 = .ok (.iload_n 1, 1) := by decide +kernel
theorem dX12_putsAside_3 : decode cX12_putsAside 3 = .ok (.sipush 488, 3) := by decide +kernel
theorem dX12_putsAside_6 : decode cX12_putsAside 6 = .ok (.if_icmp .ge 21, 3) := by decide +kernel
theorem dX12_putsAside_9 : decode cX12_putsAside 9 = .ok (.aload_n 0, 1) := by decide +kernel
theorem dX12_putsAside_10 : decode cX12_putsAside 10 = .ok (.getfield 16, 3) := by decide +kernel
theorem dX12_putsAside_13 : decode cX12_putsAside 13 = .ok (.iload_n 1, 1) := by decide +kernel
theorem dX12_putsAside_14 : decode cX12_putsAside 14 = .ok (.aload_n 0, 1) := by decide +kernel
theorem dX12_putsAside_15 : decode cX12_putsAside 15 = .ok (.getfield 7, 3) := by decide +kernel
theorem dX12_putsAside_18 : decode cX12_putsAside 18 = .ok (.iload_n 1, 1) := by decide +kernel
theorem dX12_putsAside_19 : decode cX12_putsAside 19 = .ok (.iaload, 1) := by decide +kernel
theorem dX12_putsAside_20 : decode cX12_putsAside 20 = .ok (.iastore, 1) := by decide +kernel
theorem dX12_putsAside_21 : decode cX12_putsAside 21 = .ok (.iinc 1 1, 3) := by decide +kernel
theorem dX12_putsAside_24 : decode cX12_putsAside 24 = .ok (.goto (-22), 3) := by decide +kernel
theorem dX12_putsAside_27 : decode cX12_putsAside 27 = .ok (.return_, 1) := by decide +kernel
theorem dX12_comesBack_0 : decode cX12_comesBack 0 = .ok (.iconst 0, 1) := by decide +kernel
theorem dX12_comesBack_1 : decode cX12_comesBack 1 = .ok (.istore_n 1, 1) := by decide +kernel
theorem dX12_comesBack_2 : decode cX12_comesBack 2 = .ok (.iload_n 1, 1) := by decide +kernel
theorem dX12_comesBack_3 : decode cX12_comesBack 3 = .ok (.sipush 488, 3) := by decide +kernel
theorem dX12_comesBack_6 : decode cX12_comesBack 6 = .ok (.if_icmp .ge 21, 3) := by decide +kernel
theorem dX12_comesBack_9 : decode cX12_comesBack 9 = .ok (.aload_n 0, 1) := by decide +kernel
theorem dX12_comesBack_10 : decode cX12_comesBack 10 = .ok (.getfield 7, 3) := by decide +kernel
theorem dX12_comesBack_13 : decode cX12_comesBack 13 = .ok (.iload_n 1, 1) := by decide +kernel
theorem dX12_comesBack_14 : decode cX12_comesBack 14 = .ok (.aload_n 0, 1) := by decide +kernel
theorem dX12_comesBack_15 : decode cX12_comesBack 15 = .ok (.getfield 16, 3) := by decide +kernel
theorem dX12_comesBack_18 : decode cX12_comesBack 18 = .ok (.iload_n 1, 1) := by decide +kernel
theorem dX12_comesBack_19 : decode cX12_comesBack 19 = .ok (.iaload, 1) := by decide +kernel
theorem dX12_comesBack_20 : decode cX12_comesBack 20 = .ok (.iastore, 1) := by decide +kernel
theorem dX12_comesBack_21 : decode cX12_comesBack 21 = .ok (.iinc 1 1, 3) := by decide +kernel
theorem dX12_comesBack_24 : decode cX12_comesBack 24 = .ok (.goto (-22), 3) := by decide +kernel
theorem dX12_comesBack_27 : decode cX12_comesBack 27 = .ok (.return_, 1) := by decide +kernel
theorem dX12_street_0 : decode cX12_street 0 = .ok (.aload_n 0, 1) := by decide +kernel
theorem dX12_street_1 : decode cX12_street 1 = .ok (.invokevirtual 175, 3) := by decide +kernel
theorem dX12_street_4 : decode cX12_street 4 = .ok (.aload_n 0, 1) := by decide +kernel
theorem dX12_street_5 : decode cX12_street 5 = .ok (.invokevirtual 178, 3) := by decide +kernel
theorem dX12_street_8 : decode cX12_street 8 = .ok (.aload_n 0, 1) := by decide +kernel
theorem dX12_street_9 : decode cX12_street 9 = .ok (.iconst 0, 1) := by decide +kernel
theorem dX12_street_10 : decode cX12_street 10 = .ok (.invokevirtual 181, 3) := by decide +kernel
theorem dX12_street_13 : decode cX12_street 13 = .ok (.istore_n 1, 1) := by decide +kernel
theorem dX12_street_14 : decode cX12_street 14 = .ok (.aload_n 0, 1) := by decide +kernel
theorem dX12_street_15 : decode cX12_street 15 = .ok (.aload_n 0, 1) := by decide +kernel
theorem dX12_street_16 : decode cX12_street 16 = .ok (.getfield 25, 3) := by decide +kernel
theorem dX12_street_19 : decode cX12_street 19 = .ok (.iconst (-1), 1) := by decide +kernel
theorem dX12_street_20 : decode cX12_street 20 = .ok (.if_icmp .eq 7, 3) := by decide +kernel
theorem dX12_street_23 : decode cX12_street 23 = .ok (.iconst 1, 1) := by decide +kernel
theorem dX12_street_24 : decode cX12_street 24 = .ok (.goto 19, 3) := by decide +kernel
theorem dX12_street_27 : decode cX12_street 27 = .ok (.aload_n 0, 1) := by decide +kernel
theorem dX12_street_28 : decode cX12_street 28 = .ok (.getfield 7, 3) := by decide +kernel
theorem dX12_street_31 : decode cX12_street 31 = .ok (.iconst 0, 1) := by decide +kernel
theorem dX12_street_32 : decode cX12_street 32 = .ok (.iaload, 1) := by decide +kernel
theorem dX12_street_33 : decode cX12_street 33 = .ok (.bipush 12, 2) := by decide +kernel
theorem dX12_street_35 : decode cX12_street 35 = .ok (.if_icmp .ne 7, 3) := by decide +kernel
theorem dX12_street_38 : decode cX12_street 38 = .ok (.iconst 2, 1) := by decide +kernel
theorem dX12_street_39 : decode cX12_street 39 = .ok (.goto 4, 3) := by decide +kernel
theorem dX12_street_42 : decode cX12_street 42 = .ok (.iconst 0, 1) := by decide +kernel
theorem dX12_street_43 : decode cX12_street 43 = .ok (.putfield 47, 3) := by decide +kernel
theorem dX12_street_46 : decode cX12_street 46 = .ok (.aload_n 0, 1) := by decide +kernel
theorem dX12_street_47 : decode cX12_street 47 = .ok (.getfield 47, 3) := by decide +kernel
theorem dX12_street_50 : decode cX12_street 50 = .ok (.ifCond .le 9, 3) := by decide +kernel
theorem dX12_street_53 : decode cX12_street 53 = .ok (.aload_n 0, 1) := by decide +kernel
theorem dX12_street_54 : decode cX12_street 54 = .ok (.invokevirtual 185, 3) := by decide +kernel
theorem dX12_street_57 : decode cX12_street 57 = .ok (.iconst 0, 1) := by decide +kernel
theorem dX12_street_58 : decode cX12_street 58 = .ok (.ireturn, 1) := by decide +kernel
theorem dX12_street_59 : decode cX12_street 59 = .ok (.aload_n 0, 1) := by decide +kernel
theorem dX12_street_60 : decode cX12_street 60 = .ok (.getfield 7, 3) := by decide +kernel
theorem dX12_street_63 : decode cX12_street 63 = .ok (.iconst 0, 1) := by decide +kernel
theorem dX12_street_64 : decode cX12_street 64 = .ok (.dup2, 1) := by decide +kernel
theorem dX12_street_65 : decode cX12_street 65 = .ok (.iaload, 1) := by decide +kernel
theorem dX12_street_66 : decode cX12_street 66 = .ok (.iconst 1, 1) := by decide +kernel
theorem dX12_street_67 : decode cX12_street 67 = .ok (.iadd, 1) := by decide +kernel
theorem dX12_street_68 : decode cX12_street 68 = .ok (.iastore, 1) := by decide +kernel
theorem dX12_street_69 : decode cX12_street 69 = .ok (.aload_n 0, 1) := by decide +kernel
theorem dX12_street_70 : decode cX12_street 70 = .ok (.iconst 0, 1) := by decide +kernel
theorem dX12_street_71 : decode cX12_street 71 = .ok (.putfield 188, 3) := by decide +kernel
theorem dX12_street_74 : decode cX12_street 74 = .ok (.aload_n 0, 1) := by decide +kernel
theorem dX12_street_75 : decode cX12_street 75 = .ok (.getfield 7, 3) := by decide +kernel
theorem dX12_street_78 : decode cX12_street 78 = .ok (.iconst 0, 1) := by decide +kernel
theorem dX12_street_79 : decode cX12_street 79 = .ok (.iaload, 1) := by decide +kernel
theorem dX12_street_80 : decode cX12_street 80 = .ok (.ireturn, 1) := by decide +kernel
theorem dX12_part_0 : decode cX12_part 0 = .ok (.aload_n 0, 1) := by decide +kernel
theorem dX12_part_1 : decode cX12_part 1 = .ok (.getfield 25, 3) := by decide +kernel
theorem dX12_part_4 : decode cX12_part 4 = .ok (.iconst (-1), 1) := by decide +kernel
theorem dX12_part_5 : decode cX12_part 5 = .ok (.if_icmp .eq 5, 3) := by decide +kernel
theorem dX12_part_8 : decode cX12_part 8 = .ok (.iconst 0, 1) := by decide +kernel
theorem dX12_part_9 : decode cX12_part 9 = .ok (.ireturn, 1) := by decide +kernel
theorem dX12_part_10 : decode cX12_part 10 = .ok (.aload_n 0, 1) := by decide +kernel
theorem dX12_part_11 : decode cX12_part 11 = .ok (.invokevirtual 80, 3) := by decide +kernel
theorem dX12_part_14 : decode cX12_part 14 = .ok (.aload_n 0, 1) := by decide +kernel
theorem dX12_part_15 : decode cX12_part 15 = .ok (.getfield 71, 3) := by decide +kernel
theorem dX12_part_18 : decode cX12_part 18 = .ok (.aload_n 0, 1) := by decide +kernel
theorem dX12_part_19 : decode cX12_part 19 = .ok (.getfield 74, 3) := by decide +kernel
theorem dX12_part_22 : decode cX12_part 22 = .ok (.if_icmp .ge 30, 3) := by decide +kernel
theorem dX12_part_25 : decode cX12_part 25 = .ok (.aload_n 0, 1) := by decide +kernel
theorem dX12_part_26 : decode cX12_part 26 = .ok (.aload_n 0, 1) := by decide +kernel
theorem dX12_part_27 : decode cX12_part 27 = .ok (.getfield 71, 3) := by decide +kernel
theorem dX12_part_30 : decode cX12_part 30 = .ok (.invokevirtual 77, 3) := by decide +kernel
theorem dX12_part_33 : decode cX12_part 33 = .ok (.bipush 48, 2) := by decide +kernel
theorem dX12_part_35 : decode cX12_part 35 = .ok (.bipush 57, 2) := by decide +kernel
theorem dX12_part_37 : decode cX12_part 37 = .ok (.invokestatic 50, 3) := by decide +kernel
theorem dX12_part_40 : decode cX12_part 40 = .ok (.ifCond .eq 12, 3) := by decide +kernel
theorem dX12_part_43 : decode cX12_part 43 = .ok (.aload_n 0, 1) := by decide +kernel
theorem dX12_part_44 : decode cX12_part 44 = .ok (.iconst 0, 1) := by decide +kernel
theorem dX12_part_45 : decode cX12_part 45 = .ok (.sipush 999, 3) := by decide +kernel
theorem dX12_part_48 : decode cX12_part 48 = .ok (.invokevirtual 104, 3) := by decide +kernel
theorem dX12_part_51 : decode cX12_part 51 = .ok (.ireturn, 1) := by decide +kernel
theorem dX12_part_52 : decode cX12_part 52 = .ok (.aload_n 0, 1) := by decide +kernel
theorem dX12_part_53 : decode cX12_part 53 = .ok (.ldc 138, 2) := by decide +kernel
theorem dX12_part_55 : decode cX12_part 55 = .ok (.invokevirtual 100, 3) := by decide +kernel
theorem dX12_part_58 : decode cX12_part 58 = .ok (.ifCond .eq 7, 3) := by decide +kernel
theorem dX12_part_61 : decode cX12_part 61 = .ok (.iconst 0, 1) := by decide +kernel
theorem dX12_part_62 : decode cX12_part 62 = .ok (.goto 83, 3) := by decide +kernel
theorem dX12_part_65 : decode cX12_part 65 = .ok (.aload_n 0, 1) := by decide +kernel
theorem dX12_part_66 : decode cX12_part 66 = .ok (.ldc 133, 2) := by decide +kernel
theorem dX12_part_68 : decode cX12_part 68 = .ok (.invokevirtual 100, 3) := by decide +kernel
theorem dX12_part_71 : decode cX12_part 71 = .ok (.ifCond .eq 7, 3) := by decide +kernel
theorem dX12_part_74 : decode cX12_part 74 = .ok (.iconst 1, 1) := by decide +kernel
theorem dX12_part_75 : decode cX12_part 75 = .ok (.goto 70, 3) := by decide +kernel
theorem dX12_part_78 : decode cX12_part 78 = .ok (.aload_n 0, 1) := by decide +kernel
theorem dX12_part_79 : decode cX12_part 79 = .ok (.ldc 108, 2) := by decide +kernel
theorem dX12_part_81 : decode cX12_part 81 = .ok (.invokevirtual 100, 3) := by decide +kernel
theorem dX12_part_84 : decode cX12_part 84 = .ok (.ifCond .eq 7, 3) := by decide +kernel
theorem dX12_part_87 : decode cX12_part 87 = .ok (.iconst 2, 1) := by decide +kernel
theorem dX12_part_88 : decode cX12_part 88 = .ok (.goto 57, 3) := by decide +kernel
theorem dX12_part_91 : decode cX12_part 91 = .ok (.aload_n 0, 1) := by decide +kernel
theorem dX12_part_92 : decode cX12_part 92 = .ok (.ldc 191, 2) := by decide +kernel
theorem dX12_part_94 : decode cX12_part 94 = .ok (.invokevirtual 100, 3) := by decide +kernel
theorem dX12_part_97 : decode cX12_part 97 = .ok (.ifCond .eq 7, 3) := by decide +kernel
theorem dX12_part_100 : decode cX12_part 100 = .ok (.iconst 3, 1) := by decide +kernel
theorem dX12_part_101 : decode cX12_part 101 = .ok (.goto 44, 3) := by decide +kernel
theorem dX12_part_104 : decode cX12_part 104 = .ok (.aload_n 0, 1) := by decide +kernel
theorem dX12_part_105 : decode cX12_part 105 = .ok (.ldc 124, 2) := by decide +kernel
theorem dX12_part_107 : decode cX12_part 107 = .ok (.invokevirtual 100, 3) := by decide +kernel
theorem dX12_part_110 : decode cX12_part 110 = .ok (.ifCond .eq 7, 3) := by decide +kernel
theorem dX12_part_113 : decode cX12_part 113 = .ok (.iconst 4, 1) := by decide +kernel
theorem dX12_part_114 : decode cX12_part 114 = .ok (.goto 31, 3) := by decide +kernel
theorem dX12_part_117 : decode cX12_part 117 = .ok (.aload_n 0, 1) := by decide +kernel
theorem dX12_part_118 : decode cX12_part 118 = .ok (.ldc 148, 2) := by decide +kernel
theorem dX12_part_120 : decode cX12_part 120 = .ok (.invokevirtual 100, 3) := by decide +kernel
theorem dX12_part_123 : decode cX12_part 123 = .ok (.ifCond .eq 7, 3) := by decide +kernel
theorem dX12_part_126 : decode cX12_part 126 = .ok (.iconst 5, 1) := by decide +kernel
theorem dX12_part_127 : decode cX12_part 127 = .ok (.goto 18, 3) := by decide +kernel
theorem dX12_part_130 : decode cX12_part 130 = .ok (.aload_n 0, 1) := by decide +kernel
theorem dX12_part_131 : decode cX12_part 131 = .ok (.ldc 158, 2) := by decide +kernel
theorem dX12_part_133 : decode cX12_part 133 = .ok (.invokevirtual 100, 3) := by decide +kernel
theorem dX12_part_136 : decode cX12_part 136 = .ok (.ifCond .eq 8, 3) := by decide +kernel
theorem dX12_part_139 : decode cX12_part 139 = .ok (.bipush 6, 2) := by decide +kernel
theorem dX12_part_141 : decode cX12_part 141 = .ok (.goto 4, 3) := by decide +kernel
theorem dX12_part_144 : decode cX12_part 144 = .ok (.iconst (-1), 1) := by decide +kernel
theorem dX12_part_145 : decode cX12_part 145 = .ok (.istore_n 1, 1) := by decide +kernel
theorem dX12_part_146 : decode cX12_part 146 = .ok (.iload_n 1, 1) := by decide +kernel
theorem dX12_part_147 : decode cX12_part 147 = .ok (.iconst (-1), 1) := by decide +kernel
theorem dX12_part_148 : decode cX12_part 148 = .ok (.if_icmp .ne 13, 3) := by decide +kernel
theorem dX12_part_151 : decode cX12_part 151 = .ok (.aload_n 0, 1) := by decide +kernel
theorem dX12_part_152 : decode cX12_part 152 = .ok (.aload_n 0, 1) := by decide +kernel
theorem dX12_part_153 : decode cX12_part 153 = .ok (.getfield 71, 3) := by decide +kernel
theorem dX12_part_156 : decode cX12_part 156 = .ok (.invokevirtual 96, 3) := by decide +kernel
theorem dX12_part_159 : decode cX12_part 159 = .ok (.iconst 0, 1) := by decide +kernel
theorem dX12_part_160 : decode cX12_part 160 = .ok (.ireturn, 1) := by decide +kernel
theorem dX12_part_161 : decode cX12_part 161 = .ok (.aload_n 0, 1) := by decide +kernel
theorem dX12_part_162 : decode cX12_part 162 = .ok (.getfield 29, 3) := by decide +kernel
theorem dX12_part_165 : decode cX12_part 165 = .ok (.iload_n 1, 1) := by decide +kernel
theorem dX12_part_166 : decode cX12_part 166 = .ok (.iaload, 1) := by decide +kernel
theorem dX12_part_167 : decode cX12_part 167 = .ok (.ireturn, 1) := by decide +kernel
theorem dX12_sum_0 : decode cX12_sum 0 = .ok (.aload_n 0, 1) := by decide +kernel
theorem dX12_sum_1 : decode cX12_sum 1 = .ok (.invokevirtual 193, 3) := by decide +kernel
theorem dX12_sum_4 : decode cX12_sum 4 = .ok (.istore_n 1, 1) := by decide +kernel
theorem dX12_sum_5 : decode cX12_sum 5 = .ok (.aload_n 0, 1) := by decide +kernel
theorem dX12_sum_6 : decode cX12_sum 6 = .ok (.getfield 25, 3) := by decide +kernel
theorem dX12_sum_9 : decode cX12_sum 9 = .ok (.iconst (-1), 1) := by decide +kernel
theorem dX12_sum_10 : decode cX12_sum 10 = .ok (.if_icmp .ne 32, 3) := by decide +kernel
theorem dX12_sum_13 : decode cX12_sum 13 = .ok (.aload_n 0, 1) := by decide +kernel
theorem dX12_sum_14 : decode cX12_sum 14 = .ok (.bipush 43, 2) := by decide +kernel
theorem dX12_sum_16 : decode cX12_sum 16 = .ok (.invokevirtual 171, 3) := by decide +kernel
theorem dX12_sum_19 : decode cX12_sum 19 = .ok (.ifCond .eq 23, 3) := by decide +kernel
theorem dX12_sum_22 : decode cX12_sum 22 = .ok (.aload_n 0, 1) := by decide +kernel
theorem dX12_sum_23 : decode cX12_sum 23 = .ok (.dup, 1) := by decide +kernel
theorem dX12_sum_24 : decode cX12_sum 24 = .ok (.getfield 71, 3) := by decide +kernel
theorem dX12_sum_27 : decode cX12_sum 27 = .ok (.iconst 1, 1) := by decide +kernel
theorem dX12_sum_28 : decode cX12_sum 28 = .ok (.iadd, 1) := by decide +kernel
theorem dX12_sum_29 : decode cX12_sum 29 = .ok (.putfield 71, 3) := by decide +kernel
theorem dX12_sum_32 : decode cX12_sum 32 = .ok (.iload_n 1, 1) := by decide +kernel
theorem dX12_sum_33 : decode cX12_sum 33 = .ok (.aload_n 0, 1) := by decide +kernel
theorem dX12_sum_34 : decode cX12_sum 34 = .ok (.invokevirtual 193, 3) := by decide +kernel
theorem dX12_sum_37 : decode cX12_sum 37 = .ok (.iadd, 1) := by decide +kernel
theorem dX12_sum_38 : decode cX12_sum 38 = .ok (.istore_n 1, 1) := by decide +kernel
theorem dX12_sum_39 : decode cX12_sum 39 = .ok (.goto (-34), 3) := by decide +kernel
theorem dX12_sum_42 : decode cX12_sum 42 = .ok (.iload_n 1, 1) := by decide +kernel
theorem dX12_sum_43 : decode cX12_sum 43 = .ok (.ireturn, 1) := by decide +kernel
theorem dX12_plain_0 : decode cX12_plain 0 = .ok (.aload_n 0, 1) := by decide +kernel
theorem dX12_plain_1 : decode cX12_plain 1 = .ok (.ldc 196, 2) := by decide +kernel
theorem dX12_plain_3 : decode cX12_plain 3 = .ok (.invokevirtual 100, 3) := by decide +kernel
theorem dX12_plain_6 : decode cX12_plain 6 = .ok (.ifCond .eq 8, 3) := by decide +kernel
theorem dX12_plain_9 : decode cX12_plain 9 = .ok (.aload_n 0, 1) := by decide +kernel
theorem dX12_plain_10 : decode cX12_plain 10 = .ok (.getfield 198, 3) := by decide +kernel
theorem dX12_plain_13 : decode cX12_plain 13 = .ok (.ireturn, 1) := by decide +kernel
theorem dX12_plain_14 : decode cX12_plain 14 = .ok (.aload_n 0, 1) := by decide +kernel
theorem dX12_plain_15 : decode cX12_plain 15 = .ok (.ldc 202, 2) := by decide +kernel
theorem dX12_plain_17 : decode cX12_plain 17 = .ok (.invokevirtual 100, 3) := by decide +kernel
theorem dX12_plain_20 : decode cX12_plain 20 = .ok (.ifCond .eq 20, 3) := by decide +kernel
theorem dX12_plain_23 : decode cX12_plain 23 = .ok (.aload_n 0, 1) := by decide +kernel
theorem dX12_plain_24 : decode cX12_plain 24 = .ok (.getfield 7, 3) := by decide +kernel
theorem dX12_plain_27 : decode cX12_plain 27 = .ok (.bipush 8, 2) := by decide +kernel
theorem dX12_plain_29 : decode cX12_plain 29 = .ok (.iaload, 1) := by decide +kernel
theorem dX12_plain_30 : decode cX12_plain 30 = .ok (.iconst 1, 1) := by decide +kernel
theorem dX12_plain_31 : decode cX12_plain 31 = .ok (.if_icmp .ne 7, 3) := by decide +kernel
theorem dX12_plain_34 : decode cX12_plain 34 = .ok (.iconst 1, 1) := by decide +kernel
theorem dX12_plain_35 : decode cX12_plain 35 = .ok (.goto 4, 3) := by decide +kernel
theorem dX12_plain_38 : decode cX12_plain 38 = .ok (.iconst 0, 1) := by decide +kernel
theorem dX12_plain_39 : decode cX12_plain 39 = .ok (.ireturn, 1) := by decide +kernel
theorem dX12_plain_40 : decode cX12_plain 40 = .ok (.aload_n 0, 1) := by decide +kernel
theorem dX12_plain_41 : decode cX12_plain 41 = .ok (.invokevirtual 204, 3) := by decide +kernel
theorem dX12_plain_44 : decode cX12_plain 44 = .ok (.istore_n 1, 1) := by decide +kernel
theorem dX12_plain_45 : decode cX12_plain 45 = .ok (.aload_n 0, 1) := by decide +kernel
theorem dX12_plain_46 : decode cX12_plain 46 = .ok (.getfield 25, 3) := by decide +kernel
theorem dX12_plain_49 : decode cX12_plain 49 = .ok (.iconst (-1), 1) := by decide +kernel
theorem dX12_plain_50 : decode cX12_plain 50 = .ok (.if_icmp .eq 5, 3) := by decide +kernel
theorem dX12_plain_53 : decode cX12_plain 53 = .ok (.iconst 0, 1) := by decide +kernel
theorem dX12_plain_54 : decode cX12_plain 54 = .ok (.ireturn, 1) := by decide +kernel
theorem dX12_plain_55 : decode cX12_plain 55 = .ok (.aload_n 0, 1) := by decide +kernel
theorem dX12_plain_56 : decode cX12_plain 56 = .ok (.bipush 60, 2) := by decide +kernel
theorem dX12_plain_58 : decode cX12_plain 58 = .ok (.invokevirtual 171, 3) := by decide +kernel
theorem dX12_plain_61 : decode cX12_plain 61 = .ok (.istore_n 2, 1) := by decide +kernel
theorem dX12_plain_62 : decode cX12_plain 62 = .ok (.iload_n 2, 1) := by decide +kernel
theorem dX12_plain_63 : decode cX12_plain 63 = .ok (.ifCond .ne 22, 3) := by decide +kernel
theorem dX12_plain_66 : decode cX12_plain 66 = .ok (.aload_n 0, 1) := by decide +kernel
theorem dX12_plain_67 : decode cX12_plain 67 = .ok (.bipush 62, 2) := by decide +kernel
theorem dX12_plain_69 : decode cX12_plain 69 = .ok (.invokevirtual 171, 3) := by decide +kernel
theorem dX12_plain_72 : decode cX12_plain 72 = .ok (.ifCond .ne 13, 3) := by decide +kernel
theorem dX12_plain_75 : decode cX12_plain 75 = .ok (.aload_n 0, 1) := by decide +kernel
theorem dX12_plain_76 : decode cX12_plain 76 = .ok (.aload_n 0, 1) := by decide +kernel
theorem dX12_plain_77 : decode cX12_plain 77 = .ok (.getfield 71, 3) := by decide +kernel
theorem dX12_plain_80 : decode cX12_plain 80 = .ok (.invokevirtual 96, 3) := by decide +kernel
theorem dX12_plain_83 : decode cX12_plain 83 = .ok (.iconst 0, 1) := by decide +kernel
theorem dX12_plain_84 : decode cX12_plain 84 = .ok (.ireturn, 1) := by decide +kernel
theorem dX12_plain_85 : decode cX12_plain 85 = .ok (.aload_n 0, 1) := by decide +kernel
theorem dX12_plain_86 : decode cX12_plain 86 = .ok (.dup, 1) := by decide +kernel
theorem dX12_plain_87 : decode cX12_plain 87 = .ok (.getfield 71, 3) := by decide +kernel
theorem dX12_plain_90 : decode cX12_plain 90 = .ok (.iconst 1, 1) := by decide +kernel
theorem dX12_plain_91 : decode cX12_plain 91 = .ok (.iadd, 1) := by decide +kernel
theorem dX12_plain_92 : decode cX12_plain 92 = .ok (.putfield 71, 3) := by decide +kernel
theorem dX12_plain_95 : decode cX12_plain 95 = .ok (.aload_n 0, 1) := by decide +kernel
theorem dX12_plain_96 : decode cX12_plain 96 = .ok (.invokevirtual 204, 3) := by decide +kernel
theorem dX12_plain_99 : decode cX12_plain 99 = .ok (.istore_n 3, 1) := by decide +kernel
theorem dX12_plain_100 : decode cX12_plain 100 = .ok (.iload_n 2, 1) := by decide +kernel
theorem dX12_plain_101 : decode cX12_plain 101 = .ok (.ifCond .eq 16, 3) := by decide +kernel
theorem dX12_plain_104 : decode cX12_plain 104 = .ok (.iload_n 1, 1) := by decide +kernel
theorem dX12_plain_105 : decode cX12_plain 105 = .ok (.iload_n 3, 1) := by decide +kernel
theorem dX12_plain_106 : decode cX12_plain 106 = .ok (.if_icmp .ge 7, 3) := by decide +kernel
theorem dX12_plain_109 : decode cX12_plain 109 = .ok (.iconst 1, 1) := by decide +kernel
theorem dX12_plain_110 : decode cX12_plain 110 = .ok (.goto 17, 3) := by decide +kernel
theorem dX12_plain_113 : decode cX12_plain 113 = .ok (.iconst 0, 1) := by decide +kernel
theorem dX12_plain_114 : decode cX12_plain 114 = .ok (.goto 13, 3) := by decide +kernel
theorem dX12_plain_117 : decode cX12_plain 117 = .ok (.iload_n 1, 1) := by decide +kernel
theorem dX12_plain_118 : decode cX12_plain 118 = .ok (.iload_n 3, 1) := by decide +kernel
theorem dX12_plain_119 : decode cX12_plain 119 = .ok (.if_icmp .le 7, 3) := by decide +kernel
theorem dX12_plain_122 : decode cX12_plain 122 = .ok (.iconst 1, 1) := by decide +kernel
theorem dX12_plain_123 : decode cX12_plain 123 = .ok (.goto 4, 3) := by decide +kernel
theorem dX12_plain_126 : decode cX12_plain 126 = .ok (.iconst 0, 1) := by decide +kernel
theorem dX12_plain_127 : decode cX12_plain 127 = .ok (.ireturn, 1) := by decide +kernel
theorem dX12_atom_0 : decode cX12_atom 0 = .ok (.aload_n 0, 1) := by decide +kernel
theorem dX12_atom_1 : decode cX12_atom 1 = .ok (.getfield 25, 3) := by decide +kernel
theorem dX12_atom_4 : decode cX12_atom 4 = .ok (.iconst (-1), 1) := by decide +kernel
theorem dX12_atom_5 : decode cX12_atom 5 = .ok (.if_icmp .eq 5, 3) := by decide +kernel
theorem dX12_atom_8 : decode cX12_atom 8 = .ok (.iconst 0, 1) := by decide +kernel
theorem dX12_atom_9 : decode cX12_atom 9 = .ok (.ireturn, 1) := by decide +kernel
theorem dX12_atom_10 : decode cX12_atom 10 = .ok (.aload_n 0, 1) := by decide +kernel
theorem dX12_atom_11 : decode cX12_atom 11 = .ok (.invokevirtual 93, 3) := by decide +kernel
theorem dX12_atom_14 : decode cX12_atom 14 = .ok (.istore_n 1, 1) := by decide +kernel
theorem dX12_atom_15 : decode cX12_atom 15 = .ok (.aload_n 0, 1) := by decide +kernel
theorem dX12_atom_16 : decode cX12_atom 16 = .ok (.ldc 207, 2) := by decide +kernel
theorem dX12_atom_18 : decode cX12_atom 18 = .ok (.invokevirtual 100, 3) := by decide +kernel
theorem dX12_atom_21 : decode cX12_atom 21 = .ok (.istore_n 2, 1) := by decide +kernel
theorem dX12_atom_22 : decode cX12_atom 22 = .ok (.iload_n 2, 1) := by decide +kernel
theorem dX12_atom_23 : decode cX12_atom 23 = .ok (.ifCond .ne 17, 3) := by decide +kernel
theorem dX12_atom_26 : decode cX12_atom 26 = .ok (.aload_n 0, 1) := by decide +kernel
theorem dX12_atom_27 : decode cX12_atom 27 = .ok (.bipush 40, 2) := by decide +kernel
theorem dX12_atom_29 : decode cX12_atom 29 = .ok (.invokevirtual 171, 3) := by decide +kernel
theorem dX12_atom_32 : decode cX12_atom 32 = .ok (.ifCond .ne 8, 3) := by decide +kernel
theorem dX12_atom_35 : decode cX12_atom 35 = .ok (.aload_n 0, 1) := by decide +kernel
theorem dX12_atom_36 : decode cX12_atom 36 = .ok (.invokevirtual 209, 3) := by decide +kernel
theorem dX12_atom_39 : decode cX12_atom 39 = .ok (.ireturn, 1) := by decide +kernel
theorem dX12_atom_40 : decode cX12_atom 40 = .ok (.aload_n 0, 1) := by decide +kernel
theorem dX12_atom_41 : decode cX12_atom 41 = .ok (.getfield 162, 3) := by decide +kernel
theorem dX12_atom_44 : decode cX12_atom 44 = .ok (.bipush 6, 2) := by decide +kernel
theorem dX12_atom_46 : decode cX12_atom 46 = .ok (.if_icmp .ne 10, 3) := by decide +kernel
theorem dX12_atom_49 : decode cX12_atom 49 = .ok (.aload_n 0, 1) := by decide +kernel
theorem dX12_atom_50 : decode cX12_atom 50 = .ok (.iload_n 1, 1) := by decide +kernel
theorem dX12_atom_51 : decode cX12_atom 51 = .ok (.invokevirtual 96, 3) := by decide +kernel
theorem dX12_atom_54 : decode cX12_atom 54 = .ok (.iconst 0, 1) := by decide +kernel
theorem dX12_atom_55 : decode cX12_atom 55 = .ok (.ireturn, 1) := by decide +kernel
theorem dX12_atom_56 : decode cX12_atom 56 = .ok (.aload_n 0, 1) := by decide +kernel
theorem dX12_atom_57 : decode cX12_atom 57 = .ok (.dup, 1) := by decide +kernel
theorem dX12_atom_58 : decode cX12_atom 58 = .ok (.getfield 162, 3) := by decide +kernel
theorem dX12_atom_61 : decode cX12_atom 61 = .ok (.iconst 1, 1) := by decide +kernel
theorem dX12_atom_62 : decode cX12_atom 62 = .ok (.iadd, 1) := by decide +kernel
theorem dX12_atom_63 : decode cX12_atom 63 = .ok (.putfield 162, 3) := by decide +kernel
theorem dX12_atom_66 : decode cX12_atom 66 = .ok (.iconst 0, 1) := by decide +kernel
theorem dX12_atom_67 : decode cX12_atom 67 = .ok (.istore_n 3, 1) := by decide +kernel
theorem dX12_atom_68 : decode cX12_atom 68 = .ok (.iload_n 2, 1) := by decide +kernel
theorem dX12_atom_69 : decode cX12_atom 69 = .ok (.ifCond .eq 19, 3) := by decide +kernel
theorem dX12_atom_72 : decode cX12_atom 72 = .ok (.aload_n 0, 1) := by decide +kernel
theorem dX12_atom_73 : decode cX12_atom 73 = .ok (.invokevirtual 213, 3) := by decide +kernel
theorem dX12_atom_76 : decode cX12_atom 76 = .ok (.ifCond .ne 7, 3) := by decide +kernel
theorem dX12_atom_79 : decode cX12_atom 79 = .ok (.iconst 1, 1) := by decide +kernel
theorem dX12_atom_80 : decode cX12_atom 80 = .ok (.goto 4, 3) := by decide +kernel
theorem dX12_atom_83 : decode cX12_atom 83 = .ok (.iconst 0, 1) := by decide +kernel
theorem dX12_atom_84 : decode cX12_atom 84 = .ok (.istore_n 3, 1) := by decide +kernel
theorem dX12_atom_85 : decode cX12_atom 85 = .ok (.goto 53, 3) := by decide +kernel
theorem dX12_atom_88 : decode cX12_atom 88 = .ok (.aload_n 0, 1) := by decide +kernel
theorem dX12_atom_89 : decode cX12_atom 89 = .ok (.dup, 1) := by decide +kernel
theorem dX12_atom_90 : decode cX12_atom 90 = .ok (.getfield 71, 3) := by decide +kernel
theorem dX12_atom_93 : decode cX12_atom 93 = .ok (.iconst 1, 1) := by decide +kernel
theorem dX12_atom_94 : decode cX12_atom 94 = .ok (.iadd, 1) := by decide +kernel
theorem dX12_atom_95 : decode cX12_atom 95 = .ok (.putfield 71, 3) := by decide +kernel
theorem dX12_atom_98 : decode cX12_atom 98 = .ok (.aload_n 0, 1) := by decide +kernel
theorem dX12_atom_99 : decode cX12_atom 99 = .ok (.invokevirtual 216, 3) := by decide +kernel
theorem dX12_atom_102 : decode cX12_atom 102 = .ok (.istore_n 3, 1) := by decide +kernel
theorem dX12_atom_103 : decode cX12_atom 103 = .ok (.aload_n 0, 1) := by decide +kernel
theorem dX12_atom_104 : decode cX12_atom 104 = .ok (.getfield 25, 3) := by decide +kernel
theorem dX12_atom_107 : decode cX12_atom 107 = .ok (.iconst (-1), 1) := by decide +kernel
theorem dX12_atom_108 : decode cX12_atom 108 = .ok (.if_icmp .ne 20, 3) := by decide +kernel
theorem dX12_atom_111 : decode cX12_atom 111 = .ok (.aload_n 0, 1) := by decide +kernel
theorem dX12_atom_112 : decode cX12_atom 112 = .ok (.bipush 41, 2) := by decide +kernel
theorem dX12_atom_114 : decode cX12_atom 114 = .ok (.invokevirtual 171, 3) := by decide +kernel
theorem dX12_atom_117 : decode cX12_atom 117 = .ok (.ifCond .ne 11, 3) := by decide +kernel
theorem dX12_atom_120 : decode cX12_atom 120 = .ok (.aload_n 0, 1) := by decide +kernel
theorem dX12_atom_121 : decode cX12_atom 121 = .ok (.aload_n 0, 1) := by decide +kernel
theorem dX12_atom_122 : decode cX12_atom 122 = .ok (.getfield 71, 3) := by decide +kernel
theorem dX12_atom_125 : decode cX12_atom 125 = .ok (.invokevirtual 96, 3) := by decide +kernel
theorem dX12_atom_128 : decode cX12_atom 128 = .ok (.aload_n 0, 1) := by decide +kernel
theorem dX12_atom_129 : decode cX12_atom 129 = .ok (.dup, 1) := by decide +kernel
theorem dX12_atom_130 : decode cX12_atom 130 = .ok (.getfield 71, 3) := by decide +kernel
theorem dX12_atom_133 : decode cX12_atom 133 = .ok (.iconst 1, 1) := by decide +kernel
theorem dX12_atom_134 : decode cX12_atom 134 = .ok (.iadd, 1) := by decide +kernel
theorem dX12_atom_135 : decode cX12_atom 135 = .ok (.putfield 71, 3) := by decide +kernel
theorem dX12_atom_138 : decode cX12_atom 138 = .ok (.aload_n 0, 1) := by decide +kernel
theorem dX12_atom_139 : decode cX12_atom 139 = .ok (.dup, 1) := by decide +kernel
theorem dX12_atom_140 : decode cX12_atom 140 = .ok (.getfield 162, 3) := by decide +kernel
theorem dX12_atom_143 : decode cX12_atom 143 = .ok (.iconst 1, 1) := by decide +kernel
theorem dX12_atom_144 : decode cX12_atom 144 = .ok (.isub, 1) := by decide +kernel
theorem dX12_atom_145 : decode cX12_atom 145 = .ok (.putfield 162, 3) := by decide +kernel
theorem dX12_atom_148 : decode cX12_atom 148 = .ok (.iload_n 3, 1) := by decide +kernel
theorem dX12_atom_149 : decode cX12_atom 149 = .ok (.ireturn, 1) := by decide +kernel
theorem dX12_every_0 : decode cX12_every 0 = .ok (.aload_n 0, 1) := by decide +kernel
theorem dX12_every_1 : decode cX12_every 1 = .ok (.invokevirtual 213, 3) := by decide +kernel
theorem dX12_every_4 : decode cX12_every 4 = .ok (.istore_n 1, 1) := by decide +kernel
theorem dX12_every_5 : decode cX12_every 5 = .ok (.aload_n 0, 1) := by decide +kernel
theorem dX12_every_6 : decode cX12_every 6 = .ok (.getfield 25, 3) := by decide +kernel
theorem dX12_every_9 : decode cX12_every 9 = .ok (.iconst (-1), 1) := by decide +kernel
theorem dX12_every_10 : decode cX12_every 10 = .ok (.if_icmp .ne 34, 3) := by decide +kernel
theorem dX12_every_13 : decode cX12_every 13 = .ok (.aload_n 0, 1) := by decide +kernel
theorem dX12_every_14 : decode cX12_every 14 = .ok (.ldc 219, 2) := by decide +kernel
theorem dX12_every_16 : decode cX12_every 16 = .ok (.invokevirtual 100, 3) := by decide +kernel
theorem dX12_every_19 : decode cX12_every 19 = .ok (.ifCond .eq 25, 3) := by decide +kernel
theorem dX12_every_22 : decode cX12_every 22 = .ok (.aload_n 0, 1) := by decide +kernel
theorem dX12_every_23 : decode cX12_every 23 = .ok (.invokevirtual 213, 3) := by decide +kernel
theorem dX12_every_26 : decode cX12_every 26 = .ok (.istore_n 2, 1) := by decide +kernel
theorem dX12_every_27 : decode cX12_every 27 = .ok (.iload_n 1, 1) := by decide +kernel
theorem dX12_every_28 : decode cX12_every 28 = .ok (.ifCond .eq 11, 3) := by decide +kernel
theorem dX12_every_31 : decode cX12_every 31 = .ok (.iload_n 2, 1) := by decide +kernel
theorem dX12_every_32 : decode cX12_every 32 = .ok (.ifCond .eq 7, 3) := by decide +kernel
theorem dX12_every_35 : decode cX12_every 35 = .ok (.iconst 1, 1) := by decide +kernel
theorem dX12_every_36 : decode cX12_every 36 = .ok (.goto 4, 3) := by decide +kernel
theorem dX12_every_39 : decode cX12_every 39 = .ok (.iconst 0, 1) := by decide +kernel
theorem dX12_every_40 : decode cX12_every 40 = .ok (.istore_n 1, 1) := by decide +kernel
theorem dX12_every_41 : decode cX12_every 41 = .ok (.goto (-36), 3) := by decide +kernel
theorem dX12_every_44 : decode cX12_every 44 = .ok (.iload_n 1, 1) := by decide +kernel
theorem dX12_every_45 : decode cX12_every 45 = .ok (.ireturn, 1) := by decide +kernel
theorem dX12_some_0 : decode cX12_some 0 = .ok (.aload_n 0, 1) := by decide +kernel
theorem dX12_some_1 : decode cX12_some 1 = .ok (.invokevirtual 221, 3) := by decide +kernel
theorem dX12_some_4 : decode cX12_some 4 = .ok (.istore_n 1, 1) := by decide +kernel
theorem dX12_some_5 : decode cX12_some 5 = .ok (.aload_n 0, 1) := by decide +kernel
theorem dX12_some_6 : decode cX12_some 6 = .ok (.getfield 25, 3) := by decide +kernel
theorem dX12_some_9 : decode cX12_some 9 = .ok (.iconst (-1), 1) := by decide +kernel
theorem dX12_some_10 : decode cX12_some 10 = .ok (.if_icmp .ne 34, 3) := by decide +kernel
theorem dX12_some_13 : decode cX12_some 13 = .ok (.aload_n 0, 1) := by decide +kernel
theorem dX12_some_14 : decode cX12_some 14 = .ok (.ldc 224, 2) := by decide +kernel
theorem dX12_some_16 : decode cX12_some 16 = .ok (.invokevirtual 100, 3) := by decide +kernel
theorem dX12_some_19 : decode cX12_some 19 = .ok (.ifCond .eq 25, 3) := by decide +kernel
theorem dX12_some_22 : decode cX12_some 22 = .ok (.aload_n 0, 1) := by decide +kernel
theorem dX12_some_23 : decode cX12_some 23 = .ok (.invokevirtual 221, 3) := by decide +kernel
theorem dX12_some_26 : decode cX12_some 26 = .ok (.istore_n 2, 1) := by decide +kernel
theorem dX12_some_27 : decode cX12_some 27 = .ok (.iload_n 1, 1) := by decide +kernel
theorem dX12_some_28 : decode cX12_some 28 = .ok (.ifCond .ne 7, 3) := by decide +kernel
theorem dX12_some_31 : decode cX12_some 31 = .ok (.iload_n 2, 1) := by decide +kernel
theorem dX12_some_32 : decode cX12_some 32 = .ok (.ifCond .eq 7, 3) := by decide +kernel
theorem dX12_some_35 : decode cX12_some 35 = .ok (.iconst 1, 1) := by decide +kernel
theorem dX12_some_36 : decode cX12_some 36 = .ok (.goto 4, 3) := by decide +kernel
theorem dX12_some_39 : decode cX12_some 39 = .ok (.iconst 0, 1) := by decide +kernel
theorem dX12_some_40 : decode cX12_some 40 = .ok (.istore_n 1, 1) := by decide +kernel
theorem dX12_some_41 : decode cX12_some 41 = .ok (.goto (-36), 3) := by decide +kernel
theorem dX12_some_44 : decode cX12_some 44 = .ok (.iload_n 1, 1) := by decide +kernel
theorem dX12_some_45 : decode cX12_some 45 = .ok (.ireturn, 1) := by decide +kernel
theorem dX12_lawLine_0 : decode cX12_lawLine 0 = .ok (.aload_n 0, 1) := by decide +kernel
theorem dX12_lawLine_1 : decode cX12_lawLine 1 = .ok (.ldc 226, 2) := by decide +kernel
theorem dX12_lawLine_3 : decode cX12_lawLine 3 = .ok (.invokevirtual 100, 3) := by decide +kernel
theorem dX12_lawLine_6 : decode cX12_lawLine 6 = .ok (.ifCond .eq 7, 3) := by decide +kernel
theorem dX12_lawLine_9 : decode cX12_lawLine 9 = .ok (.iconst 0, 1) := by decide +kernel
theorem dX12_lawLine_10 : decode cX12_lawLine 10 = .ok (.goto 30, 3) := by decide +kernel
theorem dX12_lawLine_13 : decode cX12_lawLine 13 = .ok (.aload_n 0, 1) := by decide +kernel
theorem dX12_lawLine_14 : decode cX12_lawLine 14 = .ok (.ldc 228, 2) := by decide +kernel
theorem dX12_lawLine_16 : decode cX12_lawLine 16 = .ok (.invokevirtual 100, 3) := by decide +kernel
theorem dX12_lawLine_19 : decode cX12_lawLine 19 = .ok (.ifCond .eq 7, 3) := by decide +kernel
theorem dX12_lawLine_22 : decode cX12_lawLine 22 = .ok (.iconst 1, 1) := by decide +kernel
theorem dX12_lawLine_23 : decode cX12_lawLine 23 = .ok (.goto 17, 3) := by decide +kernel
theorem dX12_lawLine_26 : decode cX12_lawLine 26 = .ok (.aload_n 0, 1) := by decide +kernel
theorem dX12_lawLine_27 : decode cX12_lawLine 27 = .ok (.ldc 230, 2) := by decide +kernel
theorem dX12_lawLine_29 : decode cX12_lawLine 29 = .ok (.invokevirtual 100, 3) := by decide +kernel
theorem dX12_lawLine_32 : decode cX12_lawLine 32 = .ok (.ifCond .eq 7, 3) := by decide +kernel
theorem dX12_lawLine_35 : decode cX12_lawLine 35 = .ok (.iconst 2, 1) := by decide +kernel
theorem dX12_lawLine_36 : decode cX12_lawLine 36 = .ok (.goto 4, 3) := by decide +kernel
theorem dX12_lawLine_39 : decode cX12_lawLine 39 = .ok (.iconst (-1), 1) := by decide +kernel
theorem dX12_lawLine_40 : decode cX12_lawLine 40 = .ok (.istore_n 1, 1) := by decide +kernel
theorem dX12_lawLine_41 : decode cX12_lawLine 41 = .ok (.iload_n 1, 1) := by decide +kernel
theorem dX12_lawLine_42 : decode cX12_lawLine 42 = .ok (.iconst (-1), 1) := by decide +kernel
theorem dX12_lawLine_43 : decode cX12_lawLine 43 = .ok (.if_icmp .ne 12, 3) := by decide +kernel
theorem dX12_lawLine_46 : decode cX12_lawLine 46 = .ok (.aload_n 0, 1) := by decide +kernel
theorem dX12_lawLine_47 : decode cX12_lawLine 47 = .ok (.aload_n 0, 1) := by decide +kernel
theorem dX12_lawLine_48 : decode cX12_lawLine 48 = .ok (.getfield 71, 3) := by decide +kernel
theorem dX12_lawLine_51 : decode cX12_lawLine 51 = .ok (.invokevirtual 96, 3) := by decide +kernel
theorem dX12_lawLine_54 : decode cX12_lawLine 54 = .ok (.return_, 1) := by decide +kernel
theorem dX12_lawLine_55 : decode cX12_lawLine 55 = .ok (.iload_n 1, 1) := by decide +kernel
theorem dX12_lawLine_56 : decode cX12_lawLine 56 = .ok (.iconst 2, 1) := by decide +kernel
theorem dX12_lawLine_57 : decode cX12_lawLine 57 = .ok (.if_icmp .ne 7, 3) := by decide +kernel
theorem dX12_lawLine_60 : decode cX12_lawLine 60 = .ok (.iconst 0, 1) := by decide +kernel
theorem dX12_lawLine_61 : decode cX12_lawLine 61 = .ok (.goto 10, 3) := by decide +kernel
theorem dX12_lawLine_64 : decode cX12_lawLine 64 = .ok (.aload_n 0, 1) := by decide +kernel
theorem dX12_lawLine_65 : decode cX12_lawLine 65 = .ok (.iconst 0, 1) := by decide +kernel
theorem dX12_lawLine_66 : decode cX12_lawLine 66 = .ok (.bipush 20, 2) := by decide +kernel
theorem dX12_lawLine_68 : decode cX12_lawLine 68 = .ok (.invokevirtual 104, 3) := by decide +kernel
theorem dX12_lawLine_71 : decode cX12_lawLine 71 = .ok (.istore_n 2, 1) := by decide +kernel
theorem dX12_lawLine_72 : decode cX12_lawLine 72 = .ok (.aload_n 0, 1) := by decide +kernel
theorem dX12_lawLine_73 : decode cX12_lawLine 73 = .ok (.getfield 25, 3) := by decide +kernel
theorem dX12_lawLine_76 : decode cX12_lawLine 76 = .ok (.iconst (-1), 1) := by decide +kernel
theorem dX12_lawLine_77 : decode cX12_lawLine 77 = .ok (.if_icmp .eq 4, 3) := by decide +kernel
theorem dX12_lawLine_80 : decode cX12_lawLine 80 = .ok (.return_, 1) := by decide +kernel
theorem dX12_lawLine_81 : decode cX12_lawLine 81 = .ok (.aload_n 0, 1) := by decide +kernel
theorem dX12_lawLine_82 : decode cX12_lawLine 82 = .ok (.ldc 232, 2) := by decide +kernel
theorem dX12_lawLine_84 : decode cX12_lawLine 84 = .ok (.invokevirtual 100, 3) := by decide +kernel
theorem dX12_lawLine_87 : decode cX12_lawLine 87 = .ok (.ifCond .eq 10, 3) := by decide +kernel
theorem dX12_lawLine_90 : decode cX12_lawLine 90 = .ok (.aload_n 0, 1) := by decide +kernel
theorem dX12_lawLine_91 : decode cX12_lawLine 91 = .ok (.invokevirtual 216, 3) := by decide +kernel
theorem dX12_lawLine_94 : decode cX12_lawLine 94 = .ok (.ifCond .eq 7, 3) := by decide +kernel
theorem dX12_lawLine_97 : decode cX12_lawLine 97 = .ok (.iconst 1, 1) := by decide +kernel
theorem dX12_lawLine_98 : decode cX12_lawLine 98 = .ok (.goto 4, 3) := by decide +kernel
theorem dX12_lawLine_101 : decode cX12_lawLine 101 = .ok (.iconst 0, 1) := by decide +kernel
theorem dX12_lawLine_102 : decode cX12_lawLine 102 = .ok (.istore_n 3, 1) := by decide +kernel
theorem dX12_lawLine_103 : decode cX12_lawLine 103 = .ok (.aload_n 0, 1) := by decide +kernel
theorem dX12_lawLine_104 : decode cX12_lawLine 104 = .ok (.getfield 25, 3) := by decide +kernel
theorem dX12_lawLine_107 : decode cX12_lawLine 107 = .ok (.iconst (-1), 1) := by decide +kernel
theorem dX12_lawLine_108 : decode cX12_lawLine 108 = .ok (.if_icmp .ne 7, 3) := by decide +kernel
theorem dX12_lawLine_111 : decode cX12_lawLine 111 = .ok (.iload_n 3, 1) := by decide +kernel
theorem dX12_lawLine_112 : decode cX12_lawLine 112 = .ok (.ifCond .ne 4, 3) := by decide +kernel
theorem dX12_lawLine_115 : decode cX12_lawLine 115 = .ok (.return_, 1) := by decide +kernel
theorem dX12_lawLine_116 : decode cX12_lawLine 116 = .ok (.aload_n 0, 1) := by decide +kernel
theorem dX12_lawLine_117 : decode cX12_lawLine 117 = .ok (.aload_n 0, 1) := by decide +kernel
theorem dX12_lawLine_118 : decode cX12_lawLine 118 = .ok (.getfield 234, 3) := by decide +kernel
theorem dX12_lawLine_121 : decode cX12_lawLine 121 = .ok (.ifCond .ne 8, 3) := by decide +kernel
theorem dX12_lawLine_124 : decode cX12_lawLine 124 = .ok (.iload_n 1, 1) := by decide +kernel
theorem dX12_lawLine_125 : decode cX12_lawLine 125 = .ok (.iconst 2, 1) := by decide +kernel
theorem dX12_lawLine_126 : decode cX12_lawLine 126 = .ok (.if_icmp .ne 7, 3) := by decide +kernel
theorem dX12_lawLine_129 : decode cX12_lawLine 129 = .ok (.iconst 1, 1) := by decide +kernel
theorem dX12_lawLine_130 : decode cX12_lawLine 130 = .ok (.goto 4, 3) := by decide +kernel
theorem dX12_lawLine_133 : decode cX12_lawLine 133 = .ok (.iconst 0, 1) := by decide +kernel
theorem dX12_lawLine_134 : decode cX12_lawLine 134 = .ok (.putfield 234, 3) := by decide +kernel
theorem dX12_lawLine_137 : decode cX12_lawLine 137 = .ok (.aload_n 0, 1) := by decide +kernel
theorem dX12_lawLine_138 : decode cX12_lawLine 138 = .ok (.dup, 1) := by decide +kernel
theorem dX12_lawLine_139 : decode cX12_lawLine 139 = .ok (.getfield 237, 3) := by decide +kernel
theorem dX12_lawLine_142 : decode cX12_lawLine 142 = .ok (.iload_n 1, 1) := by decide +kernel
theorem dX12_lawLine_143 : decode cX12_lawLine 143 = .ok (.ifCond .ne 7, 3) := by decide +kernel
theorem dX12_lawLine_146 : decode cX12_lawLine 146 = .ok (.iload_n 2, 1) := by decide +kernel
theorem dX12_lawLine_147 : decode cX12_lawLine 147 = .ok (.goto 5, 3) := by decide +kernel
theorem dX12_lawLine_150 : decode cX12_lawLine 150 = .ok (.iload_n 2, 1) := by decide +kernel
theorem dX12_lawLine_151 : decode cX12_lawLine 151 = .ok (.ineg, 1) := by decide +kernel
theorem dX12_lawLine_152 : decode cX12_lawLine 152 = .ok (.iadd, 1) := by decide +kernel
theorem dX12_lawLine_153 : decode cX12_lawLine 153 = .ok (.putfield 237, 3) := by decide +kernel
theorem dX12_lawLine_156 : decode cX12_lawLine 156 = .ok (.return_, 1) := by decide +kernel
theorem dX12_law_0 : decode cX12_law 0 = .ok (.aload_n 0, 1) := by decide +kernel
theorem dX12_law_1 : decode cX12_law 1 = .ok (.invokevirtual 178, 3) := by decide +kernel
theorem dX12_law_4 : decode cX12_law 4 = .ok (.aload_n 0, 1) := by decide +kernel
theorem dX12_law_5 : decode cX12_law 5 = .ok (.iconst 1, 1) := by decide +kernel
theorem dX12_law_6 : decode cX12_law 6 = .ok (.invokevirtual 181, 3) := by decide +kernel
theorem dX12_law_9 : decode cX12_law 9 = .ok (.istore_n 1, 1) := by decide +kernel
theorem dX12_law_10 : decode cX12_law 10 = .ok (.aload_n 0, 1) := by decide +kernel
theorem dX12_law_11 : decode cX12_law 11 = .ok (.aload_n 0, 1) := by decide +kernel
theorem dX12_law_12 : decode cX12_law 12 = .ok (.getfield 25, 3) := by decide +kernel
theorem dX12_law_15 : decode cX12_law 15 = .ok (.iconst (-1), 1) := by decide +kernel
theorem dX12_law_16 : decode cX12_law 16 = .ok (.if_icmp .eq 7, 3) := by decide +kernel
theorem dX12_law_19 : decode cX12_law 19 = .ok (.iconst 1, 1) := by decide +kernel
theorem dX12_law_20 : decode cX12_law 20 = .ok (.goto 4, 3) := by decide +kernel
theorem dX12_law_23 : decode cX12_law 23 = .ok (.iconst 0, 1) := by decide +kernel
theorem dX12_law_24 : decode cX12_law 24 = .ok (.putfield 47, 3) := by decide +kernel
theorem dX12_law_27 : decode cX12_law 27 = .ok (.aload_n 0, 1) := by decide +kernel
theorem dX12_law_28 : decode cX12_law 28 = .ok (.getfield 47, 3) := by decide +kernel
theorem dX12_law_31 : decode cX12_law 31 = .ok (.ifCond .le 5, 3) := by decide +kernel
theorem dX12_law_34 : decode cX12_law 34 = .ok (.iconst 0, 1) := by decide +kernel
theorem dX12_law_35 : decode cX12_law 35 = .ok (.ireturn, 1) := by decide +kernel
theorem dX12_law_36 : decode cX12_law 36 = .ok (.aload_n 0, 1) := by decide +kernel
theorem dX12_law_37 : decode cX12_law 37 = .ok (.getfield 7, 3) := by decide +kernel
theorem dX12_law_40 : decode cX12_law 40 = .ok (.iconst 1, 1) := by decide +kernel
theorem dX12_law_41 : decode cX12_law 41 = .ok (.iload_n 1, 1) := by decide +kernel
theorem dX12_law_42 : decode cX12_law 42 = .ok (.iastore, 1) := by decide +kernel
theorem dX12_law_43 : decode cX12_law 43 = .ok (.aload_n 0, 1) := by decide +kernel
theorem dX12_law_44 : decode cX12_law 44 = .ok (.getfield 7, 3) := by decide +kernel
theorem dX12_law_47 : decode cX12_law 47 = .ok (.iconst 2, 1) := by decide +kernel
theorem dX12_law_48 : decode cX12_law 48 = .ok (.aload_n 0, 1) := by decide +kernel
theorem dX12_law_49 : decode cX12_law 49 = .ok (.getfield 74, 3) := by decide +kernel
theorem dX12_law_52 : decode cX12_law 52 = .ok (.iastore, 1) := by decide +kernel
theorem dX12_law_53 : decode cX12_law 53 = .ok (.iconst 0, 1) := by decide +kernel
theorem dX12_law_54 : decode cX12_law 54 = .ok (.istore_n 2, 1) := by decide +kernel
theorem dX12_law_55 : decode cX12_law 55 = .ok (.iload_n 2, 1) := by decide +kernel
theorem dX12_law_56 : decode cX12_law 56 = .ok (.aload_n 0, 1) := by decide +kernel
theorem dX12_law_57 : decode cX12_law 57 = .ok (.getfield 74, 3) := by decide +kernel
theorem dX12_law_60 : decode cX12_law 60 = .ok (.if_icmp .ge 25, 3) := by decide +kernel
theorem dX12_law_63 : decode cX12_law 63 = .ok (.aload_n 0, 1) := by decide +kernel
theorem dX12_law_64 : decode cX12_law 64 = .ok (.getfield 7, 3) := by decide +kernel
theorem dX12_law_67 : decode cX12_law 67 = .ok (.sipush 488, 3) := by decide +kernel
theorem dX12_law_70 : decode cX12_law 70 = .ok (.iload_n 2, 1) := by decide +kernel
theorem dX12_law_71 : decode cX12_law 71 = .ok (.iadd, 1) := by decide +kernel
theorem dX12_law_72 : decode cX12_law 72 = .ok (.aload_n 0, 1) := by decide +kernel
theorem dX12_law_73 : decode cX12_law 73 = .ok (.getfield 22, 3) := by decide +kernel
theorem dX12_law_76 : decode cX12_law 76 = .ok (.iload_n 2, 1) := by decide +kernel
theorem dX12_law_77 : decode cX12_law 77 = .ok (.iaload, 1) := by decide +kernel
theorem dX12_law_78 : decode cX12_law 78 = .ok (.iastore, 1) := by decide +kernel
theorem dX12_law_79 : decode cX12_law 79 = .ok (.iinc 2 1, 3) := by decide +kernel
theorem dX12_law_82 : decode cX12_law 82 = .ok (.goto (-27), 3) := by decide +kernel
theorem dX12_law_85 : decode cX12_law 85 = .ok (.aload_n 0, 1) := by decide +kernel
theorem dX12_law_86 : decode cX12_law 86 = .ok (.iconst 0, 1) := by decide +kernel
theorem dX12_law_87 : decode cX12_law 87 = .ok (.putfield 188, 3) := by decide +kernel
theorem dX12_law_90 : decode cX12_law 90 = .ok (.iload_n 1, 1) := by decide +kernel
theorem dX12_law_91 : decode cX12_law 91 = .ok (.ireturn, 1) := by decide +kernel
theorem dX12_fault_0 : decode cX12_fault 0 = .ok (.aload_n 0, 1) := by decide +kernel
theorem dX12_fault_1 : decode cX12_fault 1 = .ok (.iconst 0, 1) := by decide +kernel
theorem dX12_fault_2 : decode cX12_fault 2 = .ok (.putfield 47, 3) := by decide +kernel
theorem dX12_fault_5 : decode cX12_fault 5 = .ok (.aload_n 0, 1) := by decide +kernel
theorem dX12_fault_6 : decode cX12_fault 6 = .ok (.getfield 25, 3) := by decide +kernel
theorem dX12_fault_9 : decode cX12_fault 9 = .ok (.ireturn, 1) := by decide +kernel
theorem dX12_likesOwner_0 : decode cX12_likesOwner 0 = .ok (.aload_n 0, 1) := by decide +kernel
theorem dX12_likesOwner_1 : decode cX12_likesOwner 1 = .ok (.iload_n 2, 1) := by decide +kernel
theorem dX12_likesOwner_2 : decode cX12_likesOwner 2 = .ok (.iconst 2, 1) := by decide +kernel
theorem dX12_likesOwner_3 : decode cX12_likesOwner 3 = .ok (.invokevirtual 128, 3) := by decide +kernel
theorem dX12_likesOwner_6 : decode cX12_likesOwner 6 = .ok (.istore_n 3, 1) := by decide +kernel
theorem dX12_likesOwner_7 : decode cX12_likesOwner 7 = .ok (.iload_n 3, 1) := by decide +kernel
theorem dX12_likesOwner_8 : decode cX12_likesOwner 8 = .ok (.iconst (-1), 1) := by decide +kernel
theorem dX12_likesOwner_9 : decode cX12_likesOwner 9 = .ok (.if_icmp .ne 7, 3) := by decide +kernel
theorem dX12_likesOwner_12 : decode cX12_likesOwner 12 = .ok (.iconst 5, 1) := by decide +kernel
theorem dX12_likesOwner_13 : decode cX12_likesOwner 13 = .ok (.goto 9, 3) := by decide +kernel
theorem dX12_likesOwner_16 : decode cX12_likesOwner 16 = .ok (.aload_n 0, 1) := by decide +kernel
theorem dX12_likesOwner_17 : decode cX12_likesOwner 17 = .ok (.iload_n 1, 1) := by decide +kernel
theorem dX12_likesOwner_18 : decode cX12_likesOwner 18 = .ok (.iload_n 3, 1) := by decide +kernel
theorem dX12_likesOwner_19 : decode cX12_likesOwner 19 = .ok (.invokevirtual 240, 3) := by decide +kernel
theorem dX12_likesOwner_22 : decode cX12_likesOwner 22 = .ok (.ireturn, 1) := by decide +kernel
theorem dX12_asks_0 : decode cX12_asks 0 = .ok (.aload_n 0, 1) := by decide +kernel
theorem dX12_asks_1 : decode cX12_asks 1 = .ok (.iload_n 3, 1) := by decide +kernel
theorem dX12_asks_2 : decode cX12_asks 2 = .ok (.putfield 237, 3) := by decide +kernel
theorem dX12_asks_5 : decode cX12_asks 5 = .ok (.aload_n 0, 1) := by decide +kernel
theorem dX12_asks_6 : decode cX12_asks 6 = .ok (.iconst 0, 1) := by decide +kernel
theorem dX12_asks_7 : decode cX12_asks 7 = .ok (.putfield 234, 3) := by decide +kernel
theorem dX12_asks_10 : decode cX12_asks 10 = .ok (.aload_n 0, 1) := by decide +kernel
theorem dX12_asks_11 : decode cX12_asks 11 = .ok (.getfield 29, 3) := by decide +kernel
theorem dX12_asks_14 : decode cX12_asks 14 = .ok (.iconst 0, 1) := by decide +kernel
theorem dX12_asks_15 : decode cX12_asks 15 = .ok (.iload_n 1, 1) := by decide +kernel
theorem dX12_asks_16 : decode cX12_asks 16 = .ok (.iastore, 1) := by decide +kernel
theorem dX12_asks_17 : decode cX12_asks 17 = .ok (.aload_n 0, 1) := by decide +kernel
theorem dX12_asks_18 : decode cX12_asks 18 = .ok (.getfield 29, 3) := by decide +kernel
theorem dX12_asks_21 : decode cX12_asks 21 = .ok (.iconst 1, 1) := by decide +kernel
theorem dX12_asks_22 : decode cX12_asks 22 = .ok (.iload_n 2, 1) := by decide +kernel
theorem dX12_asks_23 : decode cX12_asks 23 = .ok (.iastore, 1) := by decide +kernel
theorem dX12_asks_24 : decode cX12_asks 24 = .ok (.aload_n 0, 1) := by decide +kernel
theorem dX12_asks_25 : decode cX12_asks 25 = .ok (.getfield 29, 3) := by decide +kernel
theorem dX12_asks_28 : decode cX12_asks 28 = .ok (.iconst 2, 1) := by decide +kernel
theorem dX12_asks_29 : decode cX12_asks 29 = .ok (.aload_n 0, 1) := by decide +kernel
theorem dX12_asks_30 : decode cX12_asks 30 = .ok (.iload_n 2, 1) := by decide +kernel
theorem dX12_asks_31 : decode cX12_asks 31 = .ok (.iconst 0, 1) := by decide +kernel
theorem dX12_asks_32 : decode cX12_asks 32 = .ok (.invokevirtual 128, 3) := by decide +kernel
theorem dX12_asks_35 : decode cX12_asks 35 = .ok (.iastore, 1) := by decide +kernel
theorem dX12_asks_36 : decode cX12_asks 36 = .ok (.aload_n 0, 1) := by decide +kernel
theorem dX12_asks_37 : decode cX12_asks 37 = .ok (.getfield 29, 3) := by decide +kernel
theorem dX12_asks_40 : decode cX12_asks 40 = .ok (.iconst 3, 1) := by decide +kernel
theorem dX12_asks_41 : decode cX12_asks 41 = .ok (.aload_n 0, 1) := by decide +kernel
theorem dX12_asks_42 : decode cX12_asks 42 = .ok (.iload_n 2, 1) := by decide +kernel
theorem dX12_asks_43 : decode cX12_asks 43 = .ok (.iconst 3, 1) := by decide +kernel
theorem dX12_asks_44 : decode cX12_asks 44 = .ok (.invokevirtual 128, 3) := by decide +kernel
theorem dX12_asks_47 : decode cX12_asks 47 = .ok (.iastore, 1) := by decide +kernel
theorem dX12_asks_48 : decode cX12_asks 48 = .ok (.aload_n 0, 1) := by decide +kernel
theorem dX12_asks_49 : decode cX12_asks 49 = .ok (.getfield 29, 3) := by decide +kernel
theorem dX12_asks_52 : decode cX12_asks 52 = .ok (.iconst 4, 1) := by decide +kernel
theorem dX12_asks_53 : decode cX12_asks 53 = .ok (.aload_n 0, 1) := by decide +kernel
theorem dX12_asks_54 : decode cX12_asks 54 = .ok (.iload_n 1, 1) := by decide +kernel
theorem dX12_asks_55 : decode cX12_asks 55 = .ok (.iconst 1, 1) := by decide +kernel
theorem dX12_asks_56 : decode cX12_asks 56 = .ok (.invokevirtual 243, 3) := by decide +kernel
theorem dX12_asks_59 : decode cX12_asks 59 = .ok (.iastore, 1) := by decide +kernel
theorem dX12_asks_60 : decode cX12_asks 60 = .ok (.aload_n 0, 1) := by decide +kernel
theorem dX12_asks_61 : decode cX12_asks 61 = .ok (.getfield 29, 3) := by decide +kernel
theorem dX12_asks_64 : decode cX12_asks 64 = .ok (.iconst 5, 1) := by decide +kernel
theorem dX12_asks_65 : decode cX12_asks 65 = .ok (.iload_n 3, 1) := by decide +kernel
theorem dX12_asks_66 : decode cX12_asks 66 = .ok (.iastore, 1) := by decide +kernel
theorem dX12_asks_67 : decode cX12_asks 67 = .ok (.aload_n 0, 1) := by decide +kernel
theorem dX12_asks_68 : decode cX12_asks 68 = .ok (.getfield 29, 3) := by decide +kernel
theorem dX12_asks_71 : decode cX12_asks 71 = .ok (.bipush 6, 2) := by decide +kernel
theorem dX12_asks_73 : decode cX12_asks 73 = .ok (.aload_n 0, 1) := by decide +kernel
theorem dX12_asks_74 : decode cX12_asks 74 = .ok (.getfield 7, 3) := by decide +kernel
theorem dX12_asks_77 : decode cX12_asks 77 = .ok (.iconst 5, 1) := by decide +kernel
theorem dX12_asks_78 : decode cX12_asks 78 = .ok (.iaload, 1) := by decide +kernel
theorem dX12_asks_79 : decode cX12_asks 79 = .ok (.iastore, 1) := by decide +kernel
theorem dX12_asks_80 : decode cX12_asks 80 = .ok (.aload_n 0, 1) := by decide +kernel
theorem dX12_asks_81 : decode cX12_asks 81 = .ok (.aload_n 0, 1) := by decide +kernel
theorem dX12_asks_82 : decode cX12_asks 82 = .ok (.iload_n 2, 1) := by decide +kernel
theorem dX12_asks_83 : decode cX12_asks 83 = .ok (.iconst 2, 1) := by decide +kernel
theorem dX12_asks_84 : decode cX12_asks 84 = .ok (.invokevirtual 128, 3) := by decide +kernel
theorem dX12_asks_87 : decode cX12_asks 87 = .ok (.iconst (-1), 1) := by decide +kernel
theorem dX12_asks_88 : decode cX12_asks 88 = .ok (.if_icmp .eq 7, 3) := by decide +kernel
theorem dX12_asks_91 : decode cX12_asks 91 = .ok (.iconst 1, 1) := by decide +kernel
theorem dX12_asks_92 : decode cX12_asks 92 = .ok (.goto 4, 3) := by decide +kernel
theorem dX12_asks_95 : decode cX12_asks 95 = .ok (.iconst 0, 1) := by decide +kernel
theorem dX12_asks_96 : decode cX12_asks 96 = .ok (.putfield 198, 3) := by decide +kernel
theorem dX12_asks_99 : decode cX12_asks 99 = .ok (.aload_n 0, 1) := by decide +kernel
theorem dX12_asks_100 : decode cX12_asks 100 = .ok (.getfield 25, 3) := by decide +kernel
theorem dX12_asks_103 : decode cX12_asks 103 = .ok (.istore 4, 2) := by decide +kernel
theorem dX12_asks_105 : decode cX12_asks 105 = .ok (.aload_n 0, 1) := by decide +kernel
theorem dX12_asks_106 : decode cX12_asks 106 = .ok (.iconst (-1), 1) := by decide +kernel
theorem dX12_asks_107 : decode cX12_asks 107 = .ok (.putfield 25, 3) := by decide +kernel
theorem dX12_asks_110 : decode cX12_asks 110 = .ok (.aload_n 0, 1) := by decide +kernel
theorem dX12_asks_111 : decode cX12_asks 111 = .ok (.sipush 488, 3) := by decide +kernel
theorem dX12_asks_114 : decode cX12_asks 114 = .ok (.putfield 68, 3) := by decide +kernel
theorem dX12_asks_117 : decode cX12_asks 117 = .ok (.aload_n 0, 1) := by decide +kernel
theorem dX12_asks_118 : decode cX12_asks 118 = .ok (.aload_n 0, 1) := by decide +kernel
theorem dX12_asks_119 : decode cX12_asks 119 = .ok (.getfield 7, 3) := by decide +kernel
theorem dX12_asks_122 : decode cX12_asks 122 = .ok (.iconst 1, 1) := by decide +kernel
theorem dX12_asks_123 : decode cX12_asks 123 = .ok (.iaload, 1) := by decide +kernel
theorem dX12_asks_124 : decode cX12_asks 124 = .ok (.iconst 1, 1) := by decide +kernel
theorem dX12_asks_125 : decode cX12_asks 125 = .ok (.if_icmp .ge 7, 3) := by decide +kernel
theorem dX12_asks_128 : decode cX12_asks 128 = .ok (.iconst 0, 1) := by decide +kernel
theorem dX12_asks_129 : decode cX12_asks 129 = .ok (.goto 9, 3) := by decide +kernel
theorem dX12_asks_132 : decode cX12_asks 132 = .ok (.aload_n 0, 1) := by decide +kernel
theorem dX12_asks_133 : decode cX12_asks 133 = .ok (.getfield 7, 3) := by decide +kernel
theorem dX12_asks_136 : decode cX12_asks 136 = .ok (.iconst 2, 1) := by decide +kernel
theorem dX12_asks_137 : decode cX12_asks 137 = .ok (.iaload, 1) := by decide +kernel
theorem dX12_asks_138 : decode cX12_asks 138 = .ok (.putfield 74, 3) := by decide +kernel
theorem dX12_asks_141 : decode cX12_asks 141 = .ok (.aload_n 0, 1) := by decide +kernel
theorem dX12_asks_142 : decode cX12_asks 142 = .ok (.iconst 0, 1) := by decide +kernel
theorem dX12_asks_143 : decode cX12_asks 143 = .ok (.putfield 71, 3) := by decide +kernel
theorem dX12_asks_146 : decode cX12_asks 146 = .ok (.aload_n 0, 1) := by decide +kernel
theorem dX12_asks_147 : decode cX12_asks 147 = .ok (.iconst 0, 1) := by decide +kernel
theorem dX12_asks_148 : decode cX12_asks 148 = .ok (.putfield 162, 3) := by decide +kernel
theorem dX12_asks_151 : decode cX12_asks 151 = .ok (.aload_n 0, 1) := by decide +kernel
theorem dX12_asks_152 : decode cX12_asks 152 = .ok (.iconst 1, 1) := by decide +kernel
theorem dX12_asks_153 : decode cX12_asks 153 = .ok (.invokevirtual 181, 3) := by decide +kernel
theorem dX12_asks_156 : decode cX12_asks 156 = .ok (.istore 5, 2) := by decide +kernel
theorem dX12_asks_158 : decode cX12_asks 158 = .ok (.aload_n 0, 1) := by decide +kernel
theorem dX12_asks_159 : decode cX12_asks 159 = .ok (.iload 4, 2) := by decide +kernel
theorem dX12_asks_161 : decode cX12_asks 161 = .ok (.putfield 25, 3) := by decide +kernel
theorem dX12_asks_164 : decode cX12_asks 164 = .ok (.return_, 1) := by decide +kernel
theorem dX12_wouldLight_0 : decode cX12_wouldLight 0 = .ok (.aload_n 0, 1) := by decide +kernel
theorem dX12_wouldLight_1 : decode cX12_wouldLight 1 = .ok (.iload_n 1, 1) := by decide +kernel
theorem dX12_wouldLight_2 : decode cX12_wouldLight 2 = .ok (.iconst 1, 1) := by decide +kernel
theorem dX12_wouldLight_3 : decode cX12_wouldLight 3 = .ok (.invokevirtual 243, 3) := by decide +kernel
theorem dX12_wouldLight_6 : decode cX12_wouldLight 6 = .ok (.ifCond .eq 32, 3) := by decide +kernel
theorem dX12_wouldLight_9 : decode cX12_wouldLight 9 = .ok (.aload_n 0, 1) := by decide +kernel
theorem dX12_wouldLight_10 : decode cX12_wouldLight 10 = .ok (.iload_n 2, 1) := by decide +kernel
theorem dX12_wouldLight_11 : decode cX12_wouldLight 11 = .ok (.iconst 1, 1) := by decide +kernel
theorem dX12_wouldLight_12 : decode cX12_wouldLight 12 = .ok (.invokevirtual 128, 3) := by decide +kernel
theorem dX12_wouldLight_15 : decode cX12_wouldLight 15 = .ok (.iconst 1, 1) := by decide +kernel
theorem dX12_wouldLight_16 : decode cX12_wouldLight 16 = .ok (.if_icmp .eq 22, 3) := by decide +kernel
theorem dX12_wouldLight_19 : decode cX12_wouldLight 19 = .ok (.aload_n 0, 1) := by decide +kernel
theorem dX12_wouldLight_20 : decode cX12_wouldLight 20 = .ok (.iload_n 2, 1) := by decide +kernel
theorem dX12_wouldLight_21 : decode cX12_wouldLight 21 = .ok (.iconst 0, 1) := by decide +kernel
theorem dX12_wouldLight_22 : decode cX12_wouldLight 22 = .ok (.invokevirtual 128, 3) := by decide +kernel
theorem dX12_wouldLight_25 : decode cX12_wouldLight 25 = .ok (.ifCond .eq 13, 3) := by decide +kernel
theorem dX12_wouldLight_28 : decode cX12_wouldLight 28 = .ok (.aload_n 0, 1) := by decide +kernel
theorem dX12_wouldLight_29 : decode cX12_wouldLight 29 = .ok (.iload_n 2, 1) := by decide +kernel
theorem dX12_wouldLight_30 : decode cX12_wouldLight 30 = .ok (.iconst 2, 1) := by decide +kernel
theorem dX12_wouldLight_31 : decode cX12_wouldLight 31 = .ok (.invokevirtual 128, 3) := by decide +kernel
theorem dX12_wouldLight_34 : decode cX12_wouldLight 34 = .ok (.iload_n 1, 1) := by decide +kernel
theorem dX12_wouldLight_35 : decode cX12_wouldLight 35 = .ok (.if_icmp .ne 5, 3) := by decide +kernel
theorem dX12_wouldLight_38 : decode cX12_wouldLight 38 = .ok (.iconst 0, 1) := by decide +kernel
theorem dX12_wouldLight_39 : decode cX12_wouldLight 39 = .ok (.ireturn, 1) := by decide +kernel
theorem dX12_wouldLight_40 : decode cX12_wouldLight 40 = .ok (.aload_n 0, 1) := by decide +kernel
theorem dX12_wouldLight_41 : decode cX12_wouldLight 41 = .ok (.iload_n 1, 1) := by decide +kernel
theorem dX12_wouldLight_42 : decode cX12_wouldLight 42 = .ok (.iload_n 2, 1) := by decide +kernel
theorem dX12_wouldLight_43 : decode cX12_wouldLight 43 = .ok (.iload_n 3, 1) := by decide +kernel
theorem dX12_wouldLight_44 : decode cX12_wouldLight 44 = .ok (.invokevirtual 246, 3) := by decide +kernel
theorem dX12_wouldLight_47 : decode cX12_wouldLight 47 = .ok (.aload_n 0, 1) := by decide +kernel
theorem dX12_wouldLight_48 : decode cX12_wouldLight 48 = .ok (.getfield 237, 3) := by decide +kernel
theorem dX12_wouldLight_51 : decode cX12_wouldLight 51 = .ok (.iconst 5, 1) := by decide +kernel
theorem dX12_wouldLight_52 : decode cX12_wouldLight 52 = .ok (.if_icmp .lt 14, 3) := by decide +kernel
theorem dX12_wouldLight_55 : decode cX12_wouldLight 55 = .ok (.aload_n 0, 1) := by decide +kernel
theorem dX12_wouldLight_56 : decode cX12_wouldLight 56 = .ok (.getfield 234, 3) := by decide +kernel
theorem dX12_wouldLight_59 : decode cX12_wouldLight 59 = .ok (.ifCond .ne 7, 3) := by decide +kernel
theorem dX12_wouldLight_62 : decode cX12_wouldLight 62 = .ok (.iconst 1, 1) := by decide +kernel
theorem dX12_wouldLight_63 : decode cX12_wouldLight 63 = .ok (.goto 4, 3) := by decide +kernel
theorem dX12_wouldLight_66 : decode cX12_wouldLight 66 = .ok (.iconst 0, 1) := by decide +kernel
theorem dX12_wouldLight_67 : decode cX12_wouldLight 67 = .ok (.ireturn, 1) := by decide +kernel
theorem dX12_doesLight_0 : decode cX12_doesLight 0 = .ok (.aload_n 0, 1) := by decide +kernel
theorem dX12_doesLight_1 : decode cX12_doesLight 1 = .ok (.iload_n 1, 1) := by decide +kernel
theorem dX12_doesLight_2 : decode cX12_doesLight 2 = .ok (.iload_n 2, 1) := by decide +kernel
theorem dX12_doesLight_3 : decode cX12_doesLight 3 = .ok (.aload_n 0, 1) := by decide +kernel
theorem dX12_doesLight_4 : decode cX12_doesLight 4 = .ok (.iload_n 1, 1) := by decide +kernel
theorem dX12_doesLight_5 : decode cX12_doesLight 5 = .ok (.iload_n 2, 1) := by decide +kernel
theorem dX12_doesLight_6 : decode cX12_doesLight 6 = .ok (.invokevirtual 249, 3) := by decide +kernel
theorem dX12_doesLight_9 : decode cX12_doesLight 9 = .ok (.invokevirtual 252, 3) := by decide +kernel
theorem dX12_doesLight_12 : decode cX12_doesLight 12 = .ok (.ireturn, 1) := by decide +kernel
theorem dX12_draw_0 : decode cX12_draw 0 = .ok (.aload_n 0, 1) := by decide +kernel
theorem dX12_draw_1 : decode cX12_draw 1 = .ok (.getfield 7, 3) := by decide +kernel
theorem dX12_draw_4 : decode cX12_draw 4 = .ok (.bipush 10, 2) := by decide +kernel
theorem dX12_draw_6 : decode cX12_draw 6 = .ok (.ldc 255, 2) := by decide +kernel
theorem dX12_draw_8 : decode cX12_draw 8 = .ok (.aload_n 0, 1) := by decide +kernel
theorem dX12_draw_9 : decode cX12_draw 9 = .ok (.getfield 7, 3) := by decide +kernel
theorem dX12_draw_12 : decode cX12_draw 12 = .ok (.bipush 10, 2) := by decide +kernel
theorem dX12_draw_14 : decode cX12_draw 14 = .ok (.iaload, 1) := by decide +kernel
theorem dX12_draw_15 : decode cX12_draw 15 = .ok (.imul, 1) := by decide +kernel
theorem dX12_draw_16 : decode cX12_draw 16 = .ok (.sipush 12345, 3) := by decide +kernel
theorem dX12_draw_19 : decode cX12_draw 19 = .ok (.iadd, 1) := by decide +kernel
theorem dX12_draw_20 : decode cX12_draw 20 = .ok (.iastore, 1) := by decide +kernel
theorem dX12_draw_21 : decode cX12_draw 21 = .ok (.aload_n 0, 1) := by decide +kernel
theorem dX12_draw_22 : decode cX12_draw 22 = .ok (.getfield 7, 3) := by decide +kernel
theorem dX12_draw_25 : decode cX12_draw 25 = .ok (.bipush 10, 2) := by decide +kernel
theorem dX12_draw_27 : decode cX12_draw 27 = .ok (.iaload, 1) := by decide +kernel
theorem dX12_draw_28 : decode cX12_draw 28 = .ok (.bipush 16, 2) := by decide +kernel
theorem dX12_draw_30 : decode cX12_draw 30 = .ok (.iushr, 1) := by decide +kernel
theorem dX12_draw_31 : decode cX12_draw 31 = .ok (.sipush 32767, 3) := by decide +kernel
theorem dX12_draw_34 : decode cX12_draw 34 = .ok (.iand, 1) := by decide +kernel
theorem dX12_draw_35 : decode cX12_draw 35 = .ok (.iload_n 1, 1) := by decide +kernel
theorem dX12_draw_36 : decode cX12_draw 36 = .ok (.irem, 1) := by decide +kernel
theorem dX12_draw_37 : decode cX12_draw 37 = .ok (.ireturn, 1) := by decide +kernel
theorem dX12_logs_0 : decode cX12_logs 0 = .ok (.sipush 299, 3) := by decide +kernel
theorem dX12_logs_3 : decode cX12_logs 3 = .ok (.istore 4, 2) := by decide +kernel
theorem dX12_logs_5 : decode cX12_logs 5 = .ok (.iload 4, 2) := by decide +kernel
theorem dX12_logs_7 : decode cX12_logs 7 = .ok (.iconst 5, 1) := by decide +kernel
theorem dX12_logs_8 : decode cX12_logs 8 = .ok (.if_icmp .lt 33, 3) := by decide +kernel
theorem dX12_logs_11 : decode cX12_logs 11 = .ok (.aload_n 0, 1) := by decide +kernel
theorem dX12_logs_12 : decode cX12_logs 12 = .ok (.getfield 7, 3) := by decide +kernel
theorem dX12_logs_15 : decode cX12_logs 15 = .ok (.sipush 188, 3) := by decide +kernel
theorem dX12_logs_18 : decode cX12_logs 18 = .ok (.iload 4, 2) := by decide +kernel
theorem dX12_logs_20 : decode cX12_logs 20 = .ok (.iadd, 1) := by decide +kernel
theorem dX12_logs_21 : decode cX12_logs 21 = .ok (.aload_n 0, 1) := by decide +kernel
theorem dX12_logs_22 : decode cX12_logs 22 = .ok (.getfield 7, 3) := by decide +kernel
theorem dX12_logs_25 : decode cX12_logs 25 = .ok (.sipush 188, 3) := by decide +kernel
theorem dX12_logs_28 : decode cX12_logs 28 = .ok (.iload 4, 2) := by decide +kernel
theorem dX12_logs_30 : decode cX12_logs 30 = .ok (.iadd, 1) := by decide +kernel
theorem dX12_logs_31 : decode cX12_logs 31 = .ok (.iconst 5, 1) := by decide +kernel
theorem dX12_logs_32 : decode cX12_logs 32 = .ok (.isub, 1) := by decide +kernel
theorem dX12_logs_33 : decode cX12_logs 33 = .ok (.iaload, 1) := by decide +kernel
theorem dX12_logs_34 : decode cX12_logs 34 = .ok (.iastore, 1) := by decide +kernel
theorem dX12_logs_35 : decode cX12_logs 35 = .ok (.iinc 4 (-1), 3) := by decide +kernel
theorem dX12_logs_38 : decode cX12_logs 38 = .ok (.goto (-33), 3) := by decide +kernel
theorem dX12_logs_41 : decode cX12_logs 41 = .ok (.aload_n 0, 1) := by decide +kernel
theorem dX12_logs_42 : decode cX12_logs 42 = .ok (.getfield 7, 3) := by decide +kernel
theorem dX12_logs_45 : decode cX12_logs 45 = .ok (.sipush 188, 3) := by decide +kernel
theorem dX12_logs_48 : decode cX12_logs 48 = .ok (.aload_n 0, 1) := by decide +kernel
theorem dX12_logs_49 : decode cX12_logs 49 = .ok (.getfield 7, 3) := by decide +kernel
theorem dX12_logs_52 : decode cX12_logs 52 = .ok (.bipush 6, 2) := by decide +kernel
theorem dX12_logs_54 : decode cX12_logs 54 = .ok (.iaload, 1) := by decide +kernel
theorem dX12_logs_55 : decode cX12_logs 55 = .ok (.iastore, 1) := by decide +kernel
theorem dX12_logs_56 : decode cX12_logs 56 = .ok (.aload_n 0, 1) := by decide +kernel
theorem dX12_logs_57 : decode cX12_logs 57 = .ok (.getfield 7, 3) := by decide +kernel
theorem dX12_logs_60 : decode cX12_logs 60 = .ok (.sipush 189, 3) := by decide +kernel
theorem dX12_logs_63 : decode cX12_logs 63 = .ok (.aload_n 0, 1) := by decide +kernel
theorem dX12_logs_64 : decode cX12_logs 64 = .ok (.getfield 7, 3) := by decide +kernel
theorem dX12_logs_67 : decode cX12_logs 67 = .ok (.iconst 5, 1) := by decide +kernel
theorem dX12_logs_68 : decode cX12_logs 68 = .ok (.iaload, 1) := by decide +kernel
theorem dX12_logs_69 : decode cX12_logs 69 = .ok (.iastore, 1) := by decide +kernel
theorem dX12_logs_70 : decode cX12_logs 70 = .ok (.aload_n 0, 1) := by decide +kernel
theorem dX12_logs_71 : decode cX12_logs 71 = .ok (.getfield 7, 3) := by decide +kernel
theorem dX12_logs_74 : decode cX12_logs 74 = .ok (.sipush 190, 3) := by decide +kernel
theorem dX12_logs_77 : decode cX12_logs 77 = .ok (.iload_n 1, 1) := by decide +kernel
theorem dX12_logs_78 : decode cX12_logs 78 = .ok (.iastore, 1) := by decide +kernel
theorem dX12_logs_79 : decode cX12_logs 79 = .ok (.aload_n 0, 1) := by decide +kernel
theorem dX12_logs_80 : decode cX12_logs 80 = .ok (.getfield 7, 3) := by decide +kernel
theorem dX12_logs_83 : decode cX12_logs 83 = .ok (.sipush 191, 3) := by decide +kernel
theorem dX12_logs_86 : decode cX12_logs 86 = .ok (.iload_n 2, 1) := by decide +kernel
theorem dX12_logs_87 : decode cX12_logs 87 = .ok (.iastore, 1) := by decide +kernel
theorem dX12_logs_88 : decode cX12_logs 88 = .ok (.aload_n 0, 1) := by decide +kernel
theorem dX12_logs_89 : decode cX12_logs 89 = .ok (.getfield 7, 3) := by decide +kernel
theorem dX12_logs_92 : decode cX12_logs 92 = .ok (.sipush 192, 3) := by decide +kernel
theorem dX12_logs_95 : decode cX12_logs 95 = .ok (.iload_n 3, 1) := by decide +kernel
theorem dX12_logs_96 : decode cX12_logs 96 = .ok (.iastore, 1) := by decide +kernel
theorem dX12_logs_97 : decode cX12_logs 97 = .ok (.aload_n 0, 1) := by decide +kernel
theorem dX12_logs_98 : decode cX12_logs 98 = .ok (.getfield 7, 3) := by decide +kernel
theorem dX12_logs_101 : decode cX12_logs 101 = .ok (.bipush 9, 2) := by decide +kernel
theorem dX12_logs_103 : decode cX12_logs 103 = .ok (.bipush 60, 2) := by decide +kernel
theorem dX12_logs_105 : decode cX12_logs 105 = .ok (.aload_n 0, 1) := by decide +kernel
theorem dX12_logs_106 : decode cX12_logs 106 = .ok (.getfield 7, 3) := by decide +kernel
theorem dX12_logs_109 : decode cX12_logs 109 = .ok (.bipush 9, 2) := by decide +kernel
theorem dX12_logs_111 : decode cX12_logs 111 = .ok (.iaload, 1) := by decide +kernel
theorem dX12_logs_112 : decode cX12_logs 112 = .ok (.iconst 1, 1) := by decide +kernel
theorem dX12_logs_113 : decode cX12_logs 113 = .ok (.iadd, 1) := by decide +kernel
theorem dX12_logs_114 : decode cX12_logs 114 = .ok (.invokestatic 256, 3) := by decide +kernel
theorem dX12_logs_117 : decode cX12_logs 117 = .ok (.iastore, 1) := by decide +kernel
theorem dX12_logs_118 : decode cX12_logs 118 = .ok (.return_, 1) := by decide +kernel
theorem dX12_steps_0 : decode cX12_steps 0 = .ok (.aload_n 0, 1) := by decide +kernel
theorem dX12_steps_1 : decode cX12_steps 1 = .ok (.iload_n 1, 1) := by decide +kernel
theorem dX12_steps_2 : decode cX12_steps 2 = .ok (.iconst 2, 1) := by decide +kernel
theorem dX12_steps_3 : decode cX12_steps 3 = .ok (.invokevirtual 243, 3) := by decide +kernel
theorem dX12_steps_6 : decode cX12_steps 6 = .ok (.istore_n 2, 1) := by decide +kernel
theorem dX12_steps_7 : decode cX12_steps 7 = .ok (.aload_n 0, 1) := by decide +kernel
theorem dX12_steps_8 : decode cX12_steps 8 = .ok (.iload_n 1, 1) := by decide +kernel
theorem dX12_steps_9 : decode cX12_steps 9 = .ok (.iconst 0, 1) := by decide +kernel
theorem dX12_steps_10 : decode cX12_steps 10 = .ok (.invokevirtual 243, 3) := by decide +kernel
theorem dX12_steps_13 : decode cX12_steps 13 = .ok (.istore_n 3, 1) := by decide +kernel
theorem dX12_steps_14 : decode cX12_steps 14 = .ok (.iload_n 2, 1) := by decide +kernel
theorem dX12_steps_15 : decode cX12_steps 15 = .ok (.iconst (-1), 1) := by decide +kernel
theorem dX12_steps_16 : decode cX12_steps 16 = .ok (.if_icmp .ne 4, 3) := by decide +kernel
theorem dX12_steps_19 : decode cX12_steps 19 = .ok (.return_, 1) := by decide +kernel
theorem dX12_steps_20 : decode cX12_steps 20 = .ok (.aload_n 0, 1) := by decide +kernel
theorem dX12_steps_21 : decode cX12_steps 21 = .ok (.iload_n 3, 1) := by decide +kernel
theorem dX12_steps_22 : decode cX12_steps 22 = .ok (.iload_n 2, 1) := by decide +kernel
theorem dX12_steps_23 : decode cX12_steps 23 = .ok (.invokevirtual 259, 3) := by decide +kernel
theorem dX12_steps_26 : decode cX12_steps 26 = .ok (.istore 4, 2) := by decide +kernel
theorem dX12_steps_28 : decode cX12_steps 28 = .ok (.iload_n 3, 1) := by decide +kernel
theorem dX12_steps_29 : decode cX12_steps 29 = .ok (.istore 5, 2) := by decide +kernel
theorem dX12_steps_31 : decode cX12_steps 31 = .ok (.aload_n 0, 1) := by decide +kernel
theorem dX12_steps_32 : decode cX12_steps 32 = .ok (.getfield 7, 3) := by decide +kernel
theorem dX12_steps_35 : decode cX12_steps 35 = .ok (.iconst 3, 1) := by decide +kernel
theorem dX12_steps_36 : decode cX12_steps 36 = .ok (.iaload, 1) := by decide +kernel
theorem dX12_steps_37 : decode cX12_steps 37 = .ok (.iconst 1, 1) := by decide +kernel
theorem dX12_steps_38 : decode cX12_steps 38 = .ok (.isub, 1) := by decide +kernel
theorem dX12_steps_39 : decode cX12_steps 39 = .ok (.istore 6, 2) := by decide +kernel
theorem dX12_steps_41 : decode cX12_steps 41 = .ok (.iload 6, 2) := by decide +kernel
theorem dX12_steps_43 : decode cX12_steps 43 = .ok (.ifCond .lt 42, 3) := by decide +kernel
theorem dX12_steps_46 : decode cX12_steps 46 = .ok (.iload 4, 2) := by decide +kernel
theorem dX12_steps_48 : decode cX12_steps 48 = .ok (.ifCond .le 31, 3) := by decide +kernel
theorem dX12_steps_51 : decode cX12_steps 51 = .ok (.aload_n 0, 1) := by decide +kernel
theorem dX12_steps_52 : decode cX12_steps 52 = .ok (.iload_n 3, 1) := by decide +kernel
theorem dX12_steps_53 : decode cX12_steps 53 = .ok (.iload 6, 2) := by decide +kernel
theorem dX12_steps_55 : decode cX12_steps 55 = .ok (.invokevirtual 58, 3) := by decide +kernel
theorem dX12_steps_58 : decode cX12_steps 58 = .ok (.ifCond .eq 21, 3) := by decide +kernel
theorem dX12_steps_61 : decode cX12_steps 61 = .ok (.aload_n 0, 1) := by decide +kernel
theorem dX12_steps_62 : decode cX12_steps 62 = .ok (.iload 6, 2) := by decide +kernel
theorem dX12_steps_64 : decode cX12_steps 64 = .ok (.iload_n 2, 1) := by decide +kernel
theorem dX12_steps_65 : decode cX12_steps 65 = .ok (.invokevirtual 259, 3) := by decide +kernel
theorem dX12_steps_68 : decode cX12_steps 68 = .ok (.iload 4, 2) := by decide +kernel
theorem dX12_steps_70 : decode cX12_steps 70 = .ok (.iconst 1, 1) := by decide +kernel
theorem dX12_steps_71 : decode cX12_steps 71 = .ok (.isub, 1) := by decide +kernel
theorem dX12_steps_72 : decode cX12_steps 72 = .ok (.if_icmp .ne 7, 3) := by decide +kernel
theorem dX12_steps_75 : decode cX12_steps 75 = .ok (.iload 6, 2) := by decide +kernel
theorem dX12_steps_77 : decode cX12_steps 77 = .ok (.istore 5, 2) := by decide +kernel
theorem dX12_steps_79 : decode cX12_steps 79 = .ok (.iinc 6 (-1), 3) := by decide +kernel
theorem dX12_steps_82 : decode cX12_steps 82 = .ok (.goto (-41), 3) := by decide +kernel
theorem dX12_steps_85 : decode cX12_steps 85 = .ok (.aload_n 0, 1) := by decide +kernel
theorem dX12_steps_86 : decode cX12_steps 86 = .ok (.getfield 7, 3) := by decide +kernel
theorem dX12_steps_89 : decode cX12_steps 89 = .ok (.sipush 128, 3) := by decide +kernel
theorem dX12_steps_92 : decode cX12_steps 92 = .ok (.iconst 4, 1) := by decide +kernel
theorem dX12_steps_93 : decode cX12_steps 93 = .ok (.iload_n 1, 1) := by decide +kernel
theorem dX12_steps_94 : decode cX12_steps 94 = .ok (.imul, 1) := by decide +kernel
theorem dX12_steps_95 : decode cX12_steps 95 = .ok (.iadd, 1) := by decide +kernel
theorem dX12_steps_96 : decode cX12_steps 96 = .ok (.iconst 0, 1) := by decide +kernel
theorem dX12_steps_97 : decode cX12_steps 97 = .ok (.iadd, 1) := by decide +kernel
theorem dX12_steps_98 : decode cX12_steps 98 = .ok (.iload 5, 2) := by decide +kernel
theorem dX12_steps_100 : decode cX12_steps 100 = .ok (.iastore, 1) := by decide +kernel
theorem dX12_steps_101 : decode cX12_steps 101 = .ok (.iload 5, 2) := by decide +kernel
theorem dX12_steps_103 : decode cX12_steps 103 = .ok (.iload_n 2, 1) := by decide +kernel
theorem dX12_steps_104 : decode cX12_steps 104 = .ok (.if_icmp .ne 18, 3) := by decide +kernel
theorem dX12_steps_107 : decode cX12_steps 107 = .ok (.aload_n 0, 1) := by decide +kernel
theorem dX12_steps_108 : decode cX12_steps 108 = .ok (.getfield 7, 3) := by decide +kernel
theorem dX12_steps_111 : decode cX12_steps 111 = .ok (.sipush 128, 3) := by decide +kernel
theorem dX12_steps_114 : decode cX12_steps 114 = .ok (.iconst 4, 1) := by decide +kernel
theorem dX12_steps_115 : decode cX12_steps 115 = .ok (.iload_n 1, 1) := by decide +kernel
theorem dX12_steps_116 : decode cX12_steps 116 = .ok (.imul, 1) := by decide +kernel
theorem dX12_steps_117 : decode cX12_steps 117 = .ok (.iadd, 1) := by decide +kernel
theorem dX12_steps_118 : decode cX12_steps 118 = .ok (.iconst 2, 1) := by decide +kernel
theorem dX12_steps_119 : decode cX12_steps 119 = .ok (.iadd, 1) := by decide +kernel
theorem dX12_steps_120 : decode cX12_steps 120 = .ok (.iconst (-1), 1) := by decide +kernel
theorem dX12_steps_121 : decode cX12_steps 121 = .ok (.iastore, 1) := by decide +kernel
theorem dX12_steps_122 : decode cX12_steps 122 = .ok (.return_, 1) := by decide +kernel
theorem dX12_kindles_0 : decode cX12_kindles 0 = .ok (.aload_n 0, 1) := by decide +kernel
theorem dX12_kindles_1 : decode cX12_kindles 1 = .ok (.iload_n 2, 1) := by decide +kernel
theorem dX12_kindles_2 : decode cX12_kindles 2 = .ok (.iconst 1, 1) := by decide +kernel
theorem dX12_kindles_3 : decode cX12_kindles 3 = .ok (.iconst 1, 1) := by decide +kernel
theorem dX12_kindles_4 : decode cX12_kindles 4 = .ok (.invokevirtual 112, 3) := by decide +kernel
theorem dX12_kindles_7 : decode cX12_kindles 7 = .ok (.aload_n 0, 1) := by decide +kernel
theorem dX12_kindles_8 : decode cX12_kindles 8 = .ok (.iload_n 2, 1) := by decide +kernel
theorem dX12_kindles_9 : decode cX12_kindles 9 = .ok (.iconst 3, 1) := by decide +kernel
theorem dX12_kindles_10 : decode cX12_kindles 10 = .ok (.iconst 0, 1) := by decide +kernel
theorem dX12_kindles_11 : decode cX12_kindles 11 = .ok (.invokevirtual 112, 3) := by decide +kernel
theorem dX12_kindles_14 : decode cX12_kindles 14 = .ok (.aload_n 0, 1) := by decide +kernel
theorem dX12_kindles_15 : decode cX12_kindles 15 = .ok (.getfield 7, 3) := by decide +kernel
theorem dX12_kindles_18 : decode cX12_kindles 18 = .ok (.sipush 128, 3) := by decide +kernel
theorem dX12_kindles_21 : decode cX12_kindles 21 = .ok (.iconst 4, 1) := by decide +kernel
theorem dX12_kindles_22 : decode cX12_kindles 22 = .ok (.iload_n 1, 1) := by decide +kernel
theorem dX12_kindles_23 : decode cX12_kindles 23 = .ok (.imul, 1) := by decide +kernel
theorem dX12_kindles_24 : decode cX12_kindles 24 = .ok (.iadd, 1) := by decide +kernel
theorem dX12_kindles_25 : decode cX12_kindles 25 = .ok (.iconst 1, 1) := by decide +kernel
theorem dX12_kindles_26 : decode cX12_kindles 26 = .ok (.iadd, 1) := by decide +kernel
theorem dX12_kindles_27 : decode cX12_kindles 27 = .ok (.dup2, 1) := by decide +kernel
theorem dX12_kindles_28 : decode cX12_kindles 28 = .ok (.iaload, 1) := by decide +kernel
theorem dX12_kindles_29 : decode cX12_kindles 29 = .ok (.iconst 1, 1) := by decide +kernel
theorem dX12_kindles_30 : decode cX12_kindles 30 = .ok (.isub, 1) := by decide +kernel
theorem dX12_kindles_31 : decode cX12_kindles 31 = .ok (.iastore, 1) := by decide +kernel
theorem dX12_kindles_32 : decode cX12_kindles 32 = .ok (.aload_n 0, 1) := by decide +kernel
theorem dX12_kindles_33 : decode cX12_kindles 33 = .ok (.getfield 7, 3) := by decide +kernel
theorem dX12_kindles_36 : decode cX12_kindles 36 = .ok (.sipush 128, 3) := by decide +kernel
theorem dX12_kindles_39 : decode cX12_kindles 39 = .ok (.iconst 4, 1) := by decide +kernel
theorem dX12_kindles_40 : decode cX12_kindles 40 = .ok (.iload_n 1, 1) := by decide +kernel
theorem dX12_kindles_41 : decode cX12_kindles 41 = .ok (.imul, 1) := by decide +kernel
theorem dX12_kindles_42 : decode cX12_kindles 42 = .ok (.iadd, 1) := by decide +kernel
theorem dX12_kindles_43 : decode cX12_kindles 43 = .ok (.iconst 3, 1) := by decide +kernel
theorem dX12_kindles_44 : decode cX12_kindles 44 = .ok (.iadd, 1) := by decide +kernel
theorem dX12_kindles_45 : decode cX12_kindles 45 = .ok (.sipush 999, 3) := by decide +kernel
theorem dX12_kindles_48 : decode cX12_kindles 48 = .ok (.aload_n 0, 1) := by decide +kernel
theorem dX12_kindles_49 : decode cX12_kindles 49 = .ok (.iload_n 1, 1) := by decide +kernel
theorem dX12_kindles_50 : decode cX12_kindles 50 = .ok (.iconst 3, 1) := by decide +kernel
theorem dX12_kindles_51 : decode cX12_kindles 51 = .ok (.invokevirtual 243, 3) := by decide +kernel
theorem dX12_kindles_54 : decode cX12_kindles 54 = .ok (.iconst 1, 1) := by decide +kernel
theorem dX12_kindles_55 : decode cX12_kindles 55 = .ok (.iadd, 1) := by decide +kernel
theorem dX12_kindles_56 : decode cX12_kindles 56 = .ok (.invokestatic 256, 3) := by decide +kernel
theorem dX12_kindles_59 : decode cX12_kindles 59 = .ok (.iastore, 1) := by decide +kernel
theorem dX12_kindles_60 : decode cX12_kindles 60 = .ok (.aload_n 0, 1) := by decide +kernel
theorem dX12_kindles_61 : decode cX12_kindles 61 = .ok (.iload_n 2, 1) := by decide +kernel
theorem dX12_kindles_62 : decode cX12_kindles 62 = .ok (.iconst 2, 1) := by decide +kernel
theorem dX12_kindles_63 : decode cX12_kindles 63 = .ok (.invokevirtual 128, 3) := by decide +kernel
theorem dX12_kindles_66 : decode cX12_kindles 66 = .ok (.istore 4, 2) := by decide +kernel
theorem dX12_kindles_68 : decode cX12_kindles 68 = .ok (.iload 4, 2) := by decide +kernel
theorem dX12_kindles_70 : decode cX12_kindles 70 = .ok (.iconst (-1), 1) := by decide +kernel
theorem dX12_kindles_71 : decode cX12_kindles 71 = .ok (.if_icmp .eq 33, 3) := by decide +kernel
theorem dX12_kindles_74 : decode cX12_kindles 74 = .ok (.aload_n 0, 1) := by decide +kernel
theorem dX12_kindles_75 : decode cX12_kindles 75 = .ok (.getfield 7, 3) := by decide +kernel
theorem dX12_kindles_78 : decode cX12_kindles 78 = .ok (.sipush 152, 3) := by decide +kernel
theorem dX12_kindles_81 : decode cX12_kindles 81 = .ok (.bipush 6, 2) := by decide +kernel
theorem dX12_kindles_83 : decode cX12_kindles 83 = .ok (.iload 4, 2) := by decide +kernel
theorem dX12_kindles_85 : decode cX12_kindles 85 = .ok (.imul, 1) := by decide +kernel
theorem dX12_kindles_86 : decode cX12_kindles 86 = .ok (.iadd, 1) := by decide +kernel
theorem dX12_kindles_87 : decode cX12_kindles 87 = .ok (.iload_n 1, 1) := by decide +kernel
theorem dX12_kindles_88 : decode cX12_kindles 88 = .ok (.iadd, 1) := by decide +kernel
theorem dX12_kindles_89 : decode cX12_kindles 89 = .ok (.bipush 9, 2) := by decide +kernel
theorem dX12_kindles_91 : decode cX12_kindles 91 = .ok (.aload_n 0, 1) := by decide +kernel
theorem dX12_kindles_92 : decode cX12_kindles 92 = .ok (.iload 4, 2) := by decide +kernel
theorem dX12_kindles_94 : decode cX12_kindles 94 = .ok (.iload_n 1, 1) := by decide +kernel
theorem dX12_kindles_95 : decode cX12_kindles 95 = .ok (.invokevirtual 240, 3) := by decide +kernel
theorem dX12_kindles_98 : decode cX12_kindles 98 = .ok (.iconst 1, 1) := by decide +kernel
theorem dX12_kindles_99 : decode cX12_kindles 99 = .ok (.iadd, 1) := by decide +kernel
theorem dX12_kindles_100 : decode cX12_kindles 100 = .ok (.invokestatic 256, 3) := by decide +kernel
theorem dX12_kindles_103 : decode cX12_kindles 103 = .ok (.iastore, 1) := by decide +kernel
theorem dX12_kindles_104 : decode cX12_kindles 104 = .ok (.aload_n 0, 1) := by decide +kernel
theorem dX12_kindles_105 : decode cX12_kindles 105 = .ok (.iload_n 3, 1) := by decide +kernel
theorem dX12_kindles_106 : decode cX12_kindles 106 = .ok (.iload_n 2, 1) := by decide +kernel
theorem dX12_kindles_107 : decode cX12_kindles 107 = .ok (.iload_n 1, 1) := by decide +kernel
theorem dX12_kindles_108 : decode cX12_kindles 108 = .ok (.invokevirtual 262, 3) := by decide +kernel
theorem dX12_kindles_111 : decode cX12_kindles 111 = .ok (.return_, 1) := by decide +kernel
theorem dX12_burns_0 : decode cX12_burns 0 = .ok (.aload_n 0, 1) := by decide +kernel
theorem dX12_burns_1 : decode cX12_burns 1 = .ok (.iload_n 1, 1) := by decide +kernel
theorem dX12_burns_2 : decode cX12_burns 2 = .ok (.iconst 1, 1) := by decide +kernel
theorem dX12_burns_3 : decode cX12_burns 3 = .ok (.invokevirtual 128, 3) := by decide +kernel
theorem dX12_burns_6 : decode cX12_burns 6 = .ok (.iconst 1, 1) := by decide +kernel
theorem dX12_burns_7 : decode cX12_burns 7 = .ok (.if_icmp .ne 44, 3) := by decide +kernel
theorem dX12_burns_10 : decode cX12_burns 10 = .ok (.aload_n 0, 1) := by decide +kernel
theorem dX12_burns_11 : decode cX12_burns 11 = .ok (.iload_n 1, 1) := by decide +kernel
theorem dX12_burns_12 : decode cX12_burns 12 = .ok (.iconst 0, 1) := by decide +kernel
theorem dX12_burns_13 : decode cX12_burns 13 = .ok (.iconst 0, 1) := by decide +kernel
theorem dX12_burns_14 : decode cX12_burns 14 = .ok (.aload_n 0, 1) := by decide +kernel
theorem dX12_burns_15 : decode cX12_burns 15 = .ok (.iload_n 1, 1) := by decide +kernel
theorem dX12_burns_16 : decode cX12_burns 16 = .ok (.iconst 0, 1) := by decide +kernel
theorem dX12_burns_17 : decode cX12_burns 17 = .ok (.invokevirtual 128, 3) := by decide +kernel
theorem dX12_burns_20 : decode cX12_burns 20 = .ok (.iconst 1, 1) := by decide +kernel
theorem dX12_burns_21 : decode cX12_burns 21 = .ok (.isub, 1) := by decide +kernel
theorem dX12_burns_22 : decode cX12_burns 22 = .ok (.invokestatic 265, 3) := by decide +kernel
theorem dX12_burns_25 : decode cX12_burns 25 = .ok (.invokevirtual 112, 3) := by decide +kernel
theorem dX12_burns_28 : decode cX12_burns 28 = .ok (.aload_n 0, 1) := by decide +kernel
theorem dX12_burns_29 : decode cX12_burns 29 = .ok (.iload_n 1, 1) := by decide +kernel
theorem dX12_burns_30 : decode cX12_burns 30 = .ok (.iconst 0, 1) := by decide +kernel
theorem dX12_burns_31 : decode cX12_burns 31 = .ok (.invokevirtual 128, 3) := by decide +kernel
theorem dX12_burns_34 : decode cX12_burns 34 = .ok (.ifCond .ne 17, 3) := by decide +kernel
theorem dX12_burns_37 : decode cX12_burns 37 = .ok (.aload_n 0, 1) := by decide +kernel
theorem dX12_burns_38 : decode cX12_burns 38 = .ok (.iload_n 1, 1) := by decide +kernel
theorem dX12_burns_39 : decode cX12_burns 39 = .ok (.iconst 1, 1) := by decide +kernel
theorem dX12_burns_40 : decode cX12_burns 40 = .ok (.iconst 0, 1) := by decide +kernel
theorem dX12_burns_41 : decode cX12_burns 41 = .ok (.invokevirtual 112, 3) := by decide +kernel
theorem dX12_burns_44 : decode cX12_burns 44 = .ok (.aload_n 0, 1) := by decide +kernel
theorem dX12_burns_45 : decode cX12_burns 45 = .ok (.iconst 2, 1) := by decide +kernel
theorem dX12_burns_46 : decode cX12_burns 46 = .ok (.iload_n 1, 1) := by decide +kernel
theorem dX12_burns_47 : decode cX12_burns 47 = .ok (.iconst (-1), 1) := by decide +kernel
theorem dX12_burns_48 : decode cX12_burns 48 = .ok (.invokevirtual 262, 3) := by decide +kernel
theorem dX12_burns_51 : decode cX12_burns 51 = .ok (.aload_n 0, 1) := by decide +kernel
theorem dX12_burns_52 : decode cX12_burns 52 = .ok (.iload_n 1, 1) := by decide +kernel
theorem dX12_burns_53 : decode cX12_burns 53 = .ok (.iconst 1, 1) := by decide +kernel
theorem dX12_burns_54 : decode cX12_burns 54 = .ok (.invokevirtual 128, 3) := by decide +kernel
theorem dX12_burns_57 : decode cX12_burns 57 = .ok (.ifCond .ne 22, 3) := by decide +kernel
theorem dX12_burns_60 : decode cX12_burns 60 = .ok (.aload_n 0, 1) := by decide +kernel
theorem dX12_burns_61 : decode cX12_burns 61 = .ok (.iload_n 1, 1) := by decide +kernel
theorem dX12_burns_62 : decode cX12_burns 62 = .ok (.iconst 3, 1) := by decide +kernel
theorem dX12_burns_63 : decode cX12_burns 63 = .ok (.bipush 99, 2) := by decide +kernel
theorem dX12_burns_65 : decode cX12_burns 65 = .ok (.aload_n 0, 1) := by decide +kernel
theorem dX12_burns_66 : decode cX12_burns 66 = .ok (.iload_n 1, 1) := by decide +kernel
theorem dX12_burns_67 : decode cX12_burns 67 = .ok (.iconst 3, 1) := by decide +kernel
theorem dX12_burns_68 : decode cX12_burns 68 = .ok (.invokevirtual 128, 3) := by decide +kernel
theorem dX12_burns_71 : decode cX12_burns 71 = .ok (.iconst 1, 1) := by decide +kernel
theorem dX12_burns_72 : decode cX12_burns 72 = .ok (.iadd, 1) := by decide +kernel
theorem dX12_burns_73 : decode cX12_burns 73 = .ok (.invokestatic 256, 3) := by decide +kernel
theorem dX12_burns_76 : decode cX12_burns 76 = .ok (.invokevirtual 112, 3) := by decide +kernel
theorem dX12_burns_79 : decode cX12_burns 79 = .ok (.return_, 1) := by decide +kernel
theorem dX12_passes_0 : decode cX12_passes 0 = .ok (.aload_n 0, 1) := by decide +kernel
theorem dX12_passes_1 : decode cX12_passes 1 = .ok (.getfield 7, 3) := by decide +kernel
theorem dX12_passes_4 : decode cX12_passes 4 = .ok (.bipush 8, 2) := by decide +kernel
theorem dX12_passes_6 : decode cX12_passes 6 = .ok (.iload_n 1, 1) := by decide +kernel
theorem dX12_passes_7 : decode cX12_passes 7 = .ok (.ifCond .eq 23, 3) := by decide +kernel
theorem dX12_passes_10 : decode cX12_passes 10 = .ok (.aload_n 0, 1) := by decide +kernel
theorem dX12_passes_11 : decode cX12_passes 11 = .ok (.bipush 100, 2) := by decide +kernel
theorem dX12_passes_13 : decode cX12_passes 13 = .ok (.invokevirtual 268, 3) := by decide +kernel
theorem dX12_passes_16 : decode cX12_passes 16 = .ok (.aload_n 0, 1) := by decide +kernel
theorem dX12_passes_17 : decode cX12_passes 17 = .ok (.getfield 7, 3) := by decide +kernel
theorem dX12_passes_20 : decode cX12_passes 20 = .ok (.bipush 7, 2) := by decide +kernel
theorem dX12_passes_22 : decode cX12_passes 22 = .ok (.iaload, 1) := by decide +kernel
theorem dX12_passes_23 : decode cX12_passes 23 = .ok (.if_icmp .ge 7, 3) := by decide +kernel
theorem dX12_passes_26 : decode cX12_passes 26 = .ok (.iconst 1, 1) := by decide +kernel
theorem dX12_passes_27 : decode cX12_passes 27 = .ok (.goto 4, 3) := by decide +kernel
theorem dX12_passes_30 : decode cX12_passes 30 = .ok (.iconst 0, 1) := by decide +kernel
theorem dX12_passes_31 : decode cX12_passes 31 = .ok (.iastore, 1) := by decide +kernel
theorem dX12_passes_32 : decode cX12_passes 32 = .ok (.iconst 0, 1) := by decide +kernel
theorem dX12_passes_33 : decode cX12_passes 33 = .ok (.istore_n 2, 1) := by decide +kernel
theorem dX12_passes_34 : decode cX12_passes 34 = .ok (.iload_n 2, 1) := by decide +kernel
theorem dX12_passes_35 : decode cX12_passes 35 = .ok (.aload_n 0, 1) := by decide +kernel
theorem dX12_passes_36 : decode cX12_passes 36 = .ok (.getfield 7, 3) := by decide +kernel
theorem dX12_passes_39 : decode cX12_passes 39 = .ok (.iconst 4, 1) := by decide +kernel
theorem dX12_passes_40 : decode cX12_passes 40 = .ok (.iaload, 1) := by decide +kernel
theorem dX12_passes_41 : decode cX12_passes 41 = .ok (.if_icmp .ge 24, 3) := by decide +kernel
theorem dX12_passes_44 : decode cX12_passes 44 = .ok (.aload_n 0, 1) := by decide +kernel
theorem dX12_passes_45 : decode cX12_passes 45 = .ok (.getfield 7, 3) := by decide +kernel
theorem dX12_passes_48 : decode cX12_passes 48 = .ok (.bipush 8, 2) := by decide +kernel
theorem dX12_passes_50 : decode cX12_passes 50 = .ok (.iaload, 1) := by decide +kernel
theorem dX12_passes_51 : decode cX12_passes 51 = .ok (.ifCond .ne 14, 3) := by decide +kernel
theorem dX12_passes_54 : decode cX12_passes 54 = .ok (.aload_n 0, 1) := by decide +kernel
theorem dX12_passes_55 : decode cX12_passes 55 = .ok (.iload_n 2, 1) := by decide +kernel
theorem dX12_passes_56 : decode cX12_passes 56 = .ok (.invokevirtual 271, 3) := by decide +kernel
theorem dX12_passes_59 : decode cX12_passes 59 = .ok (.iinc 2 1, 3) := by decide +kernel
theorem dX12_passes_62 : decode cX12_passes 62 = .ok (.goto (-28), 3) := by decide +kernel
theorem dX12_passes_65 : decode cX12_passes 65 = .ok (.iconst 0, 1) := by decide +kernel
theorem dX12_passes_66 : decode cX12_passes 66 = .ok (.istore_n 2, 1) := by decide +kernel
theorem dX12_passes_67 : decode cX12_passes 67 = .ok (.iconst 0, 1) := by decide +kernel
theorem dX12_passes_68 : decode cX12_passes 68 = .ok (.istore_n 3, 1) := by decide +kernel
theorem dX12_passes_69 : decode cX12_passes 69 = .ok (.iload_n 3, 1) := by decide +kernel
theorem dX12_passes_70 : decode cX12_passes 70 = .ok (.aload_n 0, 1) := by decide +kernel
theorem dX12_passes_71 : decode cX12_passes 71 = .ok (.getfield 7, 3) := by decide +kernel
theorem dX12_passes_74 : decode cX12_passes 74 = .ok (.iconst 4, 1) := by decide +kernel
theorem dX12_passes_75 : decode cX12_passes 75 = .ok (.iaload, 1) := by decide +kernel
theorem dX12_passes_76 : decode cX12_passes 76 = .ok (.if_icmp .ge 41, 3) := by decide +kernel
theorem dX12_passes_79 : decode cX12_passes 79 = .ok (.aload_n 0, 1) := by decide +kernel
theorem dX12_passes_80 : decode cX12_passes 80 = .ok (.iload_n 3, 1) := by decide +kernel
theorem dX12_passes_81 : decode cX12_passes 81 = .ok (.aload_n 0, 1) := by decide +kernel
theorem dX12_passes_82 : decode cX12_passes 82 = .ok (.iload_n 3, 1) := by decide +kernel
theorem dX12_passes_83 : decode cX12_passes 83 = .ok (.iconst 0, 1) := by decide +kernel
theorem dX12_passes_84 : decode cX12_passes 84 = .ok (.invokevirtual 243, 3) := by decide +kernel
theorem dX12_passes_87 : decode cX12_passes 87 = .ok (.invokevirtual 274, 3) := by decide +kernel
theorem dX12_passes_90 : decode cX12_passes 90 = .ok (.ifCond .ne 6, 3) := by decide +kernel
theorem dX12_passes_93 : decode cX12_passes 93 = .ok (.goto 18, 3) := by decide +kernel
theorem dX12_passes_96 : decode cX12_passes 96 = .ok (.aload_n 0, 1) := by decide +kernel
theorem dX12_passes_97 : decode cX12_passes 97 = .ok (.iload_n 3, 1) := by decide +kernel
theorem dX12_passes_98 : decode cX12_passes 98 = .ok (.aload_n 0, 1) := by decide +kernel
theorem dX12_passes_99 : decode cX12_passes 99 = .ok (.iload_n 3, 1) := by decide +kernel
theorem dX12_passes_100 : decode cX12_passes 100 = .ok (.iconst 0, 1) := by decide +kernel
theorem dX12_passes_101 : decode cX12_passes 101 = .ok (.invokevirtual 243, 3) := by decide +kernel
theorem dX12_passes_104 : decode cX12_passes 104 = .ok (.iconst 0, 1) := by decide +kernel
theorem dX12_passes_105 : decode cX12_passes 105 = .ok (.invokevirtual 277, 3) := by decide +kernel
theorem dX12_passes_108 : decode cX12_passes 108 = .ok (.iinc 2 1, 3) := by decide +kernel
theorem dX12_passes_111 : decode cX12_passes 111 = .ok (.iinc 3 1, 3) := by decide +kernel
theorem dX12_passes_114 : decode cX12_passes 114 = .ok (.goto (-45), 3) := by decide +kernel
theorem dX12_passes_117 : decode cX12_passes 117 = .ok (.iconst 0, 1) := by decide +kernel
theorem dX12_passes_118 : decode cX12_passes 118 = .ok (.istore_n 3, 1) := by decide +kernel
theorem dX12_passes_119 : decode cX12_passes 119 = .ok (.iload_n 3, 1) := by decide +kernel
theorem dX12_passes_120 : decode cX12_passes 120 = .ok (.aload_n 0, 1) := by decide +kernel
theorem dX12_passes_121 : decode cX12_passes 121 = .ok (.getfield 7, 3) := by decide +kernel
theorem dX12_passes_124 : decode cX12_passes 124 = .ok (.iconst 3, 1) := by decide +kernel
theorem dX12_passes_125 : decode cX12_passes 125 = .ok (.iaload, 1) := by decide +kernel
theorem dX12_passes_126 : decode cX12_passes 126 = .ok (.if_icmp .ge 14, 3) := by decide +kernel
theorem dX12_passes_129 : decode cX12_passes 129 = .ok (.aload_n 0, 1) := by decide +kernel
theorem dX12_passes_130 : decode cX12_passes 130 = .ok (.iload_n 3, 1) := by decide +kernel
theorem dX12_passes_131 : decode cX12_passes 131 = .ok (.invokevirtual 280, 3) := by decide +kernel
theorem dX12_passes_134 : decode cX12_passes 134 = .ok (.iinc 3 1, 3) := by decide +kernel
theorem dX12_passes_137 : decode cX12_passes 137 = .ok (.goto (-18), 3) := by decide +kernel
theorem dX12_passes_140 : decode cX12_passes 140 = .ok (.aload_n 0, 1) := by decide +kernel
theorem dX12_passes_141 : decode cX12_passes 141 = .ok (.getfield 7, 3) := by decide +kernel
theorem dX12_passes_144 : decode cX12_passes 144 = .ok (.iconst 5, 1) := by decide +kernel
theorem dX12_passes_145 : decode cX12_passes 145 = .ok (.dup2, 1) := by decide +kernel
theorem dX12_passes_146 : decode cX12_passes 146 = .ok (.iaload, 1) := by decide +kernel
theorem dX12_passes_147 : decode cX12_passes 147 = .ok (.iconst 1, 1) := by decide +kernel
theorem dX12_passes_148 : decode cX12_passes 148 = .ok (.iadd, 1) := by decide +kernel
theorem dX12_passes_149 : decode cX12_passes 149 = .ok (.iastore, 1) := by decide +kernel
theorem dX12_passes_150 : decode cX12_passes 150 = .ok (.aload_n 0, 1) := by decide +kernel
theorem dX12_passes_151 : decode cX12_passes 151 = .ok (.getfield 7, 3) := by decide +kernel
theorem dX12_passes_154 : decode cX12_passes 154 = .ok (.iconst 5, 1) := by decide +kernel
theorem dX12_passes_155 : decode cX12_passes 155 = .ok (.iaload, 1) := by decide +kernel
theorem dX12_passes_156 : decode cX12_passes 156 = .ok (.bipush 24, 2) := by decide +kernel
theorem dX12_passes_158 : decode cX12_passes 158 = .ok (.if_icmp .ne 32, 3) := by decide +kernel
theorem dX12_passes_161 : decode cX12_passes 161 = .ok (.aload_n 0, 1) := by decide +kernel
theorem dX12_passes_162 : decode cX12_passes 162 = .ok (.getfield 7, 3) := by decide +kernel
theorem dX12_passes_165 : decode cX12_passes 165 = .ok (.iconst 5, 1) := by decide +kernel
theorem dX12_passes_166 : decode cX12_passes 166 = .ok (.iconst 0, 1) := by decide +kernel
theorem dX12_passes_167 : decode cX12_passes 167 = .ok (.iastore, 1) := by decide +kernel
theorem dX12_passes_168 : decode cX12_passes 168 = .ok (.aload_n 0, 1) := by decide +kernel
theorem dX12_passes_169 : decode cX12_passes 169 = .ok (.getfield 7, 3) := by decide +kernel
theorem dX12_passes_172 : decode cX12_passes 172 = .ok (.bipush 6, 2) := by decide +kernel
theorem dX12_passes_174 : decode cX12_passes 174 = .ok (.sipush 9999, 3) := by decide +kernel
theorem dX12_passes_177 : decode cX12_passes 177 = .ok (.aload_n 0, 1) := by decide +kernel
theorem dX12_passes_178 : decode cX12_passes 178 = .ok (.getfield 7, 3) := by decide +kernel
theorem dX12_passes_181 : decode cX12_passes 181 = .ok (.bipush 6, 2) := by decide +kernel
theorem dX12_passes_183 : decode cX12_passes 183 = .ok (.iaload, 1) := by decide +kernel
theorem dX12_passes_184 : decode cX12_passes 184 = .ok (.iconst 1, 1) := by decide +kernel
theorem dX12_passes_185 : decode cX12_passes 185 = .ok (.iadd, 1) := by decide +kernel
theorem dX12_passes_186 : decode cX12_passes 186 = .ok (.invokestatic 256, 3) := by decide +kernel
theorem dX12_passes_189 : decode cX12_passes 189 = .ok (.iastore, 1) := by decide +kernel
theorem dX12_passes_190 : decode cX12_passes 190 = .ok (.iload_n 2, 1) := by decide +kernel
theorem dX12_passes_191 : decode cX12_passes 191 = .ok (.ireturn, 1) := by decide +kernel
theorem dX12_goes_0 : decode cX12_goes 0 = .ok (.iconst 0, 1) := by decide +kernel
theorem dX12_goes_1 : decode cX12_goes 1 = .ok (.istore_n 3, 1) := by decide +kernel
theorem dX12_goes_2 : decode cX12_goes 2 = .ok (.iconst 0, 1) := by decide +kernel
theorem dX12_goes_3 : decode cX12_goes 3 = .ok (.istore 4, 2) := by decide +kernel
theorem dX12_goes_5 : decode cX12_goes 5 = .ok (.iload 4, 2) := by decide +kernel
theorem dX12_goes_7 : decode cX12_goes 7 = .ok (.iload_n 1, 1) := by decide +kernel
theorem dX12_goes_8 : decode cX12_goes 8 = .ok (.if_icmp .ge 17, 3) := by decide +kernel
theorem dX12_goes_11 : decode cX12_goes 11 = .ok (.iload_n 3, 1) := by decide +kernel
theorem dX12_goes_12 : decode cX12_goes 12 = .ok (.aload_n 0, 1) := by decide +kernel
theorem dX12_goes_13 : decode cX12_goes 13 = .ok (.iload_n 2, 1) := by decide +kernel
theorem dX12_goes_14 : decode cX12_goes 14 = .ok (.invokevirtual 283, 3) := by decide +kernel
theorem dX12_goes_17 : decode cX12_goes 17 = .ok (.iadd, 1) := by decide +kernel
theorem dX12_goes_18 : decode cX12_goes 18 = .ok (.istore_n 3, 1) := by decide +kernel
theorem dX12_goes_19 : decode cX12_goes 19 = .ok (.iinc 4 1, 3) := by decide +kernel
theorem dX12_goes_22 : decode cX12_goes 22 = .ok (.goto (-17), 3) := by decide +kernel
theorem dX12_goes_25 : decode cX12_goes 25 = .ok (.iload_n 3, 1) := by decide +kernel
theorem dX12_goes_26 : decode cX12_goes 26 = .ok (.ireturn, 1) := by decide +kernel
theorem dX12_burning_0 : decode cX12_burning 0 = .ok (.iconst 0, 1) := by decide +kernel
theorem dX12_burning_1 : decode cX12_burning 1 = .ok (.istore_n 1, 1) := by decide +kernel
theorem dX12_burning_2 : decode cX12_burning 2 = .ok (.iconst 0, 1) := by decide +kernel
theorem dX12_burning_3 : decode cX12_burning 3 = .ok (.istore_n 2, 1) := by decide +kernel
theorem dX12_burning_4 : decode cX12_burning 4 = .ok (.iload_n 2, 1) := by decide +kernel
theorem dX12_burning_5 : decode cX12_burning 5 = .ok (.aload_n 0, 1) := by decide +kernel
theorem dX12_burning_6 : decode cX12_burning 6 = .ok (.getfield 7, 3) := by decide +kernel
theorem dX12_burning_9 : decode cX12_burning 9 = .ok (.iconst 3, 1) := by decide +kernel
theorem dX12_burning_10 : decode cX12_burning 10 = .ok (.iaload, 1) := by decide +kernel
theorem dX12_burning_11 : decode cX12_burning 11 = .ok (.if_icmp .ge 20, 3) := by decide +kernel
theorem dX12_burning_14 : decode cX12_burning 14 = .ok (.iload_n 1, 1) := by decide +kernel
theorem dX12_burning_15 : decode cX12_burning 15 = .ok (.aload_n 0, 1) := by decide +kernel
theorem dX12_burning_16 : decode cX12_burning 16 = .ok (.iload_n 2, 1) := by decide +kernel
theorem dX12_burning_17 : decode cX12_burning 17 = .ok (.iconst 1, 1) := by decide +kernel
theorem dX12_burning_18 : decode cX12_burning 18 = .ok (.invokevirtual 128, 3) := by decide +kernel
theorem dX12_burning_21 : decode cX12_burning 21 = .ok (.iload_n 2, 1) := by decide +kernel
theorem dX12_burning_22 : decode cX12_burning 22 = .ok (.ishl, 1) := by decide +kernel
theorem dX12_burning_23 : decode cX12_burning 23 = .ok (.ior, 1) := by decide +kernel
theorem dX12_burning_24 : decode cX12_burning 24 = .ok (.istore_n 1, 1) := by decide +kernel
theorem dX12_burning_25 : decode cX12_burning 25 = .ok (.iinc 2 1, 3) := by decide +kernel
theorem dX12_burning_28 : decode cX12_burning 28 = .ok (.goto (-24), 3) := by decide +kernel
theorem dX12_burning_31 : decode cX12_burning 31 = .ok (.iload_n 1, 1) := by decide +kernel
theorem dX12_burning_32 : decode cX12_burning 32 = .ok (.ireturn, 1) := by decide +kernel
theorem dX12_oilOfAll_0 : decode cX12_oilOfAll 0 = .ok (.iconst 0, 1) := by decide +kernel
theorem dX12_oilOfAll_1 : decode cX12_oilOfAll 1 = .ok (.istore_n 1, 1) := by decide +kernel
theorem dX12_oilOfAll_2 : decode cX12_oilOfAll 2 = .ok (.iconst 0, 1) := by decide +kernel
theorem dX12_oilOfAll_3 : decode cX12_oilOfAll 3 = .ok (.istore_n 2, 1) := by decide +kernel
theorem dX12_oilOfAll_4 : decode cX12_oilOfAll 4 = .ok (.iload_n 2, 1) := by decide +kernel
theorem dX12_oilOfAll_5 : decode cX12_oilOfAll 5 = .ok (.aload_n 0, 1) := by decide +kernel
theorem dX12_oilOfAll_6 : decode cX12_oilOfAll 6 = .ok (.getfield 7, 3) := by decide +kernel
theorem dX12_oilOfAll_9 : decode cX12_oilOfAll 9 = .ok (.iconst 3, 1) := by decide +kernel
theorem dX12_oilOfAll_10 : decode cX12_oilOfAll 10 = .ok (.iaload, 1) := by decide +kernel
theorem dX12_oilOfAll_11 : decode cX12_oilOfAll 11 = .ok (.if_icmp .ge 18, 3) := by decide +kernel
theorem dX12_oilOfAll_14 : decode cX12_oilOfAll 14 = .ok (.iload_n 1, 1) := by decide +kernel
theorem dX12_oilOfAll_15 : decode cX12_oilOfAll 15 = .ok (.aload_n 0, 1) := by decide +kernel
theorem dX12_oilOfAll_16 : decode cX12_oilOfAll 16 = .ok (.iload_n 2, 1) := by decide +kernel
theorem dX12_oilOfAll_17 : decode cX12_oilOfAll 17 = .ok (.iconst 0, 1) := by decide +kernel
theorem dX12_oilOfAll_18 : decode cX12_oilOfAll 18 = .ok (.invokevirtual 128, 3) := by decide +kernel
theorem dX12_oilOfAll_21 : decode cX12_oilOfAll 21 = .ok (.iadd, 1) := by decide +kernel
theorem dX12_oilOfAll_22 : decode cX12_oilOfAll 22 = .ok (.istore_n 1, 1) := by decide +kernel
theorem dX12_oilOfAll_23 : decode cX12_oilOfAll 23 = .ok (.iinc 2 1, 3) := by decide +kernel
theorem dX12_oilOfAll_26 : decode cX12_oilOfAll 26 = .ok (.goto (-22), 3) := by decide +kernel
theorem dX12_oilOfAll_29 : decode cX12_oilOfAll 29 = .ok (.iload_n 1, 1) := by decide +kernel
theorem dX12_oilOfAll_30 : decode cX12_oilOfAll 30 = .ok (.ireturn, 1) := by decide +kernel
theorem dX12_litOfAll_0 : decode cX12_litOfAll 0 = .ok (.iconst 0, 1) := by decide +kernel
theorem dX12_litOfAll_1 : decode cX12_litOfAll 1 = .ok (.istore_n 1, 1) := by decide +kernel
theorem dX12_litOfAll_2 : decode cX12_litOfAll 2 = .ok (.iconst 0, 1) := by decide +kernel
theorem dX12_litOfAll_3 : decode cX12_litOfAll 3 = .ok (.istore_n 2, 1) := by decide +kernel
theorem dX12_litOfAll_4 : decode cX12_litOfAll 4 = .ok (.iload_n 2, 1) := by decide +kernel
theorem dX12_litOfAll_5 : decode cX12_litOfAll 5 = .ok (.aload_n 0, 1) := by decide +kernel
theorem dX12_litOfAll_6 : decode cX12_litOfAll 6 = .ok (.getfield 7, 3) := by decide +kernel
theorem dX12_litOfAll_9 : decode cX12_litOfAll 9 = .ok (.iconst 4, 1) := by decide +kernel
theorem dX12_litOfAll_10 : decode cX12_litOfAll 10 = .ok (.iaload, 1) := by decide +kernel
theorem dX12_litOfAll_11 : decode cX12_litOfAll 11 = .ok (.if_icmp .ge 18, 3) := by decide +kernel
theorem dX12_litOfAll_14 : decode cX12_litOfAll 14 = .ok (.iload_n 1, 1) := by decide +kernel
theorem dX12_litOfAll_15 : decode cX12_litOfAll 15 = .ok (.aload_n 0, 1) := by decide +kernel
theorem dX12_litOfAll_16 : decode cX12_litOfAll 16 = .ok (.iload_n 2, 1) := by decide +kernel
theorem dX12_litOfAll_17 : decode cX12_litOfAll 17 = .ok (.iconst 3, 1) := by decide +kernel
theorem dX12_litOfAll_18 : decode cX12_litOfAll 18 = .ok (.invokevirtual 243, 3) := by decide +kernel
theorem dX12_litOfAll_21 : decode cX12_litOfAll 21 = .ok (.iadd, 1) := by decide +kernel
theorem dX12_litOfAll_22 : decode cX12_litOfAll 22 = .ok (.istore_n 1, 1) := by decide +kernel
theorem dX12_litOfAll_23 : decode cX12_litOfAll 23 = .ok (.iinc 2 1, 3) := by decide +kernel
theorem dX12_litOfAll_26 : decode cX12_litOfAll 26 = .ok (.goto (-22), 3) := by decide +kernel
theorem dX12_litOfAll_29 : decode cX12_litOfAll 29 = .ok (.iload_n 1, 1) := by decide +kernel
theorem dX12_litOfAll_30 : decode cX12_litOfAll 30 = .ok (.ireturn, 1) := by decide +kernel
theorem dX12_lighters_0 : decode cX12_lighters 0 = .ok (.iconst 0, 1) := by decide +kernel
theorem dX12_lighters_1 : decode cX12_lighters 1 = .ok (.istore_n 3, 1) := by decide +kernel
theorem dX12_lighters_2 : decode cX12_lighters 2 = .ok (.iconst 0, 1) := by decide +kernel
theorem dX12_lighters_3 : decode cX12_lighters 3 = .ok (.istore 4, 2) := by decide +kernel
theorem dX12_lighters_5 : decode cX12_lighters 5 = .ok (.iload 4, 2) := by decide +kernel
theorem dX12_lighters_7 : decode cX12_lighters 7 = .ok (.aload_n 0, 1) := by decide +kernel
theorem dX12_lighters_8 : decode cX12_lighters 8 = .ok (.getfield 7, 3) := by decide +kernel
theorem dX12_lighters_11 : decode cX12_lighters 11 = .ok (.iconst 4, 1) := by decide +kernel
theorem dX12_lighters_12 : decode cX12_lighters 12 = .ok (.iaload, 1) := by decide +kernel
theorem dX12_lighters_13 : decode cX12_lighters 13 = .ok (.if_icmp .ge 56, 3) := by decide +kernel
theorem dX12_lighters_16 : decode cX12_lighters 16 = .ok (.iload_n 3, 1) := by decide +kernel
theorem dX12_lighters_17 : decode cX12_lighters 17 = .ok (.aload_n 0, 1) := by decide +kernel
theorem dX12_lighters_18 : decode cX12_lighters 18 = .ok (.iload 4, 2) := by decide +kernel
theorem dX12_lighters_20 : decode cX12_lighters 20 = .ok (.iload_n 1, 1) := by decide +kernel
theorem dX12_lighters_21 : decode cX12_lighters 21 = .ok (.invokevirtual 274, 3) := by decide +kernel
theorem dX12_lighters_24 : decode cX12_lighters 24 = .ok (.ifCond .ne 29, 3) := by decide +kernel
theorem dX12_lighters_27 : decode cX12_lighters 27 = .ok (.iload_n 2, 1) := by decide +kernel
theorem dX12_lighters_28 : decode cX12_lighters 28 = .ok (.ifCond .eq 32, 3) := by decide +kernel
theorem dX12_lighters_31 : decode cX12_lighters 31 = .ok (.aload_n 0, 1) := by decide +kernel
theorem dX12_lighters_32 : decode cX12_lighters 32 = .ok (.iload_n 1, 1) := by decide +kernel
theorem dX12_lighters_33 : decode cX12_lighters 33 = .ok (.iconst 2, 1) := by decide +kernel
theorem dX12_lighters_34 : decode cX12_lighters 34 = .ok (.invokevirtual 128, 3) := by decide +kernel
theorem dX12_lighters_37 : decode cX12_lighters 37 = .ok (.iconst (-1), 1) := by decide +kernel
theorem dX12_lighters_38 : decode cX12_lighters 38 = .ok (.if_icmp .eq 22, 3) := by decide +kernel
theorem dX12_lighters_41 : decode cX12_lighters 41 = .ok (.aload_n 0, 1) := by decide +kernel
theorem dX12_lighters_42 : decode cX12_lighters 42 = .ok (.iload 4, 2) := by decide +kernel
theorem dX12_lighters_44 : decode cX12_lighters 44 = .ok (.iload_n 1, 1) := by decide +kernel
theorem dX12_lighters_45 : decode cX12_lighters 45 = .ok (.bipush 9, 2) := by decide +kernel
theorem dX12_lighters_47 : decode cX12_lighters 47 = .ok (.invokevirtual 252, 3) := by decide +kernel
theorem dX12_lighters_50 : decode cX12_lighters 50 = .ok (.ifCond .eq 10, 3) := by decide +kernel
theorem dX12_lighters_53 : decode cX12_lighters 53 = .ok (.iconst 1, 1) := by decide +kernel
theorem dX12_lighters_54 : decode cX12_lighters 54 = .ok (.iload 4, 2) := by decide +kernel
theorem dX12_lighters_56 : decode cX12_lighters 56 = .ok (.ishl, 1) := by decide +kernel
theorem dX12_lighters_57 : decode cX12_lighters 57 = .ok (.goto 4, 3) := by decide +kernel
theorem dX12_lighters_60 : decode cX12_lighters 60 = .ok (.iconst 0, 1) := by decide +kernel
theorem dX12_lighters_61 : decode cX12_lighters 61 = .ok (.ior, 1) := by decide +kernel
theorem dX12_lighters_62 : decode cX12_lighters 62 = .ok (.istore_n 3, 1) := by decide +kernel
theorem dX12_lighters_63 : decode cX12_lighters 63 = .ok (.iinc 4 1, 3) := by decide +kernel
theorem dX12_lighters_66 : decode cX12_lighters 66 = .ok (.goto (-61), 3) := by decide +kernel
theorem dX12_lighters_69 : decode cX12_lighters 69 = .ok (.iload_n 3, 1) := by decide +kernel
theorem dX12_lighters_70 : decode cX12_lighters 70 = .ok (.ireturn, 1) := by decide +kernel
theorem dX12_whenOf_0 : decode cX12_whenOf 0 = .ok (.aload_n 0, 1) := by decide +kernel
theorem dX12_whenOf_1 : decode cX12_whenOf 1 = .ok (.invokevirtual 175, 3) := by decide +kernel
theorem dX12_whenOf_4 : decode cX12_whenOf 4 = .ok (.iconst (-1), 1) := by decide +kernel
theorem dX12_whenOf_5 : decode cX12_whenOf 5 = .ok (.istore_n 2, 1) := by decide +kernel
theorem dX12_whenOf_6 : decode cX12_whenOf 6 = .ok (.iconst 0, 1) := by decide +kernel
theorem dX12_whenOf_7 : decode cX12_whenOf 7 = .ok (.istore_n 3, 1) := by decide +kernel
theorem dX12_whenOf_8 : decode cX12_whenOf 8 = .ok (.iload_n 3, 1) := by decide +kernel
theorem dX12_whenOf_9 : decode cX12_whenOf 9 = .ok (.bipush 60, 2) := by decide +kernel
theorem dX12_whenOf_11 : decode cX12_whenOf 11 = .ok (.if_icmp .gt 33, 3) := by decide +kernel
theorem dX12_whenOf_14 : decode cX12_whenOf 14 = .ok (.iload_n 2, 1) := by decide +kernel
theorem dX12_whenOf_15 : decode cX12_whenOf 15 = .ok (.iconst (-1), 1) := by decide +kernel
theorem dX12_whenOf_16 : decode cX12_whenOf 16 = .ok (.if_icmp .ne 28, 3) := by decide +kernel
theorem dX12_whenOf_19 : decode cX12_whenOf 19 = .ok (.aload_n 0, 1) := by decide +kernel
theorem dX12_whenOf_20 : decode cX12_whenOf 20 = .ok (.iload_n 1, 1) := by decide +kernel
theorem dX12_whenOf_21 : decode cX12_whenOf 21 = .ok (.iconst 1, 1) := by decide +kernel
theorem dX12_whenOf_22 : decode cX12_whenOf 22 = .ok (.invokevirtual 128, 3) := by decide +kernel
theorem dX12_whenOf_25 : decode cX12_whenOf 25 = .ok (.iconst 1, 1) := by decide +kernel
theorem dX12_whenOf_26 : decode cX12_whenOf 26 = .ok (.if_icmp .ne 5, 3) := by decide +kernel
theorem dX12_whenOf_29 : decode cX12_whenOf 29 = .ok (.iload_n 3, 1) := by decide +kernel
theorem dX12_whenOf_30 : decode cX12_whenOf 30 = .ok (.istore_n 2, 1) := by decide +kernel
theorem dX12_whenOf_31 : decode cX12_whenOf 31 = .ok (.aload_n 0, 1) := by decide +kernel
theorem dX12_whenOf_32 : decode cX12_whenOf 32 = .ok (.iconst 0, 1) := by decide +kernel
theorem dX12_whenOf_33 : decode cX12_whenOf 33 = .ok (.invokevirtual 283, 3) := by decide +kernel
theorem dX12_whenOf_36 : decode cX12_whenOf 36 = .ok (.istore 4, 2) := by decide +kernel
theorem dX12_whenOf_38 : decode cX12_whenOf 38 = .ok (.iinc 3 1, 3) := by decide +kernel
theorem dX12_whenOf_41 : decode cX12_whenOf 41 = .ok (.goto (-33), 3) := by decide +kernel
theorem dX12_whenOf_44 : decode cX12_whenOf 44 = .ok (.aload_n 0, 1) := by decide +kernel
theorem dX12_whenOf_45 : decode cX12_whenOf 45 = .ok (.invokevirtual 185, 3) := by decide +kernel
theorem dX12_whenOf_48 : decode cX12_whenOf 48 = .ok (.iload_n 2, 1) := by decide +kernel
theorem dX12_whenOf_49 : decode cX12_whenOf 49 = .ok (.ireturn, 1) := by decide +kernel
theorem dX12_pane_0 : decode cX12_pane 0 = .ok (.aload_n 0, 1) := by decide +kernel
theorem dX12_pane_1 : decode cX12_pane 1 = .ok (.aload_n 0, 1) := by decide +kernel
theorem dX12_pane_2 : decode cX12_pane 2 = .ok (.iload_n 1, 1) := by decide +kernel
theorem dX12_pane_3 : decode cX12_pane 3 = .ok (.invokevirtual 286, 3) := by decide +kernel
theorem dX12_pane_6 : decode cX12_pane 6 = .ok (.ifCond .ne 7, 3) := by decide +kernel
theorem dX12_pane_9 : decode cX12_pane 9 = .ok (.iconst 1, 1) := by decide +kernel
theorem dX12_pane_10 : decode cX12_pane 10 = .ok (.goto 18, 3) := by decide +kernel
theorem dX12_pane_13 : decode cX12_pane 13 = .ok (.iload_n 2, 1) := by decide +kernel
theorem dX12_pane_14 : decode cX12_pane 14 = .ok (.iconst 0, 1) := by decide +kernel
theorem dX12_pane_15 : decode cX12_pane 15 = .ok (.bipush 7, 2) := by decide +kernel
theorem dX12_pane_17 : decode cX12_pane 17 = .ok (.invokestatic 50, 3) := by decide +kernel
theorem dX12_pane_20 : decode cX12_pane 20 = .ok (.ifCond .ne 7, 3) := by decide +kernel
theorem dX12_pane_23 : decode cX12_pane 23 = .ok (.iconst 2, 1) := by decide +kernel
theorem dX12_pane_24 : decode cX12_pane 24 = .ok (.goto 4, 3) := by decide +kernel
theorem dX12_pane_27 : decode cX12_pane 27 = .ok (.iconst 0, 1) := by decide +kernel
theorem dX12_pane_28 : decode cX12_pane 28 = .ok (.putfield 47, 3) := by decide +kernel
theorem dX12_pane_31 : decode cX12_pane 31 = .ok (.aload_n 0, 1) := by decide +kernel
theorem dX12_pane_32 : decode cX12_pane 32 = .ok (.getfield 47, 3) := by decide +kernel
theorem dX12_pane_35 : decode cX12_pane 35 = .ok (.ifCond .le 5, 3) := by decide +kernel
theorem dX12_pane_38 : decode cX12_pane 38 = .ok (.iconst 0, 1) := by decide +kernel
theorem dX12_pane_39 : decode cX12_pane 39 = .ok (.ireturn, 1) := by decide +kernel
theorem dX12_pane_40 : decode cX12_pane 40 = .ok (.iload_n 2, 1) := by decide +kernel
theorem dX12_pane_41 : decode cX12_pane 41 = .ok (.iconst 4, 1) := by decide +kernel
theorem dX12_pane_42 : decode cX12_pane 42 = .ok (.if_icmp .ge 10, 3) := by decide +kernel
theorem dX12_pane_45 : decode cX12_pane 45 = .ok (.aload_n 0, 1) := by decide +kernel
theorem dX12_pane_46 : decode cX12_pane 46 = .ok (.iload_n 1, 1) := by decide +kernel
theorem dX12_pane_47 : decode cX12_pane 47 = .ok (.iload_n 2, 1) := by decide +kernel
theorem dX12_pane_48 : decode cX12_pane 48 = .ok (.invokevirtual 128, 3) := by decide +kernel
theorem dX12_pane_51 : decode cX12_pane 51 = .ok (.ireturn, 1) := by decide +kernel
theorem dX12_pane_52 : decode cX12_pane 52 = .ok (.iload_n 2, 1) := by decide +kernel
theorem dX12_pane_53 : decode cX12_pane 53 = .ok (.iconst 4, 1) := by decide +kernel
theorem dX12_pane_54 : decode cX12_pane 54 = .ok (.if_icmp .ne 10, 3) := by decide +kernel
theorem dX12_pane_57 : decode cX12_pane 57 = .ok (.aload_n 0, 1) := by decide +kernel
theorem dX12_pane_58 : decode cX12_pane 58 = .ok (.iload_n 1, 1) := by decide +kernel
theorem dX12_pane_59 : decode cX12_pane 59 = .ok (.iconst 0, 1) := by decide +kernel
theorem dX12_pane_60 : decode cX12_pane 60 = .ok (.invokevirtual 289, 3) := by decide +kernel
theorem dX12_pane_63 : decode cX12_pane 63 = .ok (.ireturn, 1) := by decide +kernel
theorem dX12_pane_64 : decode cX12_pane 64 = .ok (.iload_n 2, 1) := by decide +kernel
theorem dX12_pane_65 : decode cX12_pane 65 = .ok (.iconst 5, 1) := by decide +kernel
theorem dX12_pane_66 : decode cX12_pane 66 = .ok (.if_icmp .ne 9, 3) := by decide +kernel
theorem dX12_pane_69 : decode cX12_pane 69 = .ok (.aload_n 0, 1) := by decide +kernel
theorem dX12_pane_70 : decode cX12_pane 70 = .ok (.iload_n 1, 1) := by decide +kernel
theorem dX12_pane_71 : decode cX12_pane 71 = .ok (.invokevirtual 293, 3) := by decide +kernel
theorem dX12_pane_74 : decode cX12_pane 74 = .ok (.ireturn, 1) := by decide +kernel
theorem dX12_pane_75 : decode cX12_pane 75 = .ok (.iload_n 2, 1) := by decide +kernel
theorem dX12_pane_76 : decode cX12_pane 76 = .ok (.bipush 7, 2) := by decide +kernel
theorem dX12_pane_78 : decode cX12_pane 78 = .ok (.if_icmp .ne 24, 3) := by decide +kernel
theorem dX12_pane_81 : decode cX12_pane 81 = .ok (.aload_n 0, 1) := by decide +kernel
theorem dX12_pane_82 : decode cX12_pane 82 = .ok (.iload_n 1, 1) := by decide +kernel
theorem dX12_pane_83 : decode cX12_pane 83 = .ok (.iconst 1, 1) := by decide +kernel
theorem dX12_pane_84 : decode cX12_pane 84 = .ok (.invokevirtual 128, 3) := by decide +kernel
theorem dX12_pane_87 : decode cX12_pane 87 = .ok (.iconst 1, 1) := by decide +kernel
theorem dX12_pane_88 : decode cX12_pane 88 = .ok (.if_icmp .ne 12, 3) := by decide +kernel
theorem dX12_pane_91 : decode cX12_pane 91 = .ok (.aload_n 0, 1) := by decide +kernel
theorem dX12_pane_92 : decode cX12_pane 92 = .ok (.iload_n 1, 1) := by decide +kernel
theorem dX12_pane_93 : decode cX12_pane 93 = .ok (.iconst 0, 1) := by decide +kernel
theorem dX12_pane_94 : decode cX12_pane 94 = .ok (.invokevirtual 128, 3) := by decide +kernel
theorem dX12_pane_97 : decode cX12_pane 97 = .ok (.goto 4, 3) := by decide +kernel
theorem dX12_pane_100 : decode cX12_pane 100 = .ok (.iconst 0, 1) := by decide +kernel
theorem dX12_pane_101 : decode cX12_pane 101 = .ok (.ireturn, 1) := by decide +kernel
theorem dX12_pane_102 : decode cX12_pane 102 = .ok (.aload_n 0, 1) := by decide +kernel
theorem dX12_pane_103 : decode cX12_pane 103 = .ok (.iload_n 1, 1) := by decide +kernel
theorem dX12_pane_104 : decode cX12_pane 104 = .ok (.iconst 1, 1) := by decide +kernel
theorem dX12_pane_105 : decode cX12_pane 105 = .ok (.invokevirtual 128, 3) := by decide +kernel
theorem dX12_pane_108 : decode cX12_pane 108 = .ok (.iconst 1, 1) := by decide +kernel
theorem dX12_pane_109 : decode cX12_pane 109 = .ok (.if_icmp .eq 13, 3) := by decide +kernel
theorem dX12_pane_112 : decode cX12_pane 112 = .ok (.aload_n 0, 1) := by decide +kernel
theorem dX12_pane_113 : decode cX12_pane 113 = .ok (.iload_n 1, 1) := by decide +kernel
theorem dX12_pane_114 : decode cX12_pane 114 = .ok (.iconst 2, 1) := by decide +kernel
theorem dX12_pane_115 : decode cX12_pane 115 = .ok (.invokevirtual 128, 3) := by decide +kernel
theorem dX12_pane_118 : decode cX12_pane 118 = .ok (.iconst (-1), 1) := by decide +kernel
theorem dX12_pane_119 : decode cX12_pane 119 = .ok (.if_icmp .ne 7, 3) := by decide +kernel
theorem dX12_pane_122 : decode cX12_pane 122 = .ok (.iconst 0, 1) := by decide +kernel
theorem dX12_pane_123 : decode cX12_pane 123 = .ok (.goto 9, 3) := by decide +kernel
theorem dX12_pane_126 : decode cX12_pane 126 = .ok (.aload_n 0, 1) := by decide +kernel
theorem dX12_pane_127 : decode cX12_pane 127 = .ok (.iload_n 1, 1) := by decide +kernel
theorem dX12_pane_128 : decode cX12_pane 128 = .ok (.iconst 1, 1) := by decide +kernel
theorem dX12_pane_129 : decode cX12_pane 129 = .ok (.invokevirtual 289, 3) := by decide +kernel
theorem dX12_pane_132 : decode cX12_pane 132 = .ok (.ireturn, 1) := by decide +kernel
theorem dX12_tapersOf_0 : decode cX12_tapersOf 0 = .ok (.iconst 0, 1) := by decide +kernel
theorem dX12_tapersOf_1 : decode cX12_tapersOf 1 = .ok (.istore_n 2, 1) := by decide +kernel
theorem dX12_tapersOf_2 : decode cX12_tapersOf 2 = .ok (.aload_n 0, 1) := by decide +kernel
theorem dX12_tapersOf_3 : decode cX12_tapersOf 3 = .ok (.iload_n 1, 1) := by decide +kernel
theorem dX12_tapersOf_4 : decode cX12_tapersOf 4 = .ok (.iconst 1, 1) := by decide +kernel
theorem dX12_tapersOf_5 : decode cX12_tapersOf 5 = .ok (.invokevirtual 243, 3) := by decide +kernel
theorem dX12_tapersOf_8 : decode cX12_tapersOf 8 = .ok (.istore_n 3, 1) := by decide +kernel
theorem dX12_tapersOf_9 : decode cX12_tapersOf 9 = .ok (.aload_n 0, 1) := by decide +kernel
theorem dX12_tapersOf_10 : decode cX12_tapersOf 10 = .ok (.getfield 7, 3) := by decide +kernel
theorem dX12_tapersOf_13 : decode cX12_tapersOf 13 = .ok (.sipush 128, 3) := by decide +kernel
theorem dX12_tapersOf_16 : decode cX12_tapersOf 16 = .ok (.iconst 4, 1) := by decide +kernel
theorem dX12_tapersOf_17 : decode cX12_tapersOf 17 = .ok (.iload_n 1, 1) := by decide +kernel
theorem dX12_tapersOf_18 : decode cX12_tapersOf 18 = .ok (.imul, 1) := by decide +kernel
theorem dX12_tapersOf_19 : decode cX12_tapersOf 19 = .ok (.iadd, 1) := by decide +kernel
theorem dX12_tapersOf_20 : decode cX12_tapersOf 20 = .ok (.iconst 1, 1) := by decide +kernel
theorem dX12_tapersOf_21 : decode cX12_tapersOf 21 = .ok (.iadd, 1) := by decide +kernel
theorem dX12_tapersOf_22 : decode cX12_tapersOf 22 = .ok (.iconst 1, 1) := by decide +kernel
theorem dX12_tapersOf_23 : decode cX12_tapersOf 23 = .ok (.iload_n 3, 1) := by decide +kernel
theorem dX12_tapersOf_24 : decode cX12_tapersOf 24 = .ok (.invokestatic 265, 3) := by decide +kernel
theorem dX12_tapersOf_27 : decode cX12_tapersOf 27 = .ok (.iastore, 1) := by decide +kernel
theorem dX12_tapersOf_28 : decode cX12_tapersOf 28 = .ok (.iconst 0, 1) := by decide +kernel
theorem dX12_tapersOf_29 : decode cX12_tapersOf 29 = .ok (.istore 4, 2) := by decide +kernel
theorem dX12_tapersOf_31 : decode cX12_tapersOf 31 = .ok (.iload 4, 2) := by decide +kernel
theorem dX12_tapersOf_33 : decode cX12_tapersOf 33 = .ok (.aload_n 0, 1) := by decide +kernel
theorem dX12_tapersOf_34 : decode cX12_tapersOf 34 = .ok (.getfield 7, 3) := by decide +kernel
theorem dX12_tapersOf_37 : decode cX12_tapersOf 37 = .ok (.iconst 3, 1) := by decide +kernel
theorem dX12_tapersOf_38 : decode cX12_tapersOf 38 = .ok (.iaload, 1) := by decide +kernel
theorem dX12_tapersOf_39 : decode cX12_tapersOf 39 = .ok (.if_icmp .ge 43, 3) := by decide +kernel
theorem dX12_tapersOf_42 : decode cX12_tapersOf 42 = .ok (.iload_n 2, 1) := by decide +kernel
theorem dX12_tapersOf_43 : decode cX12_tapersOf 43 = .ok (.aload_n 0, 1) := by decide +kernel
theorem dX12_tapersOf_44 : decode cX12_tapersOf 44 = .ok (.aload_n 0, 1) := by decide +kernel
theorem dX12_tapersOf_45 : decode cX12_tapersOf 45 = .ok (.iload_n 1, 1) := by decide +kernel
theorem dX12_tapersOf_46 : decode cX12_tapersOf 46 = .ok (.iconst 0, 1) := by decide +kernel
theorem dX12_tapersOf_47 : decode cX12_tapersOf 47 = .ok (.invokevirtual 243, 3) := by decide +kernel
theorem dX12_tapersOf_50 : decode cX12_tapersOf 50 = .ok (.iload 4, 2) := by decide +kernel
theorem dX12_tapersOf_52 : decode cX12_tapersOf 52 = .ok (.invokevirtual 259, 3) := by decide +kernel
theorem dX12_tapersOf_55 : decode cX12_tapersOf 55 = .ok (.iconst (-1), 1) := by decide +kernel
theorem dX12_tapersOf_56 : decode cX12_tapersOf 56 = .ok (.if_icmp .eq 17, 3) := by decide +kernel
theorem dX12_tapersOf_59 : decode cX12_tapersOf 59 = .ok (.aload_n 0, 1) := by decide +kernel
theorem dX12_tapersOf_60 : decode cX12_tapersOf 60 = .ok (.iload_n 1, 1) := by decide +kernel
theorem dX12_tapersOf_61 : decode cX12_tapersOf 61 = .ok (.iload 4, 2) := by decide +kernel
theorem dX12_tapersOf_63 : decode cX12_tapersOf 63 = .ok (.invokevirtual 274, 3) := by decide +kernel
theorem dX12_tapersOf_66 : decode cX12_tapersOf 66 = .ok (.ifCond .eq 7, 3) := by decide +kernel
theorem dX12_tapersOf_69 : decode cX12_tapersOf 69 = .ok (.iconst 1, 1) := by decide +kernel
theorem dX12_tapersOf_70 : decode cX12_tapersOf 70 = .ok (.goto 4, 3) := by decide +kernel
theorem dX12_tapersOf_73 : decode cX12_tapersOf 73 = .ok (.iconst 0, 1) := by decide +kernel
theorem dX12_tapersOf_74 : decode cX12_tapersOf 74 = .ok (.iadd, 1) := by decide +kernel
theorem dX12_tapersOf_75 : decode cX12_tapersOf 75 = .ok (.istore_n 2, 1) := by decide +kernel
theorem dX12_tapersOf_76 : decode cX12_tapersOf 76 = .ok (.iinc 4 1, 3) := by decide +kernel
theorem dX12_tapersOf_79 : decode cX12_tapersOf 79 = .ok (.goto (-48), 3) := by decide +kernel
theorem dX12_tapersOf_82 : decode cX12_tapersOf 82 = .ok (.aload_n 0, 1) := by decide +kernel
theorem dX12_tapersOf_83 : decode cX12_tapersOf 83 = .ok (.getfield 7, 3) := by decide +kernel
theorem dX12_tapersOf_86 : decode cX12_tapersOf 86 = .ok (.sipush 128, 3) := by decide +kernel
theorem dX12_tapersOf_89 : decode cX12_tapersOf 89 = .ok (.iconst 4, 1) := by decide +kernel
theorem dX12_tapersOf_90 : decode cX12_tapersOf 90 = .ok (.iload_n 1, 1) := by decide +kernel
theorem dX12_tapersOf_91 : decode cX12_tapersOf 91 = .ok (.imul, 1) := by decide +kernel
theorem dX12_tapersOf_92 : decode cX12_tapersOf 92 = .ok (.iadd, 1) := by decide +kernel
theorem dX12_tapersOf_93 : decode cX12_tapersOf 93 = .ok (.iconst 1, 1) := by decide +kernel
theorem dX12_tapersOf_94 : decode cX12_tapersOf 94 = .ok (.iadd, 1) := by decide +kernel
theorem dX12_tapersOf_95 : decode cX12_tapersOf 95 = .ok (.iload_n 3, 1) := by decide +kernel
theorem dX12_tapersOf_96 : decode cX12_tapersOf 96 = .ok (.iastore, 1) := by decide +kernel
theorem dX12_tapersOf_97 : decode cX12_tapersOf 97 = .ok (.iload_n 2, 1) := by decide +kernel
theorem dX12_tapersOf_98 : decode cX12_tapersOf 98 = .ok (.ireturn, 1) := by decide +kernel
theorem dX12_walker_0 : decode cX12_walker 0 = .ok (.aload_n 0, 1) := by decide +kernel
theorem dX12_walker_1 : decode cX12_walker 1 = .ok (.aload_n 0, 1) := by decide +kernel
theorem dX12_walker_2 : decode cX12_walker 2 = .ok (.iload_n 1, 1) := by decide +kernel
theorem dX12_walker_3 : decode cX12_walker 3 = .ok (.invokevirtual 296, 3) := by decide +kernel
theorem dX12_walker_6 : decode cX12_walker 6 = .ok (.ifCond .ne 7, 3) := by decide +kernel
theorem dX12_walker_9 : decode cX12_walker 9 = .ok (.iconst 1, 1) := by decide +kernel
theorem dX12_walker_10 : decode cX12_walker 10 = .ok (.goto 18, 3) := by decide +kernel
theorem dX12_walker_13 : decode cX12_walker 13 = .ok (.iload_n 2, 1) := by decide +kernel
theorem dX12_walker_14 : decode cX12_walker 14 = .ok (.iconst 0, 1) := by decide +kernel
theorem dX12_walker_15 : decode cX12_walker 15 = .ok (.bipush 6, 2) := by decide +kernel
theorem dX12_walker_17 : decode cX12_walker 17 = .ok (.invokestatic 50, 3) := by decide +kernel
theorem dX12_walker_20 : decode cX12_walker 20 = .ok (.ifCond .ne 7, 3) := by decide +kernel
theorem dX12_walker_23 : decode cX12_walker 23 = .ok (.iconst 2, 1) := by decide +kernel
theorem dX12_walker_24 : decode cX12_walker 24 = .ok (.goto 4, 3) := by decide +kernel
theorem dX12_walker_27 : decode cX12_walker 27 = .ok (.iconst 0, 1) := by decide +kernel
theorem dX12_walker_28 : decode cX12_walker 28 = .ok (.putfield 47, 3) := by decide +kernel
theorem dX12_walker_31 : decode cX12_walker 31 = .ok (.aload_n 0, 1) := by decide +kernel
theorem dX12_walker_32 : decode cX12_walker 32 = .ok (.getfield 47, 3) := by decide +kernel
theorem dX12_walker_35 : decode cX12_walker 35 = .ok (.ifCond .le 5, 3) := by decide +kernel
theorem dX12_walker_38 : decode cX12_walker 38 = .ok (.iconst 0, 1) := by decide +kernel
theorem dX12_walker_39 : decode cX12_walker 39 = .ok (.ireturn, 1) := by decide +kernel
theorem dX12_walker_40 : decode cX12_walker 40 = .ok (.iload_n 2, 1) := by decide +kernel
theorem dX12_walker_41 : decode cX12_walker 41 = .ok (.iconst 4, 1) := by decide +kernel
theorem dX12_walker_42 : decode cX12_walker 42 = .ok (.if_icmp .ge 10, 3) := by decide +kernel
theorem dX12_walker_45 : decode cX12_walker 45 = .ok (.aload_n 0, 1) := by decide +kernel
theorem dX12_walker_46 : decode cX12_walker 46 = .ok (.iload_n 1, 1) := by decide +kernel
theorem dX12_walker_47 : decode cX12_walker 47 = .ok (.iload_n 2, 1) := by decide +kernel
theorem dX12_walker_48 : decode cX12_walker 48 = .ok (.invokevirtual 243, 3) := by decide +kernel
theorem dX12_walker_51 : decode cX12_walker 51 = .ok (.ireturn, 1) := by decide +kernel
theorem dX12_walker_52 : decode cX12_walker 52 = .ok (.iload_n 2, 1) := by decide +kernel
theorem dX12_walker_53 : decode cX12_walker 53 = .ok (.iconst 4, 1) := by decide +kernel
theorem dX12_walker_54 : decode cX12_walker 54 = .ok (.if_icmp .ne 9, 3) := by decide +kernel
theorem dX12_walker_57 : decode cX12_walker 57 = .ok (.aload_n 0, 1) := by decide +kernel
theorem dX12_walker_58 : decode cX12_walker 58 = .ok (.iload_n 1, 1) := by decide +kernel
theorem dX12_walker_59 : decode cX12_walker 59 = .ok (.invokevirtual 299, 3) := by decide +kernel
theorem dX12_walker_62 : decode cX12_walker 62 = .ok (.ireturn, 1) := by decide +kernel
theorem dX12_walker_63 : decode cX12_walker 63 = .ok (.iload_n 2, 1) := by decide +kernel
theorem dX12_walker_64 : decode cX12_walker 64 = .ok (.iconst 5, 1) := by decide +kernel
theorem dX12_walker_65 : decode cX12_walker 65 = .ok (.if_icmp .ne 9, 3) := by decide +kernel
theorem dX12_walker_68 : decode cX12_walker 68 = .ok (.aload_n 0, 1) := by decide +kernel
theorem dX12_walker_69 : decode cX12_walker 69 = .ok (.iload_n 1, 1) := by decide +kernel
theorem dX12_walker_70 : decode cX12_walker 70 = .ok (.invokevirtual 302, 3) := by decide +kernel
theorem dX12_walker_73 : decode cX12_walker 73 = .ok (.ireturn, 1) := by decide +kernel
theorem dX12_walker_74 : decode cX12_walker 74 = .ok (.aload_n 0, 1) := by decide +kernel
theorem dX12_walker_75 : decode cX12_walker 75 = .ok (.invokevirtual 305, 3) := by decide +kernel
theorem dX12_walker_78 : decode cX12_walker 78 = .ok (.ifCond .ne 7, 3) := by decide +kernel
theorem dX12_walker_81 : decode cX12_walker 81 = .ok (.iconst 0, 1) := by decide +kernel
theorem dX12_walker_82 : decode cX12_walker 82 = .ok (.goto 17, 3) := by decide +kernel
theorem dX12_walker_85 : decode cX12_walker 85 = .ok (.bipush 100, 2) := by decide +kernel
theorem dX12_walker_87 : decode cX12_walker 87 = .ok (.aload_n 0, 1) := by decide +kernel
theorem dX12_walker_88 : decode cX12_walker 88 = .ok (.iload_n 1, 1) := by decide +kernel
theorem dX12_walker_89 : decode cX12_walker 89 = .ok (.iconst 3, 1) := by decide +kernel
theorem dX12_walker_90 : decode cX12_walker 90 = .ok (.invokevirtual 243, 3) := by decide +kernel
theorem dX12_walker_93 : decode cX12_walker 93 = .ok (.imul, 1) := by decide +kernel
theorem dX12_walker_94 : decode cX12_walker 94 = .ok (.aload_n 0, 1) := by decide +kernel
theorem dX12_walker_95 : decode cX12_walker 95 = .ok (.invokevirtual 305, 3) := by decide +kernel
theorem dX12_walker_98 : decode cX12_walker 98 = .ok (.idiv, 1) := by decide +kernel
theorem dX12_walker_99 : decode cX12_walker 99 = .ok (.ireturn, 1) := by decide +kernel
theorem dX12_areTwo_0 : decode cX12_areTwo 0 = .ok (.aload_n 0, 1) := by decide +kernel
theorem dX12_areTwo_1 : decode cX12_areTwo 1 = .ok (.aload_n 0, 1) := by decide +kernel
theorem dX12_areTwo_2 : decode cX12_areTwo 2 = .ok (.iload_n 1, 1) := by decide +kernel
theorem dX12_areTwo_3 : decode cX12_areTwo 3 = .ok (.invokevirtual 296, 3) := by decide +kernel
theorem dX12_areTwo_6 : decode cX12_areTwo 6 = .ok (.ifCond .eq 11, 3) := by decide +kernel
theorem dX12_areTwo_9 : decode cX12_areTwo 9 = .ok (.aload_n 0, 1) := by decide +kernel
theorem dX12_areTwo_10 : decode cX12_areTwo 10 = .ok (.iload_n 2, 1) := by decide +kernel
theorem dX12_areTwo_11 : decode cX12_areTwo 11 = .ok (.invokevirtual 296, 3) := by decide +kernel
theorem dX12_areTwo_14 : decode cX12_areTwo 14 = .ok (.ifCond .ne 7, 3) := by decide +kernel
theorem dX12_areTwo_17 : decode cX12_areTwo 17 = .ok (.iconst 1, 1) := by decide +kernel
theorem dX12_areTwo_18 : decode cX12_areTwo 18 = .ok (.goto 13, 3) := by decide +kernel
theorem dX12_areTwo_21 : decode cX12_areTwo 21 = .ok (.iload_n 1, 1) := by decide +kernel
theorem dX12_areTwo_22 : decode cX12_areTwo 22 = .ok (.iload_n 2, 1) := by decide +kernel
theorem dX12_areTwo_23 : decode cX12_areTwo 23 = .ok (.if_icmp .ne 7, 3) := by decide +kernel
theorem dX12_areTwo_26 : decode cX12_areTwo 26 = .ok (.iconst 2, 1) := by decide +kernel
theorem dX12_areTwo_27 : decode cX12_areTwo 27 = .ok (.goto 4, 3) := by decide +kernel
theorem dX12_areTwo_30 : decode cX12_areTwo 30 = .ok (.iconst 0, 1) := by decide +kernel
theorem dX12_areTwo_31 : decode cX12_areTwo 31 = .ok (.putfield 47, 3) := by decide +kernel
theorem dX12_areTwo_34 : decode cX12_areTwo 34 = .ok (.return_, 1) := by decide +kernel
theorem dX12_likes_0 : decode cX12_likes 0 = .ok (.aload_n 0, 1) := by decide +kernel
theorem dX12_likes_1 : decode cX12_likes 1 = .ok (.iload_n 1, 1) := by decide +kernel
theorem dX12_likes_2 : decode cX12_likes 2 = .ok (.iload_n 2, 1) := by decide +kernel
theorem dX12_likes_3 : decode cX12_likes 3 = .ok (.invokevirtual 308, 3) := by decide +kernel
theorem dX12_likes_6 : decode cX12_likes 6 = .ok (.aload_n 0, 1) := by decide +kernel
theorem dX12_likes_7 : decode cX12_likes 7 = .ok (.getfield 47, 3) := by decide +kernel
theorem dX12_likes_10 : decode cX12_likes 10 = .ok (.ifCond .le 7, 3) := by decide +kernel
theorem dX12_likes_13 : decode cX12_likes 13 = .ok (.iconst 0, 1) := by decide +kernel
theorem dX12_likes_14 : decode cX12_likes 14 = .ok (.goto 9, 3) := by decide +kernel
theorem dX12_likes_17 : decode cX12_likes 17 = .ok (.aload_n 0, 1) := by decide +kernel
theorem dX12_likes_18 : decode cX12_likes 18 = .ok (.iload_n 1, 1) := by decide +kernel
theorem dX12_likes_19 : decode cX12_likes 19 = .ok (.iload_n 2, 1) := by decide +kernel
theorem dX12_likes_20 : decode cX12_likes 20 = .ok (.invokevirtual 240, 3) := by decide +kernel
theorem dX12_likes_23 : decode cX12_likes 23 = .ok (.ireturn, 1) := by decide +kernel
theorem dX12_will_0 : decode cX12_will 0 = .ok (.aload_n 0, 1) := by decide +kernel
theorem dX12_will_1 : decode cX12_will 1 = .ok (.aload_n 0, 1) := by decide +kernel
theorem dX12_will_2 : decode cX12_will 2 = .ok (.iload_n 1, 1) := by decide +kernel
theorem dX12_will_3 : decode cX12_will 3 = .ok (.invokevirtual 296, 3) := by decide +kernel
theorem dX12_will_6 : decode cX12_will 6 = .ok (.ifCond .eq 11, 3) := by decide +kernel
theorem dX12_will_9 : decode cX12_will 9 = .ok (.aload_n 0, 1) := by decide +kernel
theorem dX12_will_10 : decode cX12_will 10 = .ok (.iload_n 2, 1) := by decide +kernel
theorem dX12_will_11 : decode cX12_will 11 = .ok (.invokevirtual 286, 3) := by decide +kernel
theorem dX12_will_14 : decode cX12_will 14 = .ok (.ifCond .ne 7, 3) := by decide +kernel
theorem dX12_will_17 : decode cX12_will 17 = .ok (.iconst 1, 1) := by decide +kernel
theorem dX12_will_18 : decode cX12_will 18 = .ok (.goto 4, 3) := by decide +kernel
theorem dX12_will_21 : decode cX12_will 21 = .ok (.iconst 0, 1) := by decide +kernel
theorem dX12_will_22 : decode cX12_will 22 = .ok (.putfield 47, 3) := by decide +kernel
theorem dX12_will_25 : decode cX12_will 25 = .ok (.aload_n 0, 1) := by decide +kernel
theorem dX12_will_26 : decode cX12_will 26 = .ok (.getfield 47, 3) := by decide +kernel
theorem dX12_will_29 : decode cX12_will 29 = .ok (.ifCond .le 5, 3) := by decide +kernel
theorem dX12_will_32 : decode cX12_will 32 = .ok (.iconst 0, 1) := by decide +kernel
theorem dX12_will_33 : decode cX12_will 33 = .ok (.ireturn, 1) := by decide +kernel
theorem dX12_will_34 : decode cX12_will 34 = .ok (.aload_n 0, 1) := by decide +kernel
theorem dX12_will_35 : decode cX12_will 35 = .ok (.iload_n 1, 1) := by decide +kernel
theorem dX12_will_36 : decode cX12_will 36 = .ok (.iload_n 2, 1) := by decide +kernel
theorem dX12_will_37 : decode cX12_will 37 = .ok (.aload_n 0, 1) := by decide +kernel
theorem dX12_will_38 : decode cX12_will 38 = .ok (.iload_n 1, 1) := by decide +kernel
theorem dX12_will_39 : decode cX12_will 39 = .ok (.iload_n 2, 1) := by decide +kernel
theorem dX12_will_40 : decode cX12_will 40 = .ok (.invokevirtual 249, 3) := by decide +kernel
theorem dX12_will_43 : decode cX12_will 43 = .ok (.invokevirtual 246, 3) := by decide +kernel
theorem dX12_will_46 : decode cX12_will 46 = .ok (.aload_n 0, 1) := by decide +kernel
theorem dX12_will_47 : decode cX12_will 47 = .ok (.getfield 237, 3) := by decide +kernel
theorem dX12_will_50 : decode cX12_will 50 = .ok (.ireturn, 1) := by decide +kernel
theorem dX12_lights_0 : decode cX12_lights 0 = .ok (.aload_n 0, 1) := by decide +kernel
theorem dX12_lights_1 : decode cX12_lights 1 = .ok (.aload_n 0, 1) := by decide +kernel
theorem dX12_lights_2 : decode cX12_lights 2 = .ok (.iload_n 1, 1) := by decide +kernel
theorem dX12_lights_3 : decode cX12_lights 3 = .ok (.invokevirtual 296, 3) := by decide +kernel
theorem dX12_lights_6 : decode cX12_lights 6 = .ok (.ifCond .eq 11, 3) := by decide +kernel
theorem dX12_lights_9 : decode cX12_lights 9 = .ok (.aload_n 0, 1) := by decide +kernel
theorem dX12_lights_10 : decode cX12_lights 10 = .ok (.iload_n 2, 1) := by decide +kernel
theorem dX12_lights_11 : decode cX12_lights 11 = .ok (.invokevirtual 286, 3) := by decide +kernel
theorem dX12_lights_14 : decode cX12_lights 14 = .ok (.ifCond .ne 7, 3) := by decide +kernel
theorem dX12_lights_17 : decode cX12_lights 17 = .ok (.iconst 1, 1) := by decide +kernel
theorem dX12_lights_18 : decode cX12_lights 18 = .ok (.goto 4, 3) := by decide +kernel
theorem dX12_lights_21 : decode cX12_lights 21 = .ok (.iconst 0, 1) := by decide +kernel
theorem dX12_lights_22 : decode cX12_lights 22 = .ok (.putfield 47, 3) := by decide +kernel
theorem dX12_lights_25 : decode cX12_lights 25 = .ok (.aload_n 0, 1) := by decide +kernel
theorem dX12_lights_26 : decode cX12_lights 26 = .ok (.getfield 47, 3) := by decide +kernel
theorem dX12_lights_29 : decode cX12_lights 29 = .ok (.ifCond .ne 16, 3) := by decide +kernel
theorem dX12_lights_32 : decode cX12_lights 32 = .ok (.aload_n 0, 1) := by decide +kernel
theorem dX12_lights_33 : decode cX12_lights 33 = .ok (.iload_n 1, 1) := by decide +kernel
theorem dX12_lights_34 : decode cX12_lights 34 = .ok (.iload_n 2, 1) := by decide +kernel
theorem dX12_lights_35 : decode cX12_lights 35 = .ok (.invokevirtual 274, 3) := by decide +kernel
theorem dX12_lights_38 : decode cX12_lights 38 = .ok (.ifCond .eq 7, 3) := by decide +kernel
theorem dX12_lights_41 : decode cX12_lights 41 = .ok (.iconst 1, 1) := by decide +kernel
theorem dX12_lights_42 : decode cX12_lights 42 = .ok (.goto 4, 3) := by decide +kernel
theorem dX12_lights_45 : decode cX12_lights 45 = .ok (.iconst 0, 1) := by decide +kernel
theorem dX12_lights_46 : decode cX12_lights 46 = .ok (.ireturn, 1) := by decide +kernel
theorem dX12_arePanes_0 : decode cX12_arePanes 0 = .ok (.aload_n 0, 1) := by decide +kernel
theorem dX12_arePanes_1 : decode cX12_arePanes 1 = .ok (.aload_n 0, 1) := by decide +kernel
theorem dX12_arePanes_2 : decode cX12_arePanes 2 = .ok (.iload_n 1, 1) := by decide +kernel
theorem dX12_arePanes_3 : decode cX12_arePanes 3 = .ok (.invokevirtual 286, 3) := by decide +kernel
theorem dX12_arePanes_6 : decode cX12_arePanes 6 = .ok (.ifCond .eq 11, 3) := by decide +kernel
theorem dX12_arePanes_9 : decode cX12_arePanes 9 = .ok (.aload_n 0, 1) := by decide +kernel
theorem dX12_arePanes_10 : decode cX12_arePanes 10 = .ok (.iload_n 2, 1) := by decide +kernel
theorem dX12_arePanes_11 : decode cX12_arePanes 11 = .ok (.invokevirtual 286, 3) := by decide +kernel
theorem dX12_arePanes_14 : decode cX12_arePanes 14 = .ok (.ifCond .ne 7, 3) := by decide +kernel
theorem dX12_arePanes_17 : decode cX12_arePanes 17 = .ok (.iconst 1, 1) := by decide +kernel
theorem dX12_arePanes_18 : decode cX12_arePanes 18 = .ok (.goto 13, 3) := by decide +kernel
theorem dX12_arePanes_21 : decode cX12_arePanes 21 = .ok (.iload_n 1, 1) := by decide +kernel
theorem dX12_arePanes_22 : decode cX12_arePanes 22 = .ok (.iload_n 2, 1) := by decide +kernel
theorem dX12_arePanes_23 : decode cX12_arePanes 23 = .ok (.if_icmp .ne 7, 3) := by decide +kernel
theorem dX12_arePanes_26 : decode cX12_arePanes 26 = .ok (.iconst 2, 1) := by decide +kernel
theorem dX12_arePanes_27 : decode cX12_arePanes 27 = .ok (.goto 4, 3) := by decide +kernel
theorem dX12_arePanes_30 : decode cX12_arePanes 30 = .ok (.iconst 0, 1) := by decide +kernel
theorem dX12_arePanes_31 : decode cX12_arePanes 31 = .ok (.putfield 47, 3) := by decide +kernel
theorem dX12_arePanes_34 : decode cX12_arePanes 34 = .ok (.return_, 1) := by decide +kernel
theorem dX12_isOpen_0 : decode cX12_isOpen 0 = .ok (.aload_n 0, 1) := by decide +kernel
theorem dX12_isOpen_1 : decode cX12_isOpen 1 = .ok (.iload_n 1, 1) := by decide +kernel
theorem dX12_isOpen_2 : decode cX12_isOpen 2 = .ok (.iload_n 2, 1) := by decide +kernel
theorem dX12_isOpen_3 : decode cX12_isOpen 3 = .ok (.invokevirtual 312, 3) := by decide +kernel
theorem dX12_isOpen_6 : decode cX12_isOpen 6 = .ok (.aload_n 0, 1) := by decide +kernel
theorem dX12_isOpen_7 : decode cX12_isOpen 7 = .ok (.getfield 47, 3) := by decide +kernel
theorem dX12_isOpen_10 : decode cX12_isOpen 10 = .ok (.ifCond .ne 16, 3) := by decide +kernel
theorem dX12_isOpen_13 : decode cX12_isOpen 13 = .ok (.aload_n 0, 1) := by decide +kernel
theorem dX12_isOpen_14 : decode cX12_isOpen 14 = .ok (.iload_n 1, 1) := by decide +kernel
theorem dX12_isOpen_15 : decode cX12_isOpen 15 = .ok (.iload_n 2, 1) := by decide +kernel
theorem dX12_isOpen_16 : decode cX12_isOpen 16 = .ok (.invokevirtual 58, 3) := by decide +kernel
theorem dX12_isOpen_19 : decode cX12_isOpen 19 = .ok (.ifCond .eq 7, 3) := by decide +kernel
theorem dX12_isOpen_22 : decode cX12_isOpen 22 = .ok (.iconst 1, 1) := by decide +kernel
theorem dX12_isOpen_23 : decode cX12_isOpen 23 = .ok (.goto 4, 3) := by decide +kernel
theorem dX12_isOpen_26 : decode cX12_isOpen 26 = .ok (.iconst 0, 1) := by decide +kernel
theorem dX12_isOpen_27 : decode cX12_isOpen 27 = .ok (.ireturn, 1) := by decide +kernel
theorem dX12_remembers_0 : decode cX12_remembers 0 = .ok (.aload_n 0, 1) := by decide +kernel
theorem dX12_remembers_1 : decode cX12_remembers 1 = .ok (.getfield 188, 3) := by decide +kernel
theorem dX12_remembers_4 : decode cX12_remembers 4 = .ok (.bipush 12, 2) := by decide +kernel
theorem dX12_remembers_6 : decode cX12_remembers 6 = .ok (.if_icmp .ne 44, 3) := by decide +kernel
theorem dX12_remembers_9 : decode cX12_remembers 9 = .ok (.iconst 0, 1) := by decide +kernel
theorem dX12_remembers_10 : decode cX12_remembers 10 = .ok (.istore_n 1, 1) := by decide +kernel
theorem dX12_remembers_11 : decode cX12_remembers 11 = .ok (.iload_n 1, 1) := by decide +kernel
theorem dX12_remembers_12 : decode cX12_remembers 12 = .ok (.sipush 5368, 3) := by decide +kernel
theorem dX12_remembers_15 : decode cX12_remembers 15 = .ok (.if_icmp .ge 25, 3) := by decide +kernel
theorem dX12_remembers_18 : decode cX12_remembers 18 = .ok (.aload_n 0, 1) := by decide +kernel
theorem dX12_remembers_19 : decode cX12_remembers 19 = .ok (.getfield 19, 3) := by decide +kernel
theorem dX12_remembers_22 : decode cX12_remembers 22 = .ok (.iload_n 1, 1) := by decide +kernel
theorem dX12_remembers_23 : decode cX12_remembers 23 = .ok (.aload_n 0, 1) := by decide +kernel
theorem dX12_remembers_24 : decode cX12_remembers 24 = .ok (.getfield 19, 3) := by decide +kernel
theorem dX12_remembers_27 : decode cX12_remembers 27 = .ok (.iload_n 1, 1) := by decide +kernel
theorem dX12_remembers_28 : decode cX12_remembers 28 = .ok (.sipush 488, 3) := by decide +kernel
theorem dX12_remembers_31 : decode cX12_remembers 31 = .ok (.iadd, 1) := by decide +kernel
theorem dX12_remembers_32 : decode cX12_remembers 32 = .ok (.iaload, 1) := by decide +kernel
theorem dX12_remembers_33 : decode cX12_remembers 33 = .ok (.iastore, 1) := by decide +kernel
theorem dX12_remembers_34 : decode cX12_remembers 34 = .ok (.iinc 1 1, 3) := by decide +kernel
theorem dX12_remembers_37 : decode cX12_remembers 37 = .ok (.goto (-26), 3) := by decide +kernel
theorem dX12_remembers_40 : decode cX12_remembers 40 = .ok (.aload_n 0, 1) := by decide +kernel
theorem dX12_remembers_41 : decode cX12_remembers 41 = .ok (.dup, 1) := by decide +kernel
theorem dX12_remembers_42 : decode cX12_remembers 42 = .ok (.getfield 188, 3) := by decide +kernel
theorem dX12_remembers_45 : decode cX12_remembers 45 = .ok (.iconst 1, 1) := by decide +kernel
theorem dX12_remembers_46 : decode cX12_remembers 46 = .ok (.isub, 1) := by decide +kernel
theorem dX12_remembers_47 : decode cX12_remembers 47 = .ok (.putfield 188, 3) := by decide +kernel
theorem dX12_remembers_50 : decode cX12_remembers 50 = .ok (.iconst 0, 1) := by decide +kernel
theorem dX12_remembers_51 : decode cX12_remembers 51 = .ok (.istore_n 1, 1) := by decide +kernel
theorem dX12_remembers_52 : decode cX12_remembers 52 = .ok (.iload_n 1, 1) := by decide +kernel
theorem dX12_remembers_53 : decode cX12_remembers 53 = .ok (.sipush 488, 3) := by decide +kernel
theorem dX12_remembers_56 : decode cX12_remembers 56 = .ok (.if_icmp .ge 30, 3) := by decide +kernel
theorem dX12_remembers_59 : decode cX12_remembers 59 = .ok (.aload_n 0, 1) := by decide +kernel
theorem dX12_remembers_60 : decode cX12_remembers 60 = .ok (.getfield 19, 3) := by decide +kernel
theorem dX12_remembers_63 : decode cX12_remembers 63 = .ok (.sipush 488, 3) := by decide +kernel
theorem dX12_remembers_66 : decode cX12_remembers 66 = .ok (.aload_n 0, 1) := by decide +kernel
theorem dX12_remembers_67 : decode cX12_remembers 67 = .ok (.getfield 188, 3) := by decide +kernel
theorem dX12_remembers_70 : decode cX12_remembers 70 = .ok (.imul, 1) := by decide +kernel
theorem dX12_remembers_71 : decode cX12_remembers 71 = .ok (.iload_n 1, 1) := by decide +kernel
theorem dX12_remembers_72 : decode cX12_remembers 72 = .ok (.iadd, 1) := by decide +kernel
theorem dX12_remembers_73 : decode cX12_remembers 73 = .ok (.aload_n 0, 1) := by decide +kernel
theorem dX12_remembers_74 : decode cX12_remembers 74 = .ok (.getfield 7, 3) := by decide +kernel
theorem dX12_remembers_77 : decode cX12_remembers 77 = .ok (.iload_n 1, 1) := by decide +kernel
theorem dX12_remembers_78 : decode cX12_remembers 78 = .ok (.iaload, 1) := by decide +kernel
theorem dX12_remembers_79 : decode cX12_remembers 79 = .ok (.iastore, 1) := by decide +kernel
theorem dX12_remembers_80 : decode cX12_remembers 80 = .ok (.iinc 1 1, 3) := by decide +kernel
theorem dX12_remembers_83 : decode cX12_remembers 83 = .ok (.goto (-31), 3) := by decide +kernel
theorem dX12_remembers_86 : decode cX12_remembers 86 = .ok (.aload_n 0, 1) := by decide +kernel
theorem dX12_remembers_87 : decode cX12_remembers 87 = .ok (.dup, 1) := by decide +kernel
theorem dX12_remembers_88 : decode cX12_remembers 88 = .ok (.getfield 188, 3) := by decide +kernel
theorem dX12_remembers_91 : decode cX12_remembers 91 = .ok (.iconst 1, 1) := by decide +kernel
theorem dX12_remembers_92 : decode cX12_remembers 92 = .ok (.iadd, 1) := by decide +kernel
theorem dX12_remembers_93 : decode cX12_remembers 93 = .ok (.putfield 188, 3) := by decide +kernel
theorem dX12_remembers_96 : decode cX12_remembers 96 = .ok (.return_, 1) := by decide +kernel
theorem dX12_sets_0 : decode cX12_sets 0 = .ok (.aload_n 0, 1) := by decide +kernel
theorem dX12_sets_1 : decode cX12_sets 1 = .ok (.invokevirtual 315, 3) := by decide +kernel
theorem dX12_sets_4 : decode cX12_sets 4 = .ok (.aload_n 0, 1) := by decide +kernel
theorem dX12_sets_5 : decode cX12_sets 5 = .ok (.getfield 7, 3) := by decide +kernel
theorem dX12_sets_8 : decode cX12_sets 8 = .ok (.iload_n 1, 1) := by decide +kernel
theorem dX12_sets_9 : decode cX12_sets 9 = .ok (.iaload, 1) := by decide +kernel
theorem dX12_sets_10 : decode cX12_sets 10 = .ok (.istore_n 3, 1) := by decide +kernel
theorem dX12_sets_11 : decode cX12_sets 11 = .ok (.aload_n 0, 1) := by decide +kernel
theorem dX12_sets_12 : decode cX12_sets 12 = .ok (.getfield 7, 3) := by decide +kernel
theorem dX12_sets_15 : decode cX12_sets 15 = .ok (.iload_n 1, 1) := by decide +kernel
theorem dX12_sets_16 : decode cX12_sets 16 = .ok (.iload_n 2, 1) := by decide +kernel
theorem dX12_sets_17 : decode cX12_sets 17 = .ok (.iastore, 1) := by decide +kernel
theorem dX12_sets_18 : decode cX12_sets 18 = .ok (.iload_n 3, 1) := by decide +kernel
theorem dX12_sets_19 : decode cX12_sets 19 = .ok (.ireturn, 1) := by decide +kernel
theorem dX12_hours_0 : decode cX12_hours 0 = .ok (.aload_n 0, 1) := by decide +kernel
theorem dX12_hours_1 : decode cX12_hours 1 = .ok (.iload_n 1, 1) := by decide +kernel
theorem dX12_hours_2 : decode cX12_hours 2 = .ok (.iconst 1, 1) := by decide +kernel
theorem dX12_hours_3 : decode cX12_hours 3 = .ok (.bipush 60, 2) := by decide +kernel
theorem dX12_hours_5 : decode cX12_hours 5 = .ok (.invokestatic 50, 3) := by decide +kernel
theorem dX12_hours_8 : decode cX12_hours 8 = .ok (.ifCond .ne 7, 3) := by decide +kernel
theorem dX12_hours_11 : decode cX12_hours 11 = .ok (.iconst 1, 1) := by decide +kernel
theorem dX12_hours_12 : decode cX12_hours 12 = .ok (.goto 4, 3) := by decide +kernel
theorem dX12_hours_15 : decode cX12_hours 15 = .ok (.iconst 0, 1) := by decide +kernel
theorem dX12_hours_16 : decode cX12_hours 16 = .ok (.putfield 47, 3) := by decide +kernel
theorem dX12_hours_19 : decode cX12_hours 19 = .ok (.aload_n 0, 1) := by decide +kernel
theorem dX12_hours_20 : decode cX12_hours 20 = .ok (.getfield 47, 3) := by decide +kernel
theorem dX12_hours_23 : decode cX12_hours 23 = .ok (.ifCond .le 5, 3) := by decide +kernel
theorem dX12_hours_26 : decode cX12_hours 26 = .ok (.iconst 0, 1) := by decide +kernel
theorem dX12_hours_27 : decode cX12_hours 27 = .ok (.ireturn, 1) := by decide +kernel
theorem dX12_hours_28 : decode cX12_hours 28 = .ok (.aload_n 0, 1) := by decide +kernel
theorem dX12_hours_29 : decode cX12_hours 29 = .ok (.invokevirtual 315, 3) := by decide +kernel
theorem dX12_hours_32 : decode cX12_hours 32 = .ok (.aload_n 0, 1) := by decide +kernel
theorem dX12_hours_33 : decode cX12_hours 33 = .ok (.iload_n 1, 1) := by decide +kernel
theorem dX12_hours_34 : decode cX12_hours 34 = .ok (.iconst 1, 1) := by decide +kernel
theorem dX12_hours_35 : decode cX12_hours 35 = .ok (.invokevirtual 318, 3) := by decide +kernel
theorem dX12_hours_38 : decode cX12_hours 38 = .ok (.ireturn, 1) := by decide +kernel
theorem dX12_heads_0 : decode cX12_heads 0 = .ok (.aload_n 0, 1) := by decide +kernel
theorem dX12_heads_1 : decode cX12_heads 1 = .ok (.aload_n 0, 1) := by decide +kernel
theorem dX12_heads_2 : decode cX12_heads 2 = .ok (.iload_n 1, 1) := by decide +kernel
theorem dX12_heads_3 : decode cX12_heads 3 = .ok (.invokevirtual 296, 3) := by decide +kernel
theorem dX12_heads_6 : decode cX12_heads 6 = .ok (.ifCond .eq 16, 3) := by decide +kernel
theorem dX12_heads_9 : decode cX12_heads 9 = .ok (.iload_n 2, 1) := by decide +kernel
theorem dX12_heads_10 : decode cX12_heads 10 = .ok (.iconst (-1), 1) := by decide +kernel
theorem dX12_heads_11 : decode cX12_heads 11 = .ok (.if_icmp .eq 15, 3) := by decide +kernel
theorem dX12_heads_14 : decode cX12_heads 14 = .ok (.aload_n 0, 1) := by decide +kernel
theorem dX12_heads_15 : decode cX12_heads 15 = .ok (.iload_n 2, 1) := by decide +kernel
theorem dX12_heads_16 : decode cX12_heads 16 = .ok (.invokevirtual 286, 3) := by decide +kernel
theorem dX12_heads_19 : decode cX12_heads 19 = .ok (.ifCond .ne 7, 3) := by decide +kernel
theorem dX12_heads_22 : decode cX12_heads 22 = .ok (.iconst 1, 1) := by decide +kernel
theorem dX12_heads_23 : decode cX12_heads 23 = .ok (.goto 4, 3) := by decide +kernel
theorem dX12_heads_26 : decode cX12_heads 26 = .ok (.iconst 0, 1) := by decide +kernel
theorem dX12_heads_27 : decode cX12_heads 27 = .ok (.putfield 47, 3) := by decide +kernel
theorem dX12_heads_30 : decode cX12_heads 30 = .ok (.aload_n 0, 1) := by decide +kernel
theorem dX12_heads_31 : decode cX12_heads 31 = .ok (.getfield 47, 3) := by decide +kernel
theorem dX12_heads_34 : decode cX12_heads 34 = .ok (.ifCond .le 7, 3) := by decide +kernel
theorem dX12_heads_37 : decode cX12_heads 37 = .ok (.iconst 0, 1) := by decide +kernel
theorem dX12_heads_38 : decode cX12_heads 38 = .ok (.goto 17, 3) := by decide +kernel
theorem dX12_heads_41 : decode cX12_heads 41 = .ok (.aload_n 0, 1) := by decide +kernel
theorem dX12_heads_42 : decode cX12_heads 42 = .ok (.sipush 128, 3) := by decide +kernel
theorem dX12_heads_45 : decode cX12_heads 45 = .ok (.iconst 4, 1) := by decide +kernel
theorem dX12_heads_46 : decode cX12_heads 46 = .ok (.iload_n 1, 1) := by decide +kernel
theorem dX12_heads_47 : decode cX12_heads 47 = .ok (.imul, 1) := by decide +kernel
theorem dX12_heads_48 : decode cX12_heads 48 = .ok (.iadd, 1) := by decide +kernel
theorem dX12_heads_49 : decode cX12_heads 49 = .ok (.iconst 2, 1) := by decide +kernel
theorem dX12_heads_50 : decode cX12_heads 50 = .ok (.iadd, 1) := by decide +kernel
theorem dX12_heads_51 : decode cX12_heads 51 = .ok (.iload_n 2, 1) := by decide +kernel
theorem dX12_heads_52 : decode cX12_heads 52 = .ok (.invokevirtual 321, 3) := by decide +kernel
theorem dX12_heads_55 : decode cX12_heads 55 = .ok (.ireturn, 1) := by decide +kernel
theorem dX12_strike_0 : decode cX12_strike 0 = .ok (.aload_n 0, 1) := by decide +kernel
theorem dX12_strike_1 : decode cX12_strike 1 = .ok (.aload_n 0, 1) := by decide +kernel
theorem dX12_strike_2 : decode cX12_strike 2 = .ok (.iload_n 1, 1) := by decide +kernel
theorem dX12_strike_3 : decode cX12_strike 3 = .ok (.invokevirtual 296, 3) := by decide +kernel
theorem dX12_strike_6 : decode cX12_strike 6 = .ok (.ifCond .ne 7, 3) := by decide +kernel
theorem dX12_strike_9 : decode cX12_strike 9 = .ok (.iconst 1, 1) := by decide +kernel
theorem dX12_strike_10 : decode cX12_strike 10 = .ok (.goto 4, 3) := by decide +kernel
theorem dX12_strike_13 : decode cX12_strike 13 = .ok (.iconst 0, 1) := by decide +kernel
theorem dX12_strike_14 : decode cX12_strike 14 = .ok (.putfield 47, 3) := by decide +kernel
theorem dX12_strike_17 : decode cX12_strike 17 = .ok (.aload_n 0, 1) := by decide +kernel
theorem dX12_strike_18 : decode cX12_strike 18 = .ok (.getfield 47, 3) := by decide +kernel
theorem dX12_strike_21 : decode cX12_strike 21 = .ok (.ifCond .le 5, 3) := by decide +kernel
theorem dX12_strike_24 : decode cX12_strike 24 = .ok (.iconst 0, 1) := by decide +kernel
theorem dX12_strike_25 : decode cX12_strike 25 = .ok (.ireturn, 1) := by decide +kernel
theorem dX12_strike_26 : decode cX12_strike 26 = .ok (.aload_n 0, 1) := by decide +kernel
theorem dX12_strike_27 : decode cX12_strike 27 = .ok (.iload_n 1, 1) := by decide +kernel
theorem dX12_strike_28 : decode cX12_strike 28 = .ok (.iconst 0, 1) := by decide +kernel
theorem dX12_strike_29 : decode cX12_strike 29 = .ok (.invokevirtual 243, 3) := by decide +kernel
theorem dX12_strike_32 : decode cX12_strike 32 = .ok (.istore_n 2, 1) := by decide +kernel
theorem dX12_strike_33 : decode cX12_strike 33 = .ok (.aload_n 0, 1) := by decide +kernel
theorem dX12_strike_34 : decode cX12_strike 34 = .ok (.aload_n 0, 1) := by decide +kernel
theorem dX12_strike_35 : decode cX12_strike 35 = .ok (.iload_n 1, 1) := by decide +kernel
theorem dX12_strike_36 : decode cX12_strike 36 = .ok (.iconst 1, 1) := by decide +kernel
theorem dX12_strike_37 : decode cX12_strike 37 = .ok (.invokevirtual 243, 3) := by decide +kernel
theorem dX12_strike_40 : decode cX12_strike 40 = .ok (.ifCond .eq 32, 3) := by decide +kernel
theorem dX12_strike_43 : decode cX12_strike 43 = .ok (.aload_n 0, 1) := by decide +kernel
theorem dX12_strike_44 : decode cX12_strike 44 = .ok (.iload_n 2, 1) := by decide +kernel
theorem dX12_strike_45 : decode cX12_strike 45 = .ok (.iconst 1, 1) := by decide +kernel
theorem dX12_strike_46 : decode cX12_strike 46 = .ok (.invokevirtual 128, 3) := by decide +kernel
theorem dX12_strike_49 : decode cX12_strike 49 = .ok (.iconst 1, 1) := by decide +kernel
theorem dX12_strike_50 : decode cX12_strike 50 = .ok (.if_icmp .eq 22, 3) := by decide +kernel
theorem dX12_strike_53 : decode cX12_strike 53 = .ok (.aload_n 0, 1) := by decide +kernel
theorem dX12_strike_54 : decode cX12_strike 54 = .ok (.iload_n 2, 1) := by decide +kernel
theorem dX12_strike_55 : decode cX12_strike 55 = .ok (.iconst 2, 1) := by decide +kernel
theorem dX12_strike_56 : decode cX12_strike 56 = .ok (.invokevirtual 128, 3) := by decide +kernel
theorem dX12_strike_59 : decode cX12_strike 59 = .ok (.iload_n 1, 1) := by decide +kernel
theorem dX12_strike_60 : decode cX12_strike 60 = .ok (.if_icmp .eq 12, 3) := by decide +kernel
theorem dX12_strike_63 : decode cX12_strike 63 = .ok (.aload_n 0, 1) := by decide +kernel
theorem dX12_strike_64 : decode cX12_strike 64 = .ok (.iload_n 2, 1) := by decide +kernel
theorem dX12_strike_65 : decode cX12_strike 65 = .ok (.iconst 0, 1) := by decide +kernel
theorem dX12_strike_66 : decode cX12_strike 66 = .ok (.invokevirtual 128, 3) := by decide +kernel
theorem dX12_strike_69 : decode cX12_strike 69 = .ok (.ifCond .ne 7, 3) := by decide +kernel
