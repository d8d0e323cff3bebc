theorem dX12_strike_72 : decode cX12_strike 72 = .ok (.iconst 2, 1) := by decide +kernel
theorem dX12_strike_73 : decode cX12_strike 73 = .ok (.goto 4, 3) := by decide +kernel
theorem dX12_strike_76 : decode cX12_strike 76 = .ok (.iconst 0, 1) := by decide +kernel
theorem dX12_strike_77 : decode cX12_strike 77 = .ok (.putfield 47, 3) := by decide +kernel
theorem dX12_strike_80 : decode cX12_strike 80 = .ok (.aload_n 0, 1) := by decide +kernel
theorem dX12_strike_81 : decode cX12_strike 81 = .ok (.getfield 47, 3) := by decide +kernel
theorem dX12_strike_84 : decode cX12_strike 84 = .ok (.ifCond .le 5, 3) := by decide +kernel
theorem dX12_strike_87 : decode cX12_strike 87 = .ok (.iconst 0, 1) := by decide +kernel
theorem dX12_strike_88 : decode cX12_strike 88 = .ok (.ireturn, 1) := by decide +kernel
theorem dX12_strike_89 : decode cX12_strike 89 = .ok (.aload_n 0, 1) := by decide +kernel
theorem dX12_strike_90 : decode cX12_strike 90 = .ok (.invokevirtual 315, 3) := by decide +kernel
theorem dX12_strike_93 : decode cX12_strike 93 = .ok (.aload_n 0, 1) := by decide +kernel
theorem dX12_strike_94 : decode cX12_strike 94 = .ok (.iload_n 1, 1) := by decide +kernel
theorem dX12_strike_95 : decode cX12_strike 95 = .ok (.iload_n 2, 1) := by decide +kernel
theorem dX12_strike_96 : decode cX12_strike 96 = .ok (.iconst 1, 1) := by decide +kernel
theorem dX12_strike_97 : decode cX12_strike 97 = .ok (.invokevirtual 277, 3) := by decide +kernel
theorem dX12_strike_100 : decode cX12_strike 100 = .ok (.aload_n 0, 1) := by decide +kernel
theorem dX12_strike_101 : decode cX12_strike 101 = .ok (.iload_n 1, 1) := by decide +kernel
theorem dX12_strike_102 : decode cX12_strike 102 = .ok (.iconst 1, 1) := by decide +kernel
theorem dX12_strike_103 : decode cX12_strike 103 = .ok (.invokevirtual 243, 3) := by decide +kernel
theorem dX12_strike_106 : decode cX12_strike 106 = .ok (.ireturn, 1) := by decide +kernel
theorem dX12_snuff_0 : decode cX12_snuff 0 = .ok (.aload_n 0, 1) := by decide +kernel
theorem dX12_snuff_1 : decode cX12_snuff 1 = .ok (.aload_n 0, 1) := by decide +kernel
theorem dX12_snuff_2 : decode cX12_snuff 2 = .ok (.iload_n 1, 1) := by decide +kernel
theorem dX12_snuff_3 : decode cX12_snuff 3 = .ok (.invokevirtual 286, 3) := by decide +kernel
theorem dX12_snuff_6 : decode cX12_snuff 6 = .ok (.ifCond .ne 7, 3) := by decide +kernel
theorem dX12_snuff_9 : decode cX12_snuff 9 = .ok (.iconst 1, 1) := by decide +kernel
theorem dX12_snuff_10 : decode cX12_snuff 10 = .ok (.goto 4, 3) := by decide +kernel
theorem dX12_snuff_13 : decode cX12_snuff 13 = .ok (.iconst 0, 1) := by decide +kernel
theorem dX12_snuff_14 : decode cX12_snuff 14 = .ok (.putfield 47, 3) := by decide +kernel
theorem dX12_snuff_17 : decode cX12_snuff 17 = .ok (.aload_n 0, 1) := by decide +kernel
theorem dX12_snuff_18 : decode cX12_snuff 18 = .ok (.getfield 47, 3) := by decide +kernel
theorem dX12_snuff_21 : decode cX12_snuff 21 = .ok (.ifCond .le 5, 3) := by decide +kernel
theorem dX12_snuff_24 : decode cX12_snuff 24 = .ok (.iconst 0, 1) := by decide +kernel
theorem dX12_snuff_25 : decode cX12_snuff 25 = .ok (.ireturn, 1) := by decide +kernel
theorem dX12_snuff_26 : decode cX12_snuff 26 = .ok (.aload_n 0, 1) := by decide +kernel
theorem dX12_snuff_27 : decode cX12_snuff 27 = .ok (.aload_n 0, 1) := by decide +kernel
theorem dX12_snuff_28 : decode cX12_snuff 28 = .ok (.iload_n 1, 1) := by decide +kernel
theorem dX12_snuff_29 : decode cX12_snuff 29 = .ok (.iconst 1, 1) := by decide +kernel
theorem dX12_snuff_30 : decode cX12_snuff 30 = .ok (.invokevirtual 128, 3) := by decide +kernel
theorem dX12_snuff_33 : decode cX12_snuff 33 = .ok (.ifCond .eq 13, 3) := by decide +kernel
theorem dX12_snuff_36 : decode cX12_snuff 36 = .ok (.aload_n 0, 1) := by decide +kernel
theorem dX12_snuff_37 : decode cX12_snuff 37 = .ok (.iload_n 1, 1) := by decide +kernel
theorem dX12_snuff_38 : decode cX12_snuff 38 = .ok (.iconst 2, 1) := by decide +kernel
theorem dX12_snuff_39 : decode cX12_snuff 39 = .ok (.invokevirtual 128, 3) := by decide +kernel
theorem dX12_snuff_42 : decode cX12_snuff 42 = .ok (.iconst (-1), 1) := by decide +kernel
theorem dX12_snuff_43 : decode cX12_snuff 43 = .ok (.if_icmp .ne 7, 3) := by decide +kernel
theorem dX12_snuff_46 : decode cX12_snuff 46 = .ok (.iconst 2, 1) := by decide +kernel
theorem dX12_snuff_47 : decode cX12_snuff 47 = .ok (.goto 4, 3) := by decide +kernel
theorem dX12_snuff_50 : decode cX12_snuff 50 = .ok (.iconst 0, 1) := by decide +kernel
theorem dX12_snuff_51 : decode cX12_snuff 51 = .ok (.putfield 47, 3) := by decide +kernel
theorem dX12_snuff_54 : decode cX12_snuff 54 = .ok (.aload_n 0, 1) := by decide +kernel
theorem dX12_snuff_55 : decode cX12_snuff 55 = .ok (.getfield 47, 3) := by decide +kernel
theorem dX12_snuff_58 : decode cX12_snuff 58 = .ok (.ifCond .le 5, 3) := by decide +kernel
theorem dX12_snuff_61 : decode cX12_snuff 61 = .ok (.iconst 0, 1) := by decide +kernel
theorem dX12_snuff_62 : decode cX12_snuff 62 = .ok (.ireturn, 1) := by decide +kernel
theorem dX12_snuff_63 : decode cX12_snuff 63 = .ok (.aload_n 0, 1) := by decide +kernel
theorem dX12_snuff_64 : decode cX12_snuff 64 = .ok (.bipush 11, 2) := by decide +kernel
theorem dX12_snuff_66 : decode cX12_snuff 66 = .ok (.iconst 4, 1) := by decide +kernel
theorem dX12_snuff_67 : decode cX12_snuff 67 = .ok (.iload_n 1, 1) := by decide +kernel
theorem dX12_snuff_68 : decode cX12_snuff 68 = .ok (.imul, 1) := by decide +kernel
theorem dX12_snuff_69 : decode cX12_snuff 69 = .ok (.iadd, 1) := by decide +kernel
theorem dX12_snuff_70 : decode cX12_snuff 70 = .ok (.iconst 1, 1) := by decide +kernel
theorem dX12_snuff_71 : decode cX12_snuff 71 = .ok (.iadd, 1) := by decide +kernel
theorem dX12_snuff_72 : decode cX12_snuff 72 = .ok (.iconst 0, 1) := by decide +kernel
theorem dX12_snuff_73 : decode cX12_snuff 73 = .ok (.invokevirtual 321, 3) := by decide +kernel
theorem dX12_snuff_76 : decode cX12_snuff 76 = .ok (.istore_n 2, 1) := by decide +kernel
theorem dX12_snuff_77 : decode cX12_snuff 77 = .ok (.aload_n 0, 1) := by decide +kernel
theorem dX12_snuff_78 : decode cX12_snuff 78 = .ok (.iconst 3, 1) := by decide +kernel
theorem dX12_snuff_79 : decode cX12_snuff 79 = .ok (.iload_n 1, 1) := by decide +kernel
theorem dX12_snuff_80 : decode cX12_snuff 80 = .ok (.aload_n 0, 1) := by decide +kernel
theorem dX12_snuff_81 : decode cX12_snuff 81 = .ok (.iload_n 1, 1) := by decide +kernel
theorem dX12_snuff_82 : decode cX12_snuff 82 = .ok (.iconst 2, 1) := by decide +kernel
theorem dX12_snuff_83 : decode cX12_snuff 83 = .ok (.invokevirtual 128, 3) := by decide +kernel
theorem dX12_snuff_86 : decode cX12_snuff 86 = .ok (.invokevirtual 262, 3) := by decide +kernel
theorem dX12_snuff_89 : decode cX12_snuff 89 = .ok (.aload_n 0, 1) := by decide +kernel
theorem dX12_snuff_90 : decode cX12_snuff 90 = .ok (.iload_n 1, 1) := by decide +kernel
theorem dX12_snuff_91 : decode cX12_snuff 91 = .ok (.iconst 0, 1) := by decide +kernel
theorem dX12_snuff_92 : decode cX12_snuff 92 = .ok (.invokevirtual 128, 3) := by decide +kernel
theorem dX12_snuff_95 : decode cX12_snuff 95 = .ok (.ireturn, 1) := by decide +kernel
theorem dX12_oil_0 : decode cX12_oil 0 = .ok (.aload_n 0, 1) := by decide +kernel
theorem dX12_oil_1 : decode cX12_oil 1 = .ok (.aload_n 0, 1) := by decide +kernel
theorem dX12_oil_2 : decode cX12_oil 2 = .ok (.iload_n 1, 1) := by decide +kernel
theorem dX12_oil_3 : decode cX12_oil 3 = .ok (.invokevirtual 286, 3) := by decide +kernel
theorem dX12_oil_6 : decode cX12_oil 6 = .ok (.ifCond .ne 7, 3) := by decide +kernel
theorem dX12_oil_9 : decode cX12_oil 9 = .ok (.iconst 1, 1) := by decide +kernel
theorem dX12_oil_10 : decode cX12_oil 10 = .ok (.goto 18, 3) := by decide +kernel
theorem dX12_oil_13 : decode cX12_oil 13 = .ok (.iload_n 2, 1) := by decide +kernel
theorem dX12_oil_14 : decode cX12_oil 14 = .ok (.iconst 1, 1) := by decide +kernel
theorem dX12_oil_15 : decode cX12_oil 15 = .ok (.bipush 99, 2) := by decide +kernel
theorem dX12_oil_17 : decode cX12_oil 17 = .ok (.invokestatic 50, 3) := by decide +kernel
theorem dX12_oil_20 : decode cX12_oil 20 = .ok (.ifCond .ne 7, 3) := by decide +kernel
theorem dX12_oil_23 : decode cX12_oil 23 = .ok (.iconst 2, 1) := by decide +kernel
theorem dX12_oil_24 : decode cX12_oil 24 = .ok (.goto 4, 3) := by decide +kernel
theorem dX12_oil_27 : decode cX12_oil 27 = .ok (.iconst 0, 1) := by decide +kernel
theorem dX12_oil_28 : decode cX12_oil 28 = .ok (.putfield 47, 3) := by decide +kernel
theorem dX12_oil_31 : decode cX12_oil 31 = .ok (.aload_n 0, 1) := by decide +kernel
theorem dX12_oil_32 : decode cX12_oil 32 = .ok (.getfield 47, 3) := by decide +kernel
theorem dX12_oil_35 : decode cX12_oil 35 = .ok (.ifCond .le 5, 3) := by decide +kernel
theorem dX12_oil_38 : decode cX12_oil 38 = .ok (.iconst 0, 1) := by decide +kernel
theorem dX12_oil_39 : decode cX12_oil 39 = .ok (.ireturn, 1) := by decide +kernel
theorem dX12_oil_40 : decode cX12_oil 40 = .ok (.aload_n 0, 1) := by decide +kernel
theorem dX12_oil_41 : decode cX12_oil 41 = .ok (.bipush 11, 2) := by decide +kernel
theorem dX12_oil_43 : decode cX12_oil 43 = .ok (.iconst 4, 1) := by decide +kernel
theorem dX12_oil_44 : decode cX12_oil 44 = .ok (.iload_n 1, 1) := by decide +kernel
theorem dX12_oil_45 : decode cX12_oil 45 = .ok (.imul, 1) := by decide +kernel
theorem dX12_oil_46 : decode cX12_oil 46 = .ok (.iadd, 1) := by decide +kernel
theorem dX12_oil_47 : decode cX12_oil 47 = .ok (.iconst 0, 1) := by decide +kernel
theorem dX12_oil_48 : decode cX12_oil 48 = .ok (.iadd, 1) := by decide +kernel
theorem dX12_oil_49 : decode cX12_oil 49 = .ok (.bipush 99, 2) := by decide +kernel
theorem dX12_oil_51 : decode cX12_oil 51 = .ok (.aload_n 0, 1) := by decide +kernel
theorem dX12_oil_52 : decode cX12_oil 52 = .ok (.iload_n 1, 1) := by decide +kernel
theorem dX12_oil_53 : decode cX12_oil 53 = .ok (.iconst 0, 1) := by decide +kernel
theorem dX12_oil_54 : decode cX12_oil 54 = .ok (.invokevirtual 128, 3) := by decide +kernel
theorem dX12_oil_57 : decode cX12_oil 57 = .ok (.iload_n 2, 1) := by decide +kernel
theorem dX12_oil_58 : decode cX12_oil 58 = .ok (.iadd, 1) := by decide +kernel
theorem dX12_oil_59 : decode cX12_oil 59 = .ok (.invokestatic 256, 3) := by decide +kernel
theorem dX12_oil_62 : decode cX12_oil 62 = .ok (.invokevirtual 321, 3) := by decide +kernel
theorem dX12_oil_65 : decode cX12_oil 65 = .ok (.istore_n 3, 1) := by decide +kernel
theorem dX12_oil_66 : decode cX12_oil 66 = .ok (.aload_n 0, 1) := by decide +kernel
theorem dX12_oil_67 : decode cX12_oil 67 = .ok (.iload_n 1, 1) := by decide +kernel
theorem dX12_oil_68 : decode cX12_oil 68 = .ok (.iconst 0, 1) := by decide +kernel
theorem dX12_oil_69 : decode cX12_oil 69 = .ok (.invokevirtual 128, 3) := by decide +kernel
theorem dX12_oil_72 : decode cX12_oil 72 = .ok (.ireturn, 1) := by decide +kernel
theorem dX12_taper_0 : decode cX12_taper 0 = .ok (.aload_n 0, 1) := by decide +kernel
theorem dX12_taper_1 : decode cX12_taper 1 = .ok (.aload_n 0, 1) := by decide +kernel
theorem dX12_taper_2 : decode cX12_taper 2 = .ok (.iload_n 1, 1) := by decide +kernel
theorem dX12_taper_3 : decode cX12_taper 3 = .ok (.invokevirtual 296, 3) := by decide +kernel
theorem dX12_taper_6 : decode cX12_taper 6 = .ok (.ifCond .ne 7, 3) := by decide +kernel
theorem dX12_taper_9 : decode cX12_taper 9 = .ok (.iconst 1, 1) := by decide +kernel
theorem dX12_taper_10 : decode cX12_taper 10 = .ok (.goto 18, 3) := by decide +kernel
theorem dX12_taper_13 : decode cX12_taper 13 = .ok (.iload_n 2, 1) := by decide +kernel
theorem dX12_taper_14 : decode cX12_taper 14 = .ok (.iconst 1, 1) := by decide +kernel
theorem dX12_taper_15 : decode cX12_taper 15 = .ok (.bipush 99, 2) := by decide +kernel
theorem dX12_taper_17 : decode cX12_taper 17 = .ok (.invokestatic 50, 3) := by decide +kernel
theorem dX12_taper_20 : decode cX12_taper 20 = .ok (.ifCond .ne 7, 3) := by decide +kernel
theorem dX12_taper_23 : decode cX12_taper 23 = .ok (.iconst 2, 1) := by decide +kernel
theorem dX12_taper_24 : decode cX12_taper 24 = .ok (.goto 4, 3) := by decide +kernel
theorem dX12_taper_27 : decode cX12_taper 27 = .ok (.iconst 0, 1) := by decide +kernel
theorem dX12_taper_28 : decode cX12_taper 28 = .ok (.putfield 47, 3) := by decide +kernel
theorem dX12_taper_31 : decode cX12_taper 31 = .ok (.aload_n 0, 1) := by decide +kernel
theorem dX12_taper_32 : decode cX12_taper 32 = .ok (.getfield 47, 3) := by decide +kernel
theorem dX12_taper_35 : decode cX12_taper 35 = .ok (.ifCond .le 5, 3) := by decide +kernel
theorem dX12_taper_38 : decode cX12_taper 38 = .ok (.iconst 0, 1) := by decide +kernel
theorem dX12_taper_39 : decode cX12_taper 39 = .ok (.ireturn, 1) := by decide +kernel
theorem dX12_taper_40 : decode cX12_taper 40 = .ok (.aload_n 0, 1) := by decide +kernel
theorem dX12_taper_41 : decode cX12_taper 41 = .ok (.sipush 128, 3) := by decide +kernel
theorem dX12_taper_44 : decode cX12_taper 44 = .ok (.iconst 4, 1) := by decide +kernel
theorem dX12_taper_45 : decode cX12_taper 45 = .ok (.iload_n 1, 1) := by decide +kernel
theorem dX12_taper_46 : decode cX12_taper 46 = .ok (.imul, 1) := by decide +kernel
theorem dX12_taper_47 : decode cX12_taper 47 = .ok (.iadd, 1) := by decide +kernel
theorem dX12_taper_48 : decode cX12_taper 48 = .ok (.iconst 1, 1) := by decide +kernel
theorem dX12_taper_49 : decode cX12_taper 49 = .ok (.iadd, 1) := by decide +kernel
theorem dX12_taper_50 : decode cX12_taper 50 = .ok (.bipush 99, 2) := by decide +kernel
theorem dX12_taper_52 : decode cX12_taper 52 = .ok (.aload_n 0, 1) := by decide +kernel
theorem dX12_taper_53 : decode cX12_taper 53 = .ok (.iload_n 1, 1) := by decide +kernel
theorem dX12_taper_54 : decode cX12_taper 54 = .ok (.iconst 1, 1) := by decide +kernel
theorem dX12_taper_55 : decode cX12_taper 55 = .ok (.invokevirtual 243, 3) := by decide +kernel
theorem dX12_taper_58 : decode cX12_taper 58 = .ok (.iload_n 2, 1) := by decide +kernel
theorem dX12_taper_59 : decode cX12_taper 59 = .ok (.iadd, 1) := by decide +kernel
theorem dX12_taper_60 : decode cX12_taper 60 = .ok (.invokestatic 256, 3) := by decide +kernel
theorem dX12_taper_63 : decode cX12_taper 63 = .ok (.invokevirtual 321, 3) := by decide +kernel
theorem dX12_taper_66 : decode cX12_taper 66 = .ok (.istore_n 3, 1) := by decide +kernel
theorem dX12_taper_67 : decode cX12_taper 67 = .ok (.aload_n 0, 1) := by decide +kernel
theorem dX12_taper_68 : decode cX12_taper 68 = .ok (.iload_n 1, 1) := by decide +kernel
theorem dX12_taper_69 : decode cX12_taper 69 = .ok (.iconst 1, 1) := by decide +kernel
theorem dX12_taper_70 : decode cX12_taper 70 = .ok (.invokevirtual 243, 3) := by decide +kernel
theorem dX12_taper_73 : decode cX12_taper 73 = .ok (.ireturn, 1) := by decide +kernel
theorem dX12_like_0 : decode cX12_like 0 = .ok (.aload_n 0, 1) := by decide +kernel
theorem dX12_like_1 : decode cX12_like 1 = .ok (.aload_n 0, 1) := by decide +kernel
theorem dX12_like_2 : decode cX12_like 2 = .ok (.iload_n 1, 1) := by decide +kernel
theorem dX12_like_3 : decode cX12_like 3 = .ok (.invokevirtual 296, 3) := by decide +kernel
theorem dX12_like_6 : decode cX12_like 6 = .ok (.ifCond .eq 11, 3) := by decide +kernel
theorem dX12_like_9 : decode cX12_like 9 = .ok (.aload_n 0, 1) := by decide +kernel
theorem dX12_like_10 : decode cX12_like 10 = .ok (.iload_n 2, 1) := by decide +kernel
theorem dX12_like_11 : decode cX12_like 11 = .ok (.invokevirtual 296, 3) := by decide +kernel
theorem dX12_like_14 : decode cX12_like 14 = .ok (.ifCond .ne 7, 3) := by decide +kernel
theorem dX12_like_17 : decode cX12_like 17 = .ok (.iconst 1, 1) := by decide +kernel
theorem dX12_like_18 : decode cX12_like 18 = .ok (.goto 23, 3) := by decide +kernel
theorem dX12_like_21 : decode cX12_like 21 = .ok (.iload_n 1, 1) := by decide +kernel
theorem dX12_like_22 : decode cX12_like 22 = .ok (.iload_n 2, 1) := by decide +kernel
theorem dX12_like_23 : decode cX12_like 23 = .ok (.if_icmp .eq 13, 3) := by decide +kernel
theorem dX12_like_26 : decode cX12_like 26 = .ok (.iload_n 3, 1) := by decide +kernel
theorem dX12_like_27 : decode cX12_like 27 = .ok (.iconst 0, 1) := by decide +kernel
theorem dX12_like_28 : decode cX12_like 28 = .ok (.bipush 9, 2) := by decide +kernel
theorem dX12_like_30 : decode cX12_like 30 = .ok (.invokestatic 50, 3) := by decide +kernel
theorem dX12_like_33 : decode cX12_like 33 = .ok (.ifCond .ne 7, 3) := by decide +kernel
theorem dX12_like_36 : decode cX12_like 36 = .ok (.iconst 2, 1) := by decide +kernel
theorem dX12_like_37 : decode cX12_like 37 = .ok (.goto 4, 3) := by decide +kernel
theorem dX12_like_40 : decode cX12_like 40 = .ok (.iconst 0, 1) := by decide +kernel
theorem dX12_like_41 : decode cX12_like 41 = .ok (.putfield 47, 3) := by decide +kernel
theorem dX12_like_44 : decode cX12_like 44 = .ok (.aload_n 0, 1) := by decide +kernel
theorem dX12_like_45 : decode cX12_like 45 = .ok (.getfield 47, 3) := by decide +kernel
theorem dX12_like_48 : decode cX12_like 48 = .ok (.ifCond .le 7, 3) := by decide +kernel
theorem dX12_like_51 : decode cX12_like 51 = .ok (.iconst 0, 1) := by decide +kernel
theorem dX12_like_52 : decode cX12_like 52 = .ok (.goto 18, 3) := by decide +kernel
theorem dX12_like_55 : decode cX12_like 55 = .ok (.aload_n 0, 1) := by decide +kernel
theorem dX12_like_56 : decode cX12_like 56 = .ok (.sipush 152, 3) := by decide +kernel
theorem dX12_like_59 : decode cX12_like 59 = .ok (.bipush 6, 2) := by decide +kernel
theorem dX12_like_61 : decode cX12_like 61 = .ok (.iload_n 1, 1) := by decide +kernel
theorem dX12_like_62 : decode cX12_like 62 = .ok (.imul, 1) := by decide +kernel
theorem dX12_like_63 : decode cX12_like 63 = .ok (.iadd, 1) := by decide +kernel
theorem dX12_like_64 : decode cX12_like 64 = .ok (.iload_n 2, 1) := by decide +kernel
theorem dX12_like_65 : decode cX12_like 65 = .ok (.iadd, 1) := by decide +kernel
theorem dX12_like_66 : decode cX12_like 66 = .ok (.iload_n 3, 1) := by decide +kernel
theorem dX12_like_67 : decode cX12_like 67 = .ok (.invokevirtual 321, 3) := by decide +kernel
theorem dX12_like_70 : decode cX12_like 70 = .ok (.ireturn, 1) := by decide +kernel
theorem dX12_way_0 : decode cX12_way 0 = .ok (.aload_n 0, 1) := by decide +kernel
theorem dX12_way_1 : decode cX12_way 1 = .ok (.iload_n 1, 1) := by decide +kernel
theorem dX12_way_2 : decode cX12_way 2 = .ok (.iload_n 2, 1) := by decide +kernel
theorem dX12_way_3 : decode cX12_way 3 = .ok (.invokevirtual 312, 3) := by decide +kernel
theorem dX12_way_6 : decode cX12_way 6 = .ok (.aload_n 0, 1) := by decide +kernel
theorem dX12_way_7 : decode cX12_way 7 = .ok (.getfield 47, 3) := by decide +kernel
theorem dX12_way_10 : decode cX12_way 10 = .ok (.ifCond .le 5, 3) := by decide +kernel
theorem dX12_way_13 : decode cX12_way 13 = .ok (.iconst 0, 1) := by decide +kernel
theorem dX12_way_14 : decode cX12_way 14 = .ok (.ireturn, 1) := by decide +kernel
theorem dX12_way_15 : decode cX12_way 15 = .ok (.aload_n 0, 1) := by decide +kernel
theorem dX12_way_16 : decode cX12_way 16 = .ok (.invokevirtual 315, 3) := by decide +kernel
theorem dX12_way_19 : decode cX12_way 19 = .ok (.aload_n 0, 1) := by decide +kernel
theorem dX12_way_20 : decode cX12_way 20 = .ok (.iload_n 1, 1) := by decide +kernel
theorem dX12_way_21 : decode cX12_way 21 = .ok (.iload_n 2, 1) := by decide +kernel
theorem dX12_way_22 : decode cX12_way 22 = .ok (.invokevirtual 58, 3) := by decide +kernel
theorem dX12_way_25 : decode cX12_way 25 = .ok (.istore 4, 2) := by decide +kernel
theorem dX12_way_27 : decode cX12_way 27 = .ok (.aload_n 0, 1) := by decide +kernel
theorem dX12_way_28 : decode cX12_way 28 = .ok (.iload_n 1, 1) := by decide +kernel
theorem dX12_way_29 : decode cX12_way 29 = .ok (.iload_n 2, 1) := by decide +kernel
theorem dX12_way_30 : decode cX12_way 30 = .ok (.iload_n 3, 1) := by decide +kernel
theorem dX12_way_31 : decode cX12_way 31 = .ok (.ifCond .eq 7, 3) := by decide +kernel
theorem dX12_way_34 : decode cX12_way 34 = .ok (.iconst 1, 1) := by decide +kernel
theorem dX12_way_35 : decode cX12_way 35 = .ok (.goto 4, 3) := by decide +kernel
theorem dX12_way_38 : decode cX12_way 38 = .ok (.iconst 0, 1) := by decide +kernel
theorem dX12_way_39 : decode cX12_way 39 = .ok (.invokevirtual 116, 3) := by decide +kernel
theorem dX12_way_42 : decode cX12_way 42 = .ok (.iload 4, 2) := by decide +kernel
theorem dX12_way_44 : decode cX12_way 44 = .ok (.iload_n 3, 1) := by decide +kernel
theorem dX12_way_45 : decode cX12_way 45 = .ok (.if_icmp .eq 7, 3) := by decide +kernel
theorem dX12_way_48 : decode cX12_way 48 = .ok (.iconst 1, 1) := by decide +kernel
theorem dX12_way_49 : decode cX12_way 49 = .ok (.goto 4, 3) := by decide +kernel
theorem dX12_way_52 : decode cX12_way 52 = .ok (.iconst 0, 1) := by decide +kernel
theorem dX12_way_53 : decode cX12_way 53 = .ok (.ireturn, 1) := by decide +kernel
theorem dX12_far_0 : decode cX12_far 0 = .ok (.aload_n 0, 1) := by decide +kernel
theorem dX12_far_1 : decode cX12_far 1 = .ok (.aload_n 0, 1) := by decide +kernel
theorem dX12_far_2 : decode cX12_far 2 = .ok (.iload_n 1, 1) := by decide +kernel
theorem dX12_far_3 : decode cX12_far 3 = .ok (.invokevirtual 286, 3) := by decide +kernel
theorem dX12_far_6 : decode cX12_far 6 = .ok (.ifCond .eq 11, 3) := by decide +kernel
theorem dX12_far_9 : decode cX12_far 9 = .ok (.aload_n 0, 1) := by decide +kernel
theorem dX12_far_10 : decode cX12_far 10 = .ok (.iload_n 2, 1) := by decide +kernel
theorem dX12_far_11 : decode cX12_far 11 = .ok (.invokevirtual 286, 3) := by decide +kernel
theorem dX12_far_14 : decode cX12_far 14 = .ok (.ifCond .ne 7, 3) := by decide +kernel
theorem dX12_far_17 : decode cX12_far 17 = .ok (.iconst 1, 1) := by decide +kernel
theorem dX12_far_18 : decode cX12_far 18 = .ok (.goto 4, 3) := by decide +kernel
theorem dX12_far_21 : decode cX12_far 21 = .ok (.iconst 0, 1) := by decide +kernel
theorem dX12_far_22 : decode cX12_far 22 = .ok (.putfield 47, 3) := by decide +kernel
theorem dX12_far_25 : decode cX12_far 25 = .ok (.aload_n 0, 1) := by decide +kernel
theorem dX12_far_26 : decode cX12_far 26 = .ok (.getfield 47, 3) := by decide +kernel
theorem dX12_far_29 : decode cX12_far 29 = .ok (.ifCond .le 7, 3) := by decide +kernel
theorem dX12_far_32 : decode cX12_far 32 = .ok (.iconst 0, 1) := by decide +kernel
theorem dX12_far_33 : decode cX12_far 33 = .ok (.goto 9, 3) := by decide +kernel
theorem dX12_far_36 : decode cX12_far 36 = .ok (.aload_n 0, 1) := by decide +kernel
theorem dX12_far_37 : decode cX12_far 37 = .ok (.iload_n 1, 1) := by decide +kernel
theorem dX12_far_38 : decode cX12_far 38 = .ok (.iload_n 2, 1) := by decide +kernel
theorem dX12_far_39 : decode cX12_far 39 = .ok (.invokevirtual 259, 3) := by decide +kernel
theorem dX12_far_42 : decode cX12_far 42 = .ok (.ireturn, 1) := by decide +kernel
theorem dX12_out_0 : decode cX12_out 0 = .ok (.aload_n 0, 1) := by decide +kernel
theorem dX12_out_1 : decode cX12_out 1 = .ok (.iconst 0, 1) := by decide +kernel
theorem dX12_out_2 : decode cX12_out 2 = .ok (.putfield 47, 3) := by decide +kernel
theorem dX12_out_5 : decode cX12_out 5 = .ok (.aload_n 0, 1) := by decide +kernel
theorem dX12_out_6 : decode cX12_out 6 = .ok (.invokevirtual 175, 3) := by decide +kernel
theorem dX12_out_9 : decode cX12_out 9 = .ok (.iconst (-1), 1) := by decide +kernel
theorem dX12_out_10 : decode cX12_out 10 = .ok (.istore_n 1, 1) := by decide +kernel
theorem dX12_out_11 : decode cX12_out 11 = .ok (.iconst 0, 1) := by decide +kernel
theorem dX12_out_12 : decode cX12_out 12 = .ok (.istore_n 2, 1) := by decide +kernel
theorem dX12_out_13 : decode cX12_out 13 = .ok (.iload_n 2, 1) := by decide +kernel
theorem dX12_out_14 : decode cX12_out 14 = .ok (.bipush 60, 2) := by decide +kernel
theorem dX12_out_16 : decode cX12_out 16 = .ok (.if_icmp .gt 29, 3) := by decide +kernel
theorem dX12_out_19 : decode cX12_out 19 = .ok (.iload_n 1, 1) := by decide +kernel
theorem dX12_out_20 : decode cX12_out 20 = .ok (.iconst (-1), 1) := by decide +kernel
theorem dX12_out_21 : decode cX12_out 21 = .ok (.if_icmp .ne 24, 3) := by decide +kernel
theorem dX12_out_24 : decode cX12_out 24 = .ok (.aload_n 0, 1) := by decide +kernel
theorem dX12_out_25 : decode cX12_out 25 = .ok (.invokevirtual 324, 3) := by decide +kernel
theorem dX12_out_28 : decode cX12_out 28 = .ok (.ifCond .ne 5, 3) := by decide +kernel
theorem dX12_out_31 : decode cX12_out 31 = .ok (.iload_n 2, 1) := by decide +kernel
theorem dX12_out_32 : decode cX12_out 32 = .ok (.istore_n 1, 1) := by decide +kernel
theorem dX12_out_33 : decode cX12_out 33 = .ok (.aload_n 0, 1) := by decide +kernel
theorem dX12_out_34 : decode cX12_out 34 = .ok (.iconst 0, 1) := by decide +kernel
theorem dX12_out_35 : decode cX12_out 35 = .ok (.invokevirtual 283, 3) := by decide +kernel
theorem dX12_out_38 : decode cX12_out 38 = .ok (.istore_n 3, 1) := by decide +kernel
theorem dX12_out_39 : decode cX12_out 39 = .ok (.iinc 2 1, 3) := by decide +kernel
theorem dX12_out_42 : decode cX12_out 42 = .ok (.goto (-29), 3) := by decide +kernel
theorem dX12_out_45 : decode cX12_out 45 = .ok (.aload_n 0, 1) := by decide +kernel
theorem dX12_out_46 : decode cX12_out 46 = .ok (.invokevirtual 185, 3) := by decide +kernel
theorem dX12_out_49 : decode cX12_out 49 = .ok (.iload_n 1, 1) := by decide +kernel
theorem dX12_out_50 : decode cX12_out 50 = .ok (.ireturn, 1) := by decide +kernel
theorem dX12_spoon_0 : decode cX12_spoon 0 = .ok (.aload_n 0, 1) := by decide +kernel
theorem dX12_spoon_1 : decode cX12_spoon 1 = .ok (.iconst 0, 1) := by decide +kernel
theorem dX12_spoon_2 : decode cX12_spoon 2 = .ok (.putfield 47, 3) := by decide +kernel
theorem dX12_spoon_5 : decode cX12_spoon 5 = .ok (.aload_n 0, 1) := by decide +kernel
theorem dX12_spoon_6 : decode cX12_spoon 6 = .ok (.invokevirtual 175, 3) := by decide +kernel
theorem dX12_spoon_9 : decode cX12_spoon 9 = .ok (.iconst (-1), 1) := by decide +kernel
theorem dX12_spoon_10 : decode cX12_spoon 10 = .ok (.istore_n 1, 1) := by decide +kernel
theorem dX12_spoon_11 : decode cX12_spoon 11 = .ok (.iconst 0, 1) := by decide +kernel
theorem dX12_spoon_12 : decode cX12_spoon 12 = .ok (.istore_n 2, 1) := by decide +kernel
theorem dX12_spoon_13 : decode cX12_spoon 13 = .ok (.iload_n 2, 1) := by decide +kernel
theorem dX12_spoon_14 : decode cX12_spoon 14 = .ok (.bipush 60, 2) := by decide +kernel
theorem dX12_spoon_16 : decode cX12_spoon 16 = .ok (.if_icmp .gt 61, 3) := by decide +kernel
theorem dX12_spoon_19 : decode cX12_spoon 19 = .ok (.iload_n 1, 1) := by decide +kernel
theorem dX12_spoon_20 : decode cX12_spoon 20 = .ok (.iconst (-1), 1) := by decide +kernel
theorem dX12_spoon_21 : decode cX12_spoon 21 = .ok (.if_icmp .ne 56, 3) := by decide +kernel
theorem dX12_spoon_24 : decode cX12_spoon 24 = .ok (.aload_n 0, 1) := by decide +kernel
theorem dX12_spoon_25 : decode cX12_spoon 25 = .ok (.getfield 7, 3) := by decide +kernel
theorem dX12_spoon_28 : decode cX12_spoon 28 = .ok (.iconst 3, 1) := by decide +kernel
theorem dX12_spoon_29 : decode cX12_spoon 29 = .ok (.iaload, 1) := by decide +kernel
theorem dX12_spoon_30 : decode cX12_spoon 30 = .ok (.iconst 1, 1) := by decide +kernel
theorem dX12_spoon_31 : decode cX12_spoon 31 = .ok (.isub, 1) := by decide +kernel
theorem dX12_spoon_32 : decode cX12_spoon 32 = .ok (.istore_n 3, 1) := by decide +kernel
theorem dX12_spoon_33 : decode cX12_spoon 33 = .ok (.iload_n 3, 1) := by decide +kernel
theorem dX12_spoon_34 : decode cX12_spoon 34 = .ok (.ifCond .lt 31, 3) := by decide +kernel
theorem dX12_spoon_37 : decode cX12_spoon 37 = .ok (.aload_n 0, 1) := by decide +kernel
theorem dX12_spoon_38 : decode cX12_spoon 38 = .ok (.iload_n 3, 1) := by decide +kernel
theorem dX12_spoon_39 : decode cX12_spoon 39 = .ok (.iconst 2, 1) := by decide +kernel
theorem dX12_spoon_40 : decode cX12_spoon 40 = .ok (.invokevirtual 128, 3) := by decide +kernel
theorem dX12_spoon_43 : decode cX12_spoon 43 = .ok (.iconst (-1), 1) := by decide +kernel
theorem dX12_spoon_44 : decode cX12_spoon 44 = .ok (.if_icmp .eq 15, 3) := by decide +kernel
theorem dX12_spoon_47 : decode cX12_spoon 47 = .ok (.aload_n 0, 1) := by decide +kernel
theorem dX12_spoon_48 : decode cX12_spoon 48 = .ok (.iload_n 3, 1) := by decide +kernel
theorem dX12_spoon_49 : decode cX12_spoon 49 = .ok (.iconst 3, 1) := by decide +kernel
theorem dX12_spoon_50 : decode cX12_spoon 50 = .ok (.invokevirtual 128, 3) := by decide +kernel
theorem dX12_spoon_53 : decode cX12_spoon 53 = .ok (.iconst 3, 1) := by decide +kernel
theorem dX12_spoon_54 : decode cX12_spoon 54 = .ok (.if_icmp .lt 5, 3) := by decide +kernel
theorem dX12_spoon_57 : decode cX12_spoon 57 = .ok (.iload_n 3, 1) := by decide +kernel
theorem dX12_spoon_58 : decode cX12_spoon 58 = .ok (.istore_n 1, 1) := by decide +kernel
theorem dX12_spoon_59 : decode cX12_spoon 59 = .ok (.iinc 3 (-1), 3) := by decide +kernel
theorem dX12_spoon_62 : decode cX12_spoon 62 = .ok (.goto (-29), 3) := by decide +kernel
theorem dX12_spoon_65 : decode cX12_spoon 65 = .ok (.aload_n 0, 1) := by decide +kernel
theorem dX12_spoon_66 : decode cX12_spoon 66 = .ok (.iconst 0, 1) := by decide +kernel
theorem dX12_spoon_67 : decode cX12_spoon 67 = .ok (.invokevirtual 283, 3) := by decide +kernel
theorem dX12_spoon_70 : decode cX12_spoon 70 = .ok (.istore_n 3, 1) := by decide +kernel
theorem dX12_spoon_71 : decode cX12_spoon 71 = .ok (.iinc 2 1, 3) := by decide +kernel
theorem dX12_spoon_74 : decode cX12_spoon 74 = .ok (.goto (-61), 3) := by decide +kernel
theorem dX12_spoon_77 : decode cX12_spoon 77 = .ok (.aload_n 0, 1) := by decide +kernel
theorem dX12_spoon_78 : decode cX12_spoon 78 = .ok (.invokevirtual 185, 3) := by decide +kernel
theorem dX12_spoon_81 : decode cX12_spoon 81 = .ok (.iload_n 1, 1) := by decide +kernel
theorem dX12_spoon_82 : decode cX12_spoon 82 = .ok (.ireturn, 1) := by decide +kernel
theorem dX12_never_0 : decode cX12_never 0 = .ok (.aload_n 0, 1) := by decide +kernel
theorem dX12_never_1 : decode cX12_never 1 = .ok (.iconst 0, 1) := by decide +kernel
theorem dX12_never_2 : decode cX12_never 2 = .ok (.putfield 47, 3) := by decide +kernel
theorem dX12_never_5 : decode cX12_never 5 = .ok (.iconst 0, 1) := by decide +kernel
theorem dX12_never_6 : decode cX12_never 6 = .ok (.istore_n 1, 1) := by decide +kernel
theorem dX12_never_7 : decode cX12_never 7 = .ok (.iconst 0, 1) := by decide +kernel
theorem dX12_never_8 : decode cX12_never 8 = .ok (.istore_n 2, 1) := by decide +kernel
theorem dX12_never_9 : decode cX12_never 9 = .ok (.iload_n 2, 1) := by decide +kernel
theorem dX12_never_10 : decode cX12_never 10 = .ok (.aload_n 0, 1) := by decide +kernel
theorem dX12_never_11 : decode cX12_never 11 = .ok (.getfield 7, 3) := by decide +kernel
theorem dX12_never_14 : decode cX12_never 14 = .ok (.iconst 3, 1) := by decide +kernel
theorem dX12_never_15 : decode cX12_never 15 = .ok (.iaload, 1) := by decide +kernel
theorem dX12_never_16 : decode cX12_never 16 = .ok (.if_icmp .ge 37, 3) := by decide +kernel
theorem dX12_never_19 : decode cX12_never 19 = .ok (.iload_n 1, 1) := by decide +kernel
theorem dX12_never_20 : decode cX12_never 20 = .ok (.aload_n 0, 1) := by decide +kernel
theorem dX12_never_21 : decode cX12_never 21 = .ok (.iload_n 2, 1) := by decide +kernel
theorem dX12_never_22 : decode cX12_never 22 = .ok (.iconst 1, 1) := by decide +kernel
theorem dX12_never_23 : decode cX12_never 23 = .ok (.invokevirtual 128, 3) := by decide +kernel
theorem dX12_never_26 : decode cX12_never 26 = .ok (.ifCond .ne 18, 3) := by decide +kernel
theorem dX12_never_29 : decode cX12_never 29 = .ok (.aload_n 0, 1) := by decide +kernel
theorem dX12_never_30 : decode cX12_never 30 = .ok (.iload_n 2, 1) := by decide +kernel
theorem dX12_never_31 : decode cX12_never 31 = .ok (.iconst 0, 1) := by decide +kernel
theorem dX12_never_32 : decode cX12_never 32 = .ok (.invokevirtual 289, 3) := by decide +kernel
theorem dX12_never_35 : decode cX12_never 35 = .ok (.ifCond .ne 9, 3) := by decide +kernel
theorem dX12_never_38 : decode cX12_never 38 = .ok (.iconst 1, 1) := by decide +kernel
theorem dX12_never_39 : decode cX12_never 39 = .ok (.iload_n 2, 1) := by decide +kernel
theorem dX12_never_40 : decode cX12_never 40 = .ok (.ishl, 1) := by decide +kernel
theorem dX12_never_41 : decode cX12_never 41 = .ok (.goto 4, 3) := by decide +kernel
theorem dX12_never_44 : decode cX12_never 44 = .ok (.iconst 0, 1) := by decide +kernel
theorem dX12_never_45 : decode cX12_never 45 = .ok (.ior, 1) := by decide +kernel
theorem dX12_never_46 : decode cX12_never 46 = .ok (.istore_n 1, 1) := by decide +kernel
theorem dX12_never_47 : decode cX12_never 47 = .ok (.iinc 2 1, 3) := by decide +kernel
theorem dX12_never_50 : decode cX12_never 50 = .ok (.goto (-41), 3) := by decide +kernel
theorem dX12_never_53 : decode cX12_never 53 = .ok (.iload_n 1, 1) := by decide +kernel
theorem dX12_never_54 : decode cX12_never 54 = .ok (.ireturn, 1) := by decide +kernel
theorem dX12_arePanesTold_0 : decode cX12_arePanesTold 0 = .ok (.iload_n 1, 1) := by decide +kernel
theorem dX12_arePanesTold_1 : decode cX12_arePanesTold 1 = .ok (.bipush 8, 2) := by decide +kernel
theorem dX12_arePanesTold_3 : decode cX12_arePanesTold 3 = .ok (.if_icmp .gt 7, 3) := by decide +kernel
theorem dX12_arePanesTold_6 : decode cX12_arePanesTold 6 = .ok (.iconst 1, 1) := by decide +kernel
theorem dX12_arePanesTold_7 : decode cX12_arePanesTold 7 = .ok (.goto 4, 3) := by decide +kernel
theorem dX12_arePanesTold_10 : decode cX12_arePanesTold 10 = .ok (.iconst 0, 1) := by decide +kernel
theorem dX12_arePanesTold_11 : decode cX12_arePanesTold 11 = .ok (.istore_n 2, 1) := by decide +kernel
theorem dX12_arePanesTold_12 : decode cX12_arePanesTold 12 = .ok (.iconst 0, 1) := by decide +kernel
theorem dX12_arePanesTold_13 : decode cX12_arePanesTold 13 = .ok (.istore_n 3, 1) := by decide +kernel
theorem dX12_arePanesTold_14 : decode cX12_arePanesTold 14 = .ok (.iconst 0, 1) := by decide +kernel
theorem dX12_arePanesTold_15 : decode cX12_arePanesTold 15 = .ok (.istore 4, 2) := by decide +kernel
theorem dX12_arePanesTold_17 : decode cX12_arePanesTold 17 = .ok (.iload 4, 2) := by decide +kernel
theorem dX12_arePanesTold_19 : decode cX12_arePanesTold 19 = .ok (.iload_n 1, 1) := by decide +kernel
theorem dX12_arePanesTold_20 : decode cX12_arePanesTold 20 = .ok (.if_icmp .ge 69, 3) := by decide +kernel
theorem dX12_arePanesTold_23 : decode cX12_arePanesTold 23 = .ok (.iload_n 2, 1) := by decide +kernel
theorem dX12_arePanesTold_24 : decode cX12_arePanesTold 24 = .ok (.ifCond .eq 65, 3) := by decide +kernel
theorem dX12_arePanesTold_27 : decode cX12_arePanesTold 27 = .ok (.aload_n 0, 1) := by decide +kernel
theorem dX12_arePanesTold_28 : decode cX12_arePanesTold 28 = .ok (.getfield 22, 3) := by decide +kernel
theorem dX12_arePanesTold_31 : decode cX12_arePanesTold 31 = .ok (.iload 4, 2) := by decide +kernel
theorem dX12_arePanesTold_33 : decode cX12_arePanesTold 33 = .ok (.iaload, 1) := by decide +kernel
theorem dX12_arePanesTold_34 : decode cX12_arePanesTold 34 = .ok (.aload_n 0, 1) := by decide +kernel
theorem dX12_arePanesTold_35 : decode cX12_arePanesTold 35 = .ok (.getfield 7, 3) := by decide +kernel
theorem dX12_arePanesTold_38 : decode cX12_arePanesTold 38 = .ok (.iconst 3, 1) := by decide +kernel
theorem dX12_arePanesTold_39 : decode cX12_arePanesTold 39 = .ok (.iaload, 1) := by decide +kernel
theorem dX12_arePanesTold_40 : decode cX12_arePanesTold 40 = .ok (.if_icmp .ge 21, 3) := by decide +kernel
theorem dX12_arePanesTold_43 : decode cX12_arePanesTold 43 = .ok (.iload_n 3, 1) := by decide +kernel
theorem dX12_arePanesTold_44 : decode cX12_arePanesTold 44 = .ok (.aload_n 0, 1) := by decide +kernel
theorem dX12_arePanesTold_45 : decode cX12_arePanesTold 45 = .ok (.getfield 22, 3) := by decide +kernel
theorem dX12_arePanesTold_48 : decode cX12_arePanesTold 48 = .ok (.iload 4, 2) := by decide +kernel
theorem dX12_arePanesTold_50 : decode cX12_arePanesTold 50 = .ok (.iaload, 1) := by decide +kernel
theorem dX12_arePanesTold_51 : decode cX12_arePanesTold 51 = .ok (.invokestatic 54, 3) := by decide +kernel
theorem dX12_arePanesTold_54 : decode cX12_arePanesTold 54 = .ok (.ifCond .ne 7, 3) := by decide +kernel
theorem dX12_arePanesTold_57 : decode cX12_arePanesTold 57 = .ok (.iconst 1, 1) := by decide +kernel
theorem dX12_arePanesTold_58 : decode cX12_arePanesTold 58 = .ok (.goto 4, 3) := by decide +kernel
theorem dX12_arePanesTold_61 : decode cX12_arePanesTold 61 = .ok (.iconst 0, 1) := by decide +kernel
theorem dX12_arePanesTold_62 : decode cX12_arePanesTold 62 = .ok (.istore_n 2, 1) := by decide +kernel
theorem dX12_arePanesTold_63 : decode cX12_arePanesTold 63 = .ok (.iload_n 3, 1) := by decide +kernel
theorem dX12_arePanesTold_64 : decode cX12_arePanesTold 64 = .ok (.iload_n 2, 1) := by decide +kernel
theorem dX12_arePanesTold_65 : decode cX12_arePanesTold 65 = .ok (.ifCond .eq 15, 3) := by decide +kernel
theorem dX12_arePanesTold_68 : decode cX12_arePanesTold 68 = .ok (.iconst 1, 1) := by decide +kernel
theorem dX12_arePanesTold_69 : decode cX12_arePanesTold 69 = .ok (.aload_n 0, 1) := by decide +kernel
theorem dX12_arePanesTold_70 : decode cX12_arePanesTold 70 = .ok (.getfield 22, 3) := by decide +kernel
theorem dX12_arePanesTold_73 : decode cX12_arePanesTold 73 = .ok (.iload 4, 2) := by decide +kernel
theorem dX12_arePanesTold_75 : decode cX12_arePanesTold 75 = .ok (.iaload, 1) := by decide +kernel
theorem dX12_arePanesTold_76 : decode cX12_arePanesTold 76 = .ok (.ishl, 1) := by decide +kernel
theorem dX12_arePanesTold_77 : decode cX12_arePanesTold 77 = .ok (.goto 4, 3) := by decide +kernel
theorem dX12_arePanesTold_80 : decode cX12_arePanesTold 80 = .ok (.iconst 0, 1) := by decide +kernel
theorem dX12_arePanesTold_81 : decode cX12_arePanesTold 81 = .ok (.ior, 1) := by decide +kernel
theorem dX12_arePanesTold_82 : decode cX12_arePanesTold 82 = .ok (.istore_n 3, 1) := by decide +kernel
theorem dX12_arePanesTold_83 : decode cX12_arePanesTold 83 = .ok (.iinc 4 1, 3) := by decide +kernel
theorem dX12_arePanesTold_86 : decode cX12_arePanesTold 86 = .ok (.goto (-69), 3) := by decide +kernel
theorem dX12_arePanesTold_89 : decode cX12_arePanesTold 89 = .ok (.iload_n 2, 1) := by decide +kernel
theorem dX12_arePanesTold_90 : decode cX12_arePanesTold 90 = .ok (.ireturn, 1) := by decide +kernel
theorem dX12_roadsOf_0 : decode cX12_roadsOf 0 = .ok (.iconst 1, 1) := by decide +kernel
theorem dX12_roadsOf_1 : decode cX12_roadsOf 1 = .ok (.iload_n 1, 1) := by decide +kernel
theorem dX12_roadsOf_2 : decode cX12_roadsOf 2 = .ok (.ishl, 1) := by decide +kernel
theorem dX12_roadsOf_3 : decode cX12_roadsOf 3 = .ok (.iconst 1, 1) := by decide +kernel
theorem dX12_roadsOf_4 : decode cX12_roadsOf 4 = .ok (.isub, 1) := by decide +kernel
theorem dX12_roadsOf_5 : decode cX12_roadsOf 5 = .ok (.istore_n 2, 1) := by decide +kernel
theorem dX12_roadsOf_6 : decode cX12_roadsOf 6 = .ok (.iload_n 2, 1) := by decide +kernel
theorem dX12_roadsOf_7 : decode cX12_roadsOf 7 = .ok (.ifCond .le 102, 3) := by decide +kernel
theorem dX12_roadsOf_10 : decode cX12_roadsOf 10 = .ok (.iconst 0, 1) := by decide +kernel
theorem dX12_roadsOf_11 : decode cX12_roadsOf 11 = .ok (.istore_n 3, 1) := by decide +kernel
theorem dX12_roadsOf_12 : decode cX12_roadsOf 12 = .ok (.iload_n 3, 1) := by decide +kernel
theorem dX12_roadsOf_13 : decode cX12_roadsOf 13 = .ok (.iload_n 1, 1) := by decide +kernel
theorem dX12_roadsOf_14 : decode cX12_roadsOf 14 = .ok (.if_icmp .ge 89, 3) := by decide +kernel
theorem dX12_roadsOf_17 : decode cX12_roadsOf 17 = .ok (.iload_n 2, 1) := by decide +kernel
theorem dX12_roadsOf_18 : decode cX12_roadsOf 18 = .ok (.iconst 1, 1) := by decide +kernel
theorem dX12_roadsOf_19 : decode cX12_roadsOf 19 = .ok (.iload_n 1, 1) := by decide +kernel
theorem dX12_roadsOf_20 : decode cX12_roadsOf 20 = .ok (.ishl, 1) := by decide +kernel
theorem dX12_roadsOf_21 : decode cX12_roadsOf 21 = .ok (.iconst 1, 1) := by decide +kernel
theorem dX12_roadsOf_22 : decode cX12_roadsOf 22 = .ok (.isub, 1) := by decide +kernel
theorem dX12_roadsOf_23 : decode cX12_roadsOf 23 = .ok (.if_icmp .ne 7, 3) := by decide +kernel
theorem dX12_roadsOf_26 : decode cX12_roadsOf 26 = .ok (.iconst 0, 1) := by decide +kernel
theorem dX12_roadsOf_27 : decode cX12_roadsOf 27 = .ok (.goto 6, 3) := by decide +kernel
theorem dX12_roadsOf_30 : decode cX12_roadsOf 30 = .ok (.ldc_w 327, 3) := by decide +kernel
theorem dX12_roadsOf_33 : decode cX12_roadsOf 33 = .ok (.istore 4, 2) := by decide +kernel
theorem dX12_roadsOf_35 : decode cX12_roadsOf 35 = .ok (.iconst 0, 1) := by decide +kernel
theorem dX12_roadsOf_36 : decode cX12_roadsOf 36 = .ok (.istore 5, 2) := by decide +kernel
theorem dX12_roadsOf_38 : decode cX12_roadsOf 38 = .ok (.iload 5, 2) := by decide +kernel
theorem dX12_roadsOf_40 : decode cX12_roadsOf 40 = .ok (.iload_n 1, 1) := by decide +kernel
theorem dX12_roadsOf_41 : decode cX12_roadsOf 41 = .ok (.if_icmp .ge 43, 3) := by decide +kernel
theorem dX12_roadsOf_44 : decode cX12_roadsOf 44 = .ok (.iload_n 2, 1) := by decide +kernel
theorem dX12_roadsOf_45 : decode cX12_roadsOf 45 = .ok (.iload 5, 2) := by decide +kernel
theorem dX12_roadsOf_47 : decode cX12_roadsOf 47 = .ok (.invokestatic 54, 3) := by decide +kernel
theorem dX12_roadsOf_50 : decode cX12_roadsOf 50 = .ok (.ifCond .ne 28, 3) := by decide +kernel
theorem dX12_roadsOf_53 : decode cX12_roadsOf 53 = .ok (.iload 4, 2) := by decide +kernel
theorem dX12_roadsOf_55 : decode cX12_roadsOf 55 = .ok (.aload_n 0, 1) := by decide +kernel
theorem dX12_roadsOf_56 : decode cX12_roadsOf 56 = .ok (.aload_n 0, 1) := by decide +kernel
theorem dX12_roadsOf_57 : decode cX12_roadsOf 57 = .ok (.getfield 22, 3) := by decide +kernel
theorem dX12_roadsOf_60 : decode cX12_roadsOf 60 = .ok (.iload_n 3, 1) := by decide +kernel
theorem dX12_roadsOf_61 : decode cX12_roadsOf 61 = .ok (.iaload, 1) := by decide +kernel
theorem dX12_roadsOf_62 : decode cX12_roadsOf 62 = .ok (.iload 5, 2) := by decide +kernel
theorem dX12_roadsOf_64 : decode cX12_roadsOf 64 = .ok (.iload_n 2, 1) := by decide +kernel
theorem dX12_roadsOf_65 : decode cX12_roadsOf 65 = .ok (.iconst 1, 1) := by decide +kernel
theorem dX12_roadsOf_66 : decode cX12_roadsOf 66 = .ok (.iload 5, 2) := by decide +kernel
theorem dX12_roadsOf_68 : decode cX12_roadsOf 68 = .ok (.ishl, 1) := by decide +kernel
theorem dX12_roadsOf_69 : decode cX12_roadsOf 69 = .ok (.ior, 1) := by decide +kernel
theorem dX12_roadsOf_70 : decode cX12_roadsOf 70 = .ok (.invokevirtual 328, 3) := by decide +kernel
theorem dX12_roadsOf_73 : decode cX12_roadsOf 73 = .ok (.invokestatic 256, 3) := by decide +kernel
theorem dX12_roadsOf_76 : decode cX12_roadsOf 76 = .ok (.istore 4, 2) := by decide +kernel
theorem dX12_roadsOf_78 : decode cX12_roadsOf 78 = .ok (.iinc 5 1, 3) := by decide +kernel
theorem dX12_roadsOf_81 : decode cX12_roadsOf 81 = .ok (.goto (-43), 3) := by decide +kernel
theorem dX12_roadsOf_84 : decode cX12_roadsOf 84 = .ok (.aload_n 0, 1) := by decide +kernel
theorem dX12_roadsOf_85 : decode cX12_roadsOf 85 = .ok (.getfield 35, 3) := by decide +kernel
theorem dX12_roadsOf_88 : decode cX12_roadsOf 88 = .ok (.bipush 9, 2) := by decide +kernel
theorem dX12_roadsOf_90 : decode cX12_roadsOf 90 = .ok (.iload_n 2, 1) := by decide +kernel
theorem dX12_roadsOf_91 : decode cX12_roadsOf 91 = .ok (.imul, 1) := by decide +kernel
theorem dX12_roadsOf_92 : decode cX12_roadsOf 92 = .ok (.iload_n 3, 1) := by decide +kernel
theorem dX12_roadsOf_93 : decode cX12_roadsOf 93 = .ok (.iadd, 1) := by decide +kernel
theorem dX12_roadsOf_94 : decode cX12_roadsOf 94 = .ok (.iload 4, 2) := by decide +kernel
theorem dX12_roadsOf_96 : decode cX12_roadsOf 96 = .ok (.iastore, 1) := by decide +kernel
theorem dX12_roadsOf_97 : decode cX12_roadsOf 97 = .ok (.iinc 3 1, 3) := by decide +kernel
theorem dX12_roadsOf_100 : decode cX12_roadsOf 100 = .ok (.goto (-88), 3) := by decide +kernel
theorem dX12_roadsOf_103 : decode cX12_roadsOf 103 = .ok (.iinc 2 (-1), 3) := by decide +kernel
theorem dX12_roadsOf_106 : decode cX12_roadsOf 106 = .ok (.goto (-100), 3) := by decide +kernel
theorem dX12_roadsOf_109 : decode cX12_roadsOf 109 = .ok (.return_, 1) := by decide +kernel
theorem dX12_goesBy_0 : decode cX12_goesBy 0 = .ok (.aload_n 0, 1) := by decide +kernel
theorem dX12_goesBy_1 : decode cX12_goesBy 1 = .ok (.getfield 32, 3) := by decide +kernel
theorem dX12_goesBy_4 : decode cX12_goesBy 4 = .ok (.bipush 9, 2) := by decide +kernel
theorem dX12_goesBy_6 : decode cX12_goesBy 6 = .ok (.iload_n 1, 1) := by decide +kernel
theorem dX12_goesBy_7 : decode cX12_goesBy 7 = .ok (.imul, 1) := by decide +kernel
theorem dX12_goesBy_8 : decode cX12_goesBy 8 = .ok (.aload_n 0, 1) := by decide +kernel
theorem dX12_goesBy_9 : decode cX12_goesBy 9 = .ok (.getfield 22, 3) := by decide +kernel
theorem dX12_goesBy_12 : decode cX12_goesBy 12 = .ok (.iload_n 2, 1) := by decide +kernel
theorem dX12_goesBy_13 : decode cX12_goesBy 13 = .ok (.iaload, 1) := by decide +kernel
theorem dX12_goesBy_14 : decode cX12_goesBy 14 = .ok (.iadd, 1) := by decide +kernel
theorem dX12_goesBy_15 : decode cX12_goesBy 15 = .ok (.iaload, 1) := by decide +kernel
theorem dX12_goesBy_16 : decode cX12_goesBy 16 = .ok (.istore 4, 2) := by decide +kernel
theorem dX12_goesBy_18 : decode cX12_goesBy 18 = .ok (.aload_n 0, 1) := by decide +kernel
theorem dX12_goesBy_19 : decode cX12_goesBy 19 = .ok (.getfield 35, 3) := by decide +kernel
theorem dX12_goesBy_22 : decode cX12_goesBy 22 = .ok (.bipush 9, 2) := by decide +kernel
theorem dX12_goesBy_24 : decode cX12_goesBy 24 = .ok (.iload_n 3, 1) := by decide +kernel
theorem dX12_goesBy_25 : decode cX12_goesBy 25 = .ok (.imul, 1) := by decide +kernel
theorem dX12_goesBy_26 : decode cX12_goesBy 26 = .ok (.iload_n 2, 1) := by decide +kernel
theorem dX12_goesBy_27 : decode cX12_goesBy 27 = .ok (.iadd, 1) := by decide +kernel
theorem dX12_goesBy_28 : decode cX12_goesBy 28 = .ok (.iaload, 1) := by decide +kernel
theorem dX12_goesBy_29 : decode cX12_goesBy 29 = .ok (.istore 5, 2) := by decide +kernel
theorem dX12_goesBy_31 : decode cX12_goesBy 31 = .ok (.iload 4, 2) := by decide +kernel
theorem dX12_goesBy_33 : decode cX12_goesBy 33 = .ok (.iconst (-1), 1) := by decide +kernel
theorem dX12_goesBy_34 : decode cX12_goesBy 34 = .ok (.if_icmp .eq 11, 3) := by decide +kernel
theorem dX12_goesBy_37 : decode cX12_goesBy 37 = .ok (.iload 5, 2) := by decide +kernel
theorem dX12_goesBy_39 : decode cX12_goesBy 39 = .ok (.ldc_w 327, 3) := by decide +kernel
theorem dX12_goesBy_42 : decode cX12_goesBy 42 = .ok (.if_icmp .ne 9, 3) := by decide +kernel
theorem dX12_goesBy_45 : decode cX12_goesBy 45 = .ok (.ldc_w 327, 3) := by decide +kernel
theorem dX12_goesBy_48 : decode cX12_goesBy 48 = .ok (.goto 8, 3) := by decide +kernel
theorem dX12_goesBy_51 : decode cX12_goesBy 51 = .ok (.iload 4, 2) := by decide +kernel
theorem dX12_goesBy_53 : decode cX12_goesBy 53 = .ok (.iload 5, 2) := by decide +kernel
theorem dX12_goesBy_55 : decode cX12_goesBy 55 = .ok (.iadd, 1) := by decide +kernel
theorem dX12_goesBy_56 : decode cX12_goesBy 56 = .ok (.ireturn, 1) := by decide +kernel
theorem dX12_round_0 : decode cX12_round 0 = .ok (.aload_n 0, 1) := by decide +kernel
theorem dX12_round_1 : decode cX12_round 1 = .ok (.getfield 65, 3) := by decide +kernel
theorem dX12_round_4 : decode cX12_round 4 = .ok (.istore_n 3, 1) := by decide +kernel
theorem dX12_round_5 : decode cX12_round 5 = .ok (.aload_n 0, 1) := by decide +kernel
theorem dX12_round_6 : decode cX12_round 6 = .ok (.iconst 0, 1) := by decide +kernel
theorem dX12_round_7 : decode cX12_round 7 = .ok (.putfield 65, 3) := by decide +kernel
theorem dX12_round_10 : decode cX12_round 10 = .ok (.aload_n 0, 1) := by decide +kernel
theorem dX12_round_11 : decode cX12_round 11 = .ok (.aload_n 0, 1) := by decide +kernel
theorem dX12_round_12 : decode cX12_round 12 = .ok (.iload_n 1, 1) := by decide +kernel
theorem dX12_round_13 : decode cX12_round 13 = .ok (.invokevirtual 296, 3) := by decide +kernel
theorem dX12_round_16 : decode cX12_round 16 = .ok (.ifCond .ne 7, 3) := by decide +kernel
theorem dX12_round_19 : decode cX12_round 19 = .ok (.iconst 1, 1) := by decide +kernel
theorem dX12_round_20 : decode cX12_round 20 = .ok (.goto 16, 3) := by decide +kernel
theorem dX12_round_23 : decode cX12_round 23 = .ok (.aload_n 0, 1) := by decide +kernel
theorem dX12_round_24 : decode cX12_round 24 = .ok (.iload_n 3, 1) := by decide +kernel
theorem dX12_round_25 : decode cX12_round 25 = .ok (.invokevirtual 332, 3) := by decide +kernel
theorem dX12_round_28 : decode cX12_round 28 = .ok (.ifCond .ne 7, 3) := by decide +kernel
theorem dX12_round_31 : decode cX12_round 31 = .ok (.iconst 2, 1) := by decide +kernel
theorem dX12_round_32 : decode cX12_round 32 = .ok (.goto 4, 3) := by decide +kernel
theorem dX12_round_35 : decode cX12_round 35 = .ok (.iconst 0, 1) := by decide +kernel
theorem dX12_round_36 : decode cX12_round 36 = .ok (.putfield 47, 3) := by decide +kernel
theorem dX12_round_39 : decode cX12_round 39 = .ok (.aload_n 0, 1) := by decide +kernel
theorem dX12_round_40 : decode cX12_round 40 = .ok (.getfield 47, 3) := by decide +kernel
theorem dX12_round_43 : decode cX12_round 43 = .ok (.ifCond .le 5, 3) := by decide +kernel
theorem dX12_round_46 : decode cX12_round 46 = .ok (.iconst 0, 1) := by decide +kernel
theorem dX12_round_47 : decode cX12_round 47 = .ok (.ireturn, 1) := by decide +kernel
theorem dX12_round_48 : decode cX12_round 48 = .ok (.iload_n 3, 1) := by decide +kernel
theorem dX12_round_49 : decode cX12_round 49 = .ok (.ifCond .ne 13, 3) := by decide +kernel
theorem dX12_round_52 : decode cX12_round 52 = .ok (.iload_n 2, 1) := by decide +kernel
theorem dX12_round_53 : decode cX12_round 53 = .ok (.ifCond .eq 7, 3) := by decide +kernel
theorem dX12_round_56 : decode cX12_round 56 = .ok (.iconst (-1), 1) := by decide +kernel
theorem dX12_round_57 : decode cX12_round 57 = .ok (.goto 4, 3) := by decide +kernel
theorem dX12_round_60 : decode cX12_round 60 = .ok (.iconst 0, 1) := by decide +kernel
theorem dX12_round_61 : decode cX12_round 61 = .ok (.ireturn, 1) := by decide +kernel
theorem dX12_round_62 : decode cX12_round 62 = .ok (.iconst 0, 1) := by decide +kernel
theorem dX12_round_63 : decode cX12_round 63 = .ok (.istore 4, 2) := by decide +kernel
theorem dX12_round_65 : decode cX12_round 65 = .ok (.iload 4, 2) := by decide +kernel
theorem dX12_round_67 : decode cX12_round 67 = .ok (.aload_n 0, 1) := by decide +kernel
theorem dX12_round_68 : decode cX12_round 68 = .ok (.getfield 7, 3) := by decide +kernel
theorem dX12_round_71 : decode cX12_round 71 = .ok (.iconst 3, 1) := by decide +kernel
theorem dX12_round_72 : decode cX12_round 72 = .ok (.iaload, 1) := by decide +kernel
theorem dX12_round_73 : decode cX12_round 73 = .ok (.if_icmp .ge 50, 3) := by decide +kernel
theorem dX12_round_76 : decode cX12_round 76 = .ok (.iconst 0, 1) := by decide +kernel
theorem dX12_round_77 : decode cX12_round 77 = .ok (.istore 5, 2) := by decide +kernel
theorem dX12_round_79 : decode cX12_round 79 = .ok (.iload 5, 2) := by decide +kernel
theorem dX12_round_81 : decode cX12_round 81 = .ok (.aload_n 0, 1) := by decide +kernel
theorem dX12_round_82 : decode cX12_round 82 = .ok (.getfield 7, 3) := by decide +kernel
theorem dX12_round_85 : decode cX12_round 85 = .ok (.iconst 3, 1) := by decide +kernel
theorem dX12_round_86 : decode cX12_round 86 = .ok (.iaload, 1) := by decide +kernel
theorem dX12_round_87 : decode cX12_round 87 = .ok (.if_icmp .ge 30, 3) := by decide +kernel
theorem dX12_round_90 : decode cX12_round 90 = .ok (.aload_n 0, 1) := by decide +kernel
theorem dX12_round_91 : decode cX12_round 91 = .ok (.getfield 32, 3) := by decide +kernel
theorem dX12_round_94 : decode cX12_round 94 = .ok (.bipush 9, 2) := by decide +kernel
theorem dX12_round_96 : decode cX12_round 96 = .ok (.iload 4, 2) := by decide +kernel
theorem dX12_round_98 : decode cX12_round 98 = .ok (.imul, 1) := by decide +kernel
theorem dX12_round_99 : decode cX12_round 99 = .ok (.iload 5, 2) := by decide +kernel
theorem dX12_round_101 : decode cX12_round 101 = .ok (.iadd, 1) := by decide +kernel
theorem dX12_round_102 : decode cX12_round 102 = .ok (.aload_n 0, 1) := by decide +kernel
theorem dX12_round_103 : decode cX12_round 103 = .ok (.iload 4, 2) := by decide +kernel
theorem dX12_round_105 : decode cX12_round 105 = .ok (.iload 5, 2) := by decide +kernel
theorem dX12_round_107 : decode cX12_round 107 = .ok (.invokevirtual 259, 3) := by decide +kernel
theorem dX12_round_110 : decode cX12_round 110 = .ok (.iastore, 1) := by decide +kernel
theorem dX12_round_111 : decode cX12_round 111 = .ok (.iinc 5 1, 3) := by decide +kernel
theorem dX12_round_114 : decode cX12_round 114 = .ok (.goto (-35), 3) := by decide +kernel
theorem dX12_round_117 : decode cX12_round 117 = .ok (.iinc 4 1, 3) := by decide +kernel
theorem dX12_round_120 : decode cX12_round 120 = .ok (.goto (-55), 3) := by decide +kernel
theorem dX12_round_123 : decode cX12_round 123 = .ok (.aload_n 0, 1) := by decide +kernel
theorem dX12_round_124 : decode cX12_round 124 = .ok (.iload_n 3, 1) := by decide +kernel
theorem dX12_round_125 : decode cX12_round 125 = .ok (.invokevirtual 335, 3) := by decide +kernel
theorem dX12_round_128 : decode cX12_round 128 = .ok (.ldc_w 327, 3) := by decide +kernel
theorem dX12_round_131 : decode cX12_round 131 = .ok (.istore 4, 2) := by decide +kernel
theorem dX12_round_133 : decode cX12_round 133 = .ok (.bipush 9, 2) := by decide +kernel
theorem dX12_round_135 : decode cX12_round 135 = .ok (.istore 5, 2) := by decide +kernel
theorem dX12_round_137 : decode cX12_round 137 = .ok (.iconst 0, 1) := by decide +kernel
theorem dX12_round_138 : decode cX12_round 138 = .ok (.istore 6, 2) := by decide +kernel
theorem dX12_round_140 : decode cX12_round 140 = .ok (.iload 6, 2) := by decide +kernel
theorem dX12_round_142 : decode cX12_round 142 = .ok (.iload_n 3, 1) := by decide +kernel
theorem dX12_round_143 : decode cX12_round 143 = .ok (.if_icmp .ge 76, 3) := by decide +kernel
theorem dX12_round_146 : decode cX12_round 146 = .ok (.aload_n 0, 1) := by decide +kernel
theorem dX12_round_147 : decode cX12_round 147 = .ok (.aload_n 0, 1) := by decide +kernel
theorem dX12_round_148 : decode cX12_round 148 = .ok (.iload_n 1, 1) := by decide +kernel
theorem dX12_round_149 : decode cX12_round 149 = .ok (.iconst 0, 1) := by decide +kernel
theorem dX12_round_150 : decode cX12_round 150 = .ok (.invokevirtual 243, 3) := by decide +kernel
theorem dX12_round_153 : decode cX12_round 153 = .ok (.iload 6, 2) := by decide +kernel
theorem dX12_round_155 : decode cX12_round 155 = .ok (.iconst 1, 1) := by decide +kernel
theorem dX12_round_156 : decode cX12_round 156 = .ok (.iload 6, 2) := by decide +kernel
theorem dX12_round_158 : decode cX12_round 158 = .ok (.ishl, 1) := by decide +kernel
theorem dX12_round_159 : decode cX12_round 159 = .ok (.invokevirtual 328, 3) := by decide +kernel
theorem dX12_round_162 : decode cX12_round 162 = .ok (.istore 7, 2) := by decide +kernel
theorem dX12_round_164 : decode cX12_round 164 = .ok (.iload 7, 2) := by decide +kernel
theorem dX12_round_166 : decode cX12_round 166 = .ok (.iload 4, 2) := by decide +kernel
theorem dX12_round_168 : decode cX12_round 168 = .ok (.if_icmp .ge 7, 3) := by decide +kernel
theorem dX12_round_171 : decode cX12_round 171 = .ok (.bipush 9, 2) := by decide +kernel
theorem dX12_round_173 : decode cX12_round 173 = .ok (.istore 5, 2) := by decide +kernel
theorem dX12_round_175 : decode cX12_round 175 = .ok (.iload 7, 2) := by decide +kernel
theorem dX12_round_177 : decode cX12_round 177 = .ok (.iload 4, 2) := by decide +kernel
theorem dX12_round_179 : decode cX12_round 179 = .ok (.if_icmp .gt 25, 3) := by decide +kernel
theorem dX12_round_182 : decode cX12_round 182 = .ok (.iload 7, 2) := by decide +kernel
theorem dX12_round_184 : decode cX12_round 184 = .ok (.ldc_w 327, 3) := by decide +kernel
theorem dX12_round_187 : decode cX12_round 187 = .ok (.if_icmp .ge 17, 3) := by decide +kernel
theorem dX12_round_190 : decode cX12_round 190 = .ok (.iload 5, 2) := by decide +kernel
theorem dX12_round_192 : decode cX12_round 192 = .ok (.aload_n 0, 1) := by decide +kernel
theorem dX12_round_193 : decode cX12_round 193 = .ok (.getfield 22, 3) := by decide +kernel
theorem dX12_round_196 : decode cX12_round 196 = .ok (.iload 6, 2) := by decide +kernel
theorem dX12_round_198 : decode cX12_round 198 = .ok (.iaload, 1) := by decide +kernel
theorem dX12_round_199 : decode cX12_round 199 = .ok (.invokestatic 256, 3) := by decide +kernel
theorem dX12_round_202 : decode cX12_round 202 = .ok (.istore 5, 2) := by decide +kernel
theorem dX12_round_204 : decode cX12_round 204 = .ok (.iload 4, 2) := by decide +kernel
theorem dX12_round_206 : decode cX12_round 206 = .ok (.iload 7, 2) := by decide +kernel
theorem dX12_round_208 : decode cX12_round 208 = .ok (.invokestatic 256, 3) := by decide +kernel
theorem dX12_round_211 : decode cX12_round 211 = .ok (.istore 4, 2) := by decide +kernel
theorem dX12_round_213 : decode cX12_round 213 = .ok (.iinc 6 1, 3) := by decide +kernel
theorem dX12_round_216 : decode cX12_round 216 = .ok (.goto (-76), 3) := by decide +kernel
theorem dX12_round_219 : decode cX12_round 219 = .ok (.iload 4, 2) := by decide +kernel
theorem dX12_round_221 : decode cX12_round 221 = .ok (.ldc_w 327, 3) := by decide +kernel
theorem dX12_round_224 : decode cX12_round 224 = .ok (.if_icmp .ne 7, 3) := by decide +kernel
theorem dX12_round_227 : decode cX12_round 227 = .ok (.iconst (-1), 1) := by decide +kernel
theorem dX12_round_228 : decode cX12_round 228 = .ok (.goto 14, 3) := by decide +kernel
theorem dX12_round_231 : decode cX12_round 231 = .ok (.iload_n 2, 1) := by decide +kernel
theorem dX12_round_232 : decode cX12_round 232 = .ok (.ifCond .eq 8, 3) := by decide +kernel
theorem dX12_round_235 : decode cX12_round 235 = .ok (.iload 5, 2) := by decide +kernel
theorem dX12_round_237 : decode cX12_round 237 = .ok (.goto 5, 3) := by decide +kernel
theorem dX12_round_240 : decode cX12_round 240 = .ok (.iload 4, 2) := by decide +kernel
theorem dX12_round_242 : decode cX12_round 242 = .ok (.ireturn, 1) := by decide +kernel
theorem dX12_beats_0 : decode cX12_beats 0 = .ok (.aload_n 0, 1) := by decide +kernel
theorem dX12_beats_1 : decode cX12_beats 1 = .ok (.iconst 0, 1) := by decide +kernel
theorem dX12_beats_2 : decode cX12_beats 2 = .ok (.putfield 47, 3) := by decide +kernel
theorem dX12_beats_5 : decode cX12_beats 5 = .ok (.iconst (-1), 1) := by decide +kernel
theorem dX12_beats_6 : decode cX12_beats 6 = .ok (.istore_n 1, 1) := by decide +kernel
theorem dX12_beats_7 : decode cX12_beats 7 = .ok (.iconst 0, 1) := by decide +kernel
theorem dX12_beats_8 : decode cX12_beats 8 = .ok (.istore_n 2, 1) := by decide +kernel
theorem dX12_beats_9 : decode cX12_beats 9 = .ok (.iload_n 2, 1) := by decide +kernel
theorem dX12_beats_10 : decode cX12_beats 10 = .ok (.aload_n 0, 1) := by decide +kernel
theorem dX12_beats_11 : decode cX12_beats 11 = .ok (.invokevirtual 338, 3) := by decide +kernel
theorem dX12_beats_14 : decode cX12_beats 14 = .ok (.if_icmp .gt 41, 3) := by decide +kernel
theorem dX12_beats_17 : decode cX12_beats 17 = .ok (.iload_n 1, 1) := by decide +kernel
theorem dX12_beats_18 : decode cX12_beats 18 = .ok (.iconst (-1), 1) := by decide +kernel
theorem dX12_beats_19 : decode cX12_beats 19 = .ok (.if_icmp .eq 14, 3) := by decide +kernel
theorem dX12_beats_22 : decode cX12_beats 22 = .ok (.iload_n 2, 1) := by decide +kernel
theorem dX12_beats_23 : decode cX12_beats 23 = .ok (.invokestatic 341, 3) := by decide +kernel
theorem dX12_beats_26 : decode cX12_beats 26 = .ok (.iload_n 1, 1) := by decide +kernel
theorem dX12_beats_27 : decode cX12_beats 27 = .ok (.invokestatic 341, 3) := by decide +kernel
theorem dX12_beats_30 : decode cX12_beats 30 = .ok (.if_icmp .ge 19, 3) := by decide +kernel
theorem dX12_beats_33 : decode cX12_beats 33 = .ok (.iload_n 2, 1) := by decide +kernel
theorem dX12_beats_34 : decode cX12_beats 34 = .ok (.aload_n 0, 1) := by decide +kernel
theorem dX12_beats_35 : decode cX12_beats 35 = .ok (.iload_n 2, 1) := by decide +kernel
theorem dX12_beats_36 : decode cX12_beats 36 = .ok (.invokevirtual 61, 3) := by decide +kernel
theorem dX12_beats_39 : decode cX12_beats 39 = .ok (.ior, 1) := by decide +kernel
theorem dX12_beats_40 : decode cX12_beats 40 = .ok (.aload_n 0, 1) := by decide +kernel
theorem dX12_beats_41 : decode cX12_beats 41 = .ok (.invokevirtual 338, 3) := by decide +kernel
theorem dX12_beats_44 : decode cX12_beats 44 = .ok (.if_icmp .ne 5, 3) := by decide +kernel
theorem dX12_beats_47 : decode cX12_beats 47 = .ok (.iload_n 2, 1) := by decide +kernel
theorem dX12_beats_48 : decode cX12_beats 48 = .ok (.istore_n 1, 1) := by decide +kernel
theorem dX12_beats_49 : decode cX12_beats 49 = .ok (.iinc 2 1, 3) := by decide +kernel
theorem dX12_beats_52 : decode cX12_beats 52 = .ok (.goto (-43), 3) := by decide +kernel
theorem dX12_beats_55 : decode cX12_beats 55 = .ok (.iload_n 1, 1) := by decide +kernel
theorem dX12_beats_56 : decode cX12_beats 56 = .ok (.ireturn, 1) := by decide +kernel
theorem dX12_pieceOf_0 : decode cX12_pieceOf 0 = .ok (.iconst 1, 1) := by decide +kernel
theorem dX12_pieceOf_1 : decode cX12_pieceOf 1 = .ok (.iload_n 1, 1) := by decide +kernel
theorem dX12_pieceOf_2 : decode cX12_pieceOf 2 = .ok (.ishl, 1) := by decide +kernel
theorem dX12_pieceOf_3 : decode cX12_pieceOf 3 = .ok (.istore_n 3, 1) := by decide +kernel
theorem dX12_pieceOf_4 : decode cX12_pieceOf 4 = .ok (.iconst 0, 1) := by decide +kernel
theorem dX12_pieceOf_5 : decode cX12_pieceOf 5 = .ok (.istore 4, 2) := by decide +kernel
theorem dX12_pieceOf_7 : decode cX12_pieceOf 7 = .ok (.iload 4, 2) := by decide +kernel
theorem dX12_pieceOf_9 : decode cX12_pieceOf 9 = .ok (.bipush 9, 2) := by decide +kernel
theorem dX12_pieceOf_11 : decode cX12_pieceOf 11 = .ok (.if_icmp .ge 36, 3) := by decide +kernel
theorem dX12_pieceOf_14 : decode cX12_pieceOf 14 = .ok (.iload_n 3, 1) := by decide +kernel
theorem dX12_pieceOf_15 : decode cX12_pieceOf 15 = .ok (.iload_n 2, 1) := by decide +kernel
theorem dX12_pieceOf_16 : decode cX12_pieceOf 16 = .ok (.iconst (-1), 1) := by decide +kernel
theorem dX12_pieceOf_17 : decode cX12_pieceOf 17 = .ok (.if_icmp .ne 11, 3) := by decide +kernel
theorem dX12_pieceOf_20 : decode cX12_pieceOf 20 = .ok (.aload_n 0, 1) := by decide +kernel
theorem dX12_pieceOf_21 : decode cX12_pieceOf 21 = .ok (.iload_n 3, 1) := by decide +kernel
theorem dX12_pieceOf_22 : decode cX12_pieceOf 22 = .ok (.invokevirtual 61, 3) := by decide +kernel
theorem dX12_pieceOf_25 : decode cX12_pieceOf 25 = .ok (.goto 14, 3) := by decide +kernel
theorem dX12_pieceOf_28 : decode cX12_pieceOf 28 = .ok (.aload_n 0, 1) := by decide +kernel
theorem dX12_pieceOf_29 : decode cX12_pieceOf 29 = .ok (.iload_n 3, 1) := by decide +kernel
theorem dX12_pieceOf_30 : decode cX12_pieceOf 30 = .ok (.invokevirtual 61, 3) := by decide +kernel
theorem dX12_pieceOf_33 : decode cX12_pieceOf 33 = .ok (.iconst 1, 1) := by decide +kernel
theorem dX12_pieceOf_34 : decode cX12_pieceOf 34 = .ok (.iload_n 2, 1) := by decide +kernel
theorem dX12_pieceOf_35 : decode cX12_pieceOf 35 = .ok (.ishl, 1) := by decide +kernel
theorem dX12_pieceOf_36 : decode cX12_pieceOf 36 = .ok (.iconst (-1), 1) := by decide +kernel
theorem dX12_pieceOf_37 : decode cX12_pieceOf 37 = .ok (.ixor, 1) := by decide +kernel
theorem dX12_pieceOf_38 : decode cX12_pieceOf 38 = .ok (.iand, 1) := by decide +kernel
theorem dX12_pieceOf_39 : decode cX12_pieceOf 39 = .ok (.ior, 1) := by decide +kernel
theorem dX12_pieceOf_40 : decode cX12_pieceOf 40 = .ok (.istore_n 3, 1) := by decide +kernel
theorem dX12_pieceOf_41 : decode cX12_pieceOf 41 = .ok (.iinc 4 1, 3) := by decide +kernel
theorem dX12_pieceOf_44 : decode cX12_pieceOf 44 = .ok (.goto (-37), 3) := by decide +kernel
theorem dX12_pieceOf_47 : decode cX12_pieceOf 47 = .ok (.iload_n 3, 1) := by decide +kernel
theorem dX12_pieceOf_48 : decode cX12_pieceOf 48 = .ok (.ireturn, 1) := by decide +kernel
theorem dX12_parts_0 : decode cX12_parts 0 = .ok (.aload_n 0, 1) := by decide +kernel
theorem dX12_parts_1 : decode cX12_parts 1 = .ok (.iconst 0, 1) := by decide +kernel
theorem dX12_parts_2 : decode cX12_parts 2 = .ok (.putfield 47, 3) := by decide +kernel
theorem dX12_parts_5 : decode cX12_parts 5 = .ok (.aload_n 0, 1) := by decide +kernel
theorem dX12_parts_6 : decode cX12_parts 6 = .ok (.invokevirtual 338, 3) := by decide +kernel
theorem dX12_parts_9 : decode cX12_parts 9 = .ok (.istore_n 1, 1) := by decide +kernel
theorem dX12_parts_10 : decode cX12_parts 10 = .ok (.iconst 0, 1) := by decide +kernel
theorem dX12_parts_11 : decode cX12_parts 11 = .ok (.istore_n 2, 1) := by decide +kernel
theorem dX12_parts_12 : decode cX12_parts 12 = .ok (.iconst 0, 1) := by decide +kernel
theorem dX12_parts_13 : decode cX12_parts 13 = .ok (.istore_n 3, 1) := by decide +kernel
theorem dX12_parts_14 : decode cX12_parts 14 = .ok (.iload_n 3, 1) := by decide +kernel
theorem dX12_parts_15 : decode cX12_parts 15 = .ok (.aload_n 0, 1) := by decide +kernel
theorem dX12_parts_16 : decode cX12_parts 16 = .ok (.getfield 7, 3) := by decide +kernel
theorem dX12_parts_19 : decode cX12_parts 19 = .ok (.iconst 3, 1) := by decide +kernel
theorem dX12_parts_20 : decode cX12_parts 20 = .ok (.iaload, 1) := by decide +kernel
theorem dX12_parts_21 : decode cX12_parts 21 = .ok (.if_icmp .ge 34, 3) := by decide +kernel
theorem dX12_parts_24 : decode cX12_parts 24 = .ok (.iload_n 1, 1) := by decide +kernel
theorem dX12_parts_25 : decode cX12_parts 25 = .ok (.iload_n 3, 1) := by decide +kernel
theorem dX12_parts_26 : decode cX12_parts 26 = .ok (.invokestatic 54, 3) := by decide +kernel
theorem dX12_parts_29 : decode cX12_parts 29 = .ok (.ifCond .ne 6, 3) := by decide +kernel
theorem dX12_parts_32 : decode cX12_parts 32 = .ok (.goto 17, 3) := by decide +kernel
theorem dX12_parts_35 : decode cX12_parts 35 = .ok (.iload_n 1, 1) := by decide +kernel
theorem dX12_parts_36 : decode cX12_parts 36 = .ok (.aload_n 0, 1) := by decide +kernel
theorem dX12_parts_37 : decode cX12_parts 37 = .ok (.iload_n 3, 1) := by decide +kernel
theorem dX12_parts_38 : decode cX12_parts 38 = .ok (.iconst (-1), 1) := by decide +kernel
theorem dX12_parts_39 : decode cX12_parts 39 = .ok (.invokevirtual 344, 3) := by decide +kernel
theorem dX12_parts_42 : decode cX12_parts 42 = .ok (.iconst (-1), 1) := by decide +kernel
theorem dX12_parts_43 : decode cX12_parts 43 = .ok (.ixor, 1) := by decide +kernel
theorem dX12_parts_44 : decode cX12_parts 44 = .ok (.iand, 1) := by decide +kernel
theorem dX12_parts_45 : decode cX12_parts 45 = .ok (.istore_n 1, 1) := by decide +kernel
theorem dX12_parts_46 : decode cX12_parts 46 = .ok (.iinc 2 1, 3) := by decide +kernel
theorem dX12_parts_49 : decode cX12_parts 49 = .ok (.iinc 3 1, 3) := by decide +kernel
theorem dX12_parts_52 : decode cX12_parts 52 = .ok (.goto (-38), 3) := by decide +kernel
theorem dX12_parts_55 : decode cX12_parts 55 = .ok (.iload_n 2, 1) := by decide +kernel
theorem dX12_parts_56 : decode cX12_parts 56 = .ok (.ireturn, 1) := by decide +kernel
theorem dX12_bend_0 : decode cX12_bend 0 = .ok (.aload_n 0, 1) := by decide +kernel
theorem dX12_bend_1 : decode cX12_bend 1 = .ok (.iconst 0, 1) := by decide +kernel
theorem dX12_bend_2 : decode cX12_bend 2 = .ok (.putfield 47, 3) := by decide +kernel
theorem dX12_bend_5 : decode cX12_bend 5 = .ok (.iconst 0, 1) := by decide +kernel
theorem dX12_bend_6 : decode cX12_bend 6 = .ok (.istore_n 1, 1) := by decide +kernel
theorem dX12_bend_7 : decode cX12_bend 7 = .ok (.iconst 0, 1) := by decide +kernel
theorem dX12_bend_8 : decode cX12_bend 8 = .ok (.istore_n 2, 1) := by decide +kernel
theorem dX12_bend_9 : decode cX12_bend 9 = .ok (.iload_n 2, 1) := by decide +kernel
theorem dX12_bend_10 : decode cX12_bend 10 = .ok (.aload_n 0, 1) := by decide +kernel
theorem dX12_bend_11 : decode cX12_bend 11 = .ok (.getfield 7, 3) := by decide +kernel
theorem dX12_bend_14 : decode cX12_bend 14 = .ok (.iconst 3, 1) := by decide +kernel
theorem dX12_bend_15 : decode cX12_bend 15 = .ok (.iaload, 1) := by decide +kernel
theorem dX12_bend_16 : decode cX12_bend 16 = .ok (.if_icmp .ge 59, 3) := by decide +kernel
theorem dX12_bend_19 : decode cX12_bend 19 = .ok (.iconst 0, 1) := by decide +kernel
theorem dX12_bend_20 : decode cX12_bend 20 = .ok (.istore_n 3, 1) := by decide +kernel
theorem dX12_bend_21 : decode cX12_bend 21 = .ok (.iload_n 3, 1) := by decide +kernel
theorem dX12_bend_22 : decode cX12_bend 22 = .ok (.aload_n 0, 1) := by decide +kernel
theorem dX12_bend_23 : decode cX12_bend 23 = .ok (.getfield 7, 3) := by decide +kernel
theorem dX12_bend_26 : decode cX12_bend 26 = .ok (.iconst 3, 1) := by decide +kernel
theorem dX12_bend_27 : decode cX12_bend 27 = .ok (.iaload, 1) := by decide +kernel
theorem dX12_bend_28 : decode cX12_bend 28 = .ok (.if_icmp .ge 41, 3) := by decide +kernel
theorem dX12_bend_31 : decode cX12_bend 31 = .ok (.iload_n 3, 1) := by decide +kernel
theorem dX12_bend_32 : decode cX12_bend 32 = .ok (.iload_n 2, 1) := by decide +kernel
theorem dX12_bend_33 : decode cX12_bend 33 = .ok (.if_icmp .eq 30, 3) := by decide +kernel
theorem dX12_bend_36 : decode cX12_bend 36 = .ok (.aload_n 0, 1) := by decide +kernel
theorem dX12_bend_37 : decode cX12_bend 37 = .ok (.iload_n 3, 1) := by decide +kernel
theorem dX12_bend_38 : decode cX12_bend 38 = .ok (.iconst (-1), 1) := by decide +kernel
theorem dX12_bend_39 : decode cX12_bend 39 = .ok (.invokevirtual 344, 3) := by decide +kernel
theorem dX12_bend_42 : decode cX12_bend 42 = .ok (.iconst 1, 1) := by decide +kernel
theorem dX12_bend_43 : decode cX12_bend 43 = .ok (.iload_n 2, 1) := by decide +kernel
theorem dX12_bend_44 : decode cX12_bend 44 = .ok (.ishl, 1) := by decide +kernel
theorem dX12_bend_45 : decode cX12_bend 45 = .ok (.iconst (-1), 1) := by decide +kernel
theorem dX12_bend_46 : decode cX12_bend 46 = .ok (.ixor, 1) := by decide +kernel
theorem dX12_bend_47 : decode cX12_bend 47 = .ok (.iand, 1) := by decide +kernel
theorem dX12_bend_48 : decode cX12_bend 48 = .ok (.aload_n 0, 1) := by decide +kernel
theorem dX12_bend_49 : decode cX12_bend 49 = .ok (.iload_n 3, 1) := by decide +kernel
theorem dX12_bend_50 : decode cX12_bend 50 = .ok (.iload_n 2, 1) := by decide +kernel
theorem dX12_bend_51 : decode cX12_bend 51 = .ok (.invokevirtual 344, 3) := by decide +kernel
theorem dX12_bend_54 : decode cX12_bend 54 = .ok (.if_icmp .eq 9, 3) := by decide +kernel
theorem dX12_bend_57 : decode cX12_bend 57 = .ok (.iload_n 1, 1) := by decide +kernel
theorem dX12_bend_58 : decode cX12_bend 58 = .ok (.iconst 1, 1) := by decide +kernel
theorem dX12_bend_59 : decode cX12_bend 59 = .ok (.iload_n 2, 1) := by decide +kernel
theorem dX12_bend_60 : decode cX12_bend 60 = .ok (.ishl, 1) := by decide +kernel
theorem dX12_bend_61 : decode cX12_bend 61 = .ok (.ior, 1) := by decide +kernel
theorem dX12_bend_62 : decode cX12_bend 62 = .ok (.istore_n 1, 1) := by decide +kernel
theorem dX12_bend_63 : decode cX12_bend 63 = .ok (.iinc 3 1, 3) := by decide +kernel
theorem dX12_bend_66 : decode cX12_bend 66 = .ok (.goto (-45), 3) := by decide +kernel
theorem dX12_bend_69 : decode cX12_bend 69 = .ok (.iinc 2 1, 3) := by decide +kernel
theorem dX12_bend_72 : decode cX12_bend 72 = .ok (.goto (-63), 3) := by decide +kernel
theorem dX12_bend_75 : decode cX12_bend 75 = .ok (.iload_n 1, 1) := by decide +kernel
theorem dX12_bend_76 : decode cX12_bend 76 = .ok (.ireturn, 1) := by decide +kernel
theorem dX12_findsWalk_0 : decode cX12_findsWalk 0 = .ok (.iconst 0, 1) := by decide +kernel
theorem dX12_findsWalk_1 : decode cX12_findsWalk 1 = .ok (.istore_n 3, 1) := by decide +kernel
theorem dX12_findsWalk_2 : decode cX12_findsWalk 2 = .ok (.iload_n 3, 1) := by decide +kernel
theorem dX12_findsWalk_3 : decode cX12_findsWalk 3 = .ok (.bipush 9, 2) := by decide +kernel
theorem dX12_findsWalk_5 : decode cX12_findsWalk 5 = .ok (.if_icmp .ge 16, 3) := by decide +kernel
theorem dX12_findsWalk_8 : decode cX12_findsWalk 8 = .ok (.aload_n 0, 1) := by decide +kernel
theorem dX12_findsWalk_9 : decode cX12_findsWalk 9 = .ok (.getfield 44, 3) := by decide +kernel
theorem dX12_findsWalk_12 : decode cX12_findsWalk 12 = .ok (.iload_n 3, 1) := by decide +kernel
theorem dX12_findsWalk_13 : decode cX12_findsWalk 13 = .ok (.iconst (-1), 1) := by decide +kernel
theorem dX12_findsWalk_14 : decode cX12_findsWalk 14 = .ok (.iastore, 1) := by decide +kernel
theorem dX12_findsWalk_15 : decode cX12_findsWalk 15 = .ok (.iinc 3 1, 3) := by decide +kernel
theorem dX12_findsWalk_18 : decode cX12_findsWalk 18 = .ok (.goto (-16), 3) := by decide +kernel
theorem dX12_findsWalk_21 : decode cX12_findsWalk 21 = .ok (.aload_n 0, 1) := by decide +kernel
theorem dX12_findsWalk_22 : decode cX12_findsWalk 22 = .ok (.getfield 44, 3) := by decide +kernel
theorem dX12_findsWalk_25 : decode cX12_findsWalk 25 = .ok (.iload_n 1, 1) := by decide +kernel
theorem dX12_findsWalk_26 : decode cX12_findsWalk 26 = .ok (.iload_n 1, 1) := by decide +kernel
theorem dX12_findsWalk_27 : decode cX12_findsWalk 27 = .ok (.iastore, 1) := by decide +kernel
theorem dX12_findsWalk_28 : decode cX12_findsWalk 28 = .ok (.iconst 1, 1) := by decide +kernel
theorem dX12_findsWalk_29 : decode cX12_findsWalk 29 = .ok (.istore_n 3, 1) := by decide +kernel
theorem dX12_findsWalk_30 : decode cX12_findsWalk 30 = .ok (.iload_n 3, 1) := by decide +kernel
theorem dX12_findsWalk_31 : decode cX12_findsWalk 31 = .ok (.ifCond .eq 121, 3) := by decide +kernel
theorem dX12_findsWalk_34 : decode cX12_findsWalk 34 = .ok (.aload_n 0, 1) := by decide +kernel
theorem dX12_findsWalk_35 : decode cX12_findsWalk 35 = .ok (.getfield 44, 3) := by decide +kernel
theorem dX12_findsWalk_38 : decode cX12_findsWalk 38 = .ok (.iload_n 2, 1) := by decide +kernel
theorem dX12_findsWalk_39 : decode cX12_findsWalk 39 = .ok (.iaload, 1) := by decide +kernel
theorem dX12_findsWalk_40 : decode cX12_findsWalk 40 = .ok (.iconst (-1), 1) := by decide +kernel
theorem dX12_findsWalk_41 : decode cX12_findsWalk 41 = .ok (.if_icmp .ne 111, 3) := by decide +kernel
theorem dX12_findsWalk_44 : decode cX12_findsWalk 44 = .ok (.iconst 0, 1) := by decide +kernel
theorem dX12_findsWalk_45 : decode cX12_findsWalk 45 = .ok (.istore_n 3, 1) := by decide +kernel
theorem dX12_findsWalk_46 : decode cX12_findsWalk 46 = .ok (.iconst 0, 1) := by decide +kernel
theorem dX12_findsWalk_47 : decode cX12_findsWalk 47 = .ok (.istore 4, 2) := by decide +kernel
theorem dX12_findsWalk_49 : decode cX12_findsWalk 49 = .ok (.iload 4, 2) := by decide +kernel
theorem dX12_findsWalk_51 : decode cX12_findsWalk 51 = .ok (.aload_n 0, 1) := by decide +kernel
theorem dX12_findsWalk_52 : decode cX12_findsWalk 52 = .ok (.getfield 7, 3) := by decide +kernel
theorem dX12_findsWalk_55 : decode cX12_findsWalk 55 = .ok (.iconst 3, 1) := by decide +kernel
theorem dX12_findsWalk_56 : decode cX12_findsWalk 56 = .ok (.iaload, 1) := by decide +kernel
theorem dX12_findsWalk_57 : decode cX12_findsWalk 57 = .ok (.if_icmp .ge 92, 3) := by decide +kernel
theorem dX12_findsWalk_60 : decode cX12_findsWalk 60 = .ok (.iconst 0, 1) := by decide +kernel
theorem dX12_findsWalk_61 : decode cX12_findsWalk 61 = .ok (.istore 5, 2) := by decide +kernel
theorem dX12_findsWalk_63 : decode cX12_findsWalk 63 = .ok (.iload 5, 2) := by decide +kernel
theorem dX12_findsWalk_65 : decode cX12_findsWalk 65 = .ok (.aload_n 0, 1) := by decide +kernel
theorem dX12_findsWalk_66 : decode cX12_findsWalk 66 = .ok (.getfield 7, 3) := by decide +kernel
theorem dX12_findsWalk_69 : decode cX12_findsWalk 69 = .ok (.iconst 3, 1) := by decide +kernel
theorem dX12_findsWalk_70 : decode cX12_findsWalk 70 = .ok (.iaload, 1) := by decide +kernel
theorem dX12_findsWalk_71 : decode cX12_findsWalk 71 = .ok (.if_icmp .ge 72, 3) := by decide +kernel
theorem dX12_findsWalk_74 : decode cX12_findsWalk 74 = .ok (.aload_n 0, 1) := by decide +kernel
theorem dX12_findsWalk_75 : decode cX12_findsWalk 75 = .ok (.getfield 44, 3) := by decide +kernel
theorem dX12_findsWalk_78 : decode cX12_findsWalk 78 = .ok (.iload 4, 2) := by decide +kernel
theorem dX12_findsWalk_80 : decode cX12_findsWalk 80 = .ok (.iaload, 1) := by decide +kernel
theorem dX12_findsWalk_81 : decode cX12_findsWalk 81 = .ok (.iconst (-1), 1) := by decide +kernel
theorem dX12_findsWalk_82 : decode cX12_findsWalk 82 = .ok (.if_icmp .eq 55, 3) := by decide +kernel
theorem dX12_findsWalk_85 : decode cX12_findsWalk 85 = .ok (.aload_n 0, 1) := by decide +kernel
theorem dX12_findsWalk_86 : decode cX12_findsWalk 86 = .ok (.getfield 44, 3) := by decide +kernel
theorem dX12_findsWalk_89 : decode cX12_findsWalk 89 = .ok (.iload 5, 2) := by decide +kernel
theorem dX12_findsWalk_91 : decode cX12_findsWalk 91 = .ok (.iaload, 1) := by decide +kernel
theorem dX12_findsWalk_92 : decode cX12_findsWalk 92 = .ok (.iconst (-1), 1) := by decide +kernel
theorem dX12_findsWalk_93 : decode cX12_findsWalk 93 = .ok (.if_icmp .ne 44, 3) := by decide +kernel
theorem dX12_findsWalk_96 : decode cX12_findsWalk 96 = .ok (.aload_n 0, 1) := by decide +kernel
theorem dX12_findsWalk_97 : decode cX12_findsWalk 97 = .ok (.iload 4, 2) := by decide +kernel
theorem dX12_findsWalk_99 : decode cX12_findsWalk 99 = .ok (.iload 5, 2) := by decide +kernel
theorem dX12_findsWalk_101 : decode cX12_findsWalk 101 = .ok (.invokevirtual 58, 3) := by decide +kernel
theorem dX12_findsWalk_104 : decode cX12_findsWalk 104 = .ok (.ifCond .eq 33, 3) := by decide +kernel
theorem dX12_findsWalk_107 : decode cX12_findsWalk 107 = .ok (.aload_n 0, 1) := by decide +kernel
theorem dX12_findsWalk_108 : decode cX12_findsWalk 108 = .ok (.getfield 41, 3) := by decide +kernel
theorem dX12_findsWalk_111 : decode cX12_findsWalk 111 = .ok (.bipush 9, 2) := by decide +kernel
theorem dX12_findsWalk_113 : decode cX12_findsWalk 113 = .ok (.iload 4, 2) := by decide +kernel
theorem dX12_findsWalk_115 : decode cX12_findsWalk 115 = .ok (.imul, 1) := by decide +kernel
theorem dX12_findsWalk_116 : decode cX12_findsWalk 116 = .ok (.iload 5, 2) := by decide +kernel
theorem dX12_findsWalk_118 : decode cX12_findsWalk 118 = .ok (.iadd, 1) := by decide +kernel
theorem dX12_findsWalk_119 : decode cX12_findsWalk 119 = .ok (.iaload, 1) := by decide +kernel
theorem dX12_findsWalk_120 : decode cX12_findsWalk 120 = .ok (.ifCond .le 6, 3) := by decide +kernel
theorem dX12_findsWalk_123 : decode cX12_findsWalk 123 = .ok (.goto 14, 3) := by decide +kernel
theorem dX12_findsWalk_126 : decode cX12_findsWalk 126 = .ok (.aload_n 0, 1) := by decide +kernel
theorem dX12_findsWalk_127 : decode cX12_findsWalk 127 = .ok (.getfield 44, 3) := by decide +kernel
theorem dX12_findsWalk_130 : decode cX12_findsWalk 130 = .ok (.iload 5, 2) := by decide +kernel
theorem dX12_findsWalk_132 : decode cX12_findsWalk 132 = .ok (.iload 4, 2) := by decide +kernel
theorem dX12_findsWalk_134 : decode cX12_findsWalk 134 = .ok (.iastore, 1) := by decide +kernel
theorem dX12_findsWalk_135 : decode cX12_findsWalk 135 = .ok (.iconst 1, 1) := by decide +kernel
theorem dX12_findsWalk_136 : decode cX12_findsWalk 136 = .ok (.istore_n 3, 1) := by decide +kernel
theorem dX12_findsWalk_137 : decode cX12_findsWalk 137 = .ok (.iinc 5 1, 3) := by decide +kernel
theorem dX12_findsWalk_140 : decode cX12_findsWalk 140 = .ok (.goto (-77), 3) := by decide +kernel
theorem dX12_findsWalk_143 : decode cX12_findsWalk 143 = .ok (.iinc 4 1, 3) := by decide +kernel
theorem dX12_findsWalk_146 : decode cX12_findsWalk 146 = .ok (.goto (-97), 3) := by decide +kernel
theorem dX12_findsWalk_149 : decode cX12_findsWalk 149 = .ok (.goto (-119), 3) := by decide +kernel
theorem dX12_findsWalk_152 : decode cX12_findsWalk 152 = .ok (.aload_n 0, 1) := by decide +kernel
theorem dX12_findsWalk_153 : decode cX12_findsWalk 153 = .ok (.getfield 44, 3) := by decide +kernel
theorem dX12_findsWalk_156 : decode cX12_findsWalk 156 = .ok (.iload_n 2, 1) := by decide +kernel
theorem dX12_findsWalk_157 : decode cX12_findsWalk 157 = .ok (.iaload, 1) := by decide +kernel
theorem dX12_findsWalk_158 : decode cX12_findsWalk 158 = .ok (.iconst (-1), 1) := by decide +kernel
theorem dX12_findsWalk_159 : decode cX12_findsWalk 159 = .ok (.if_icmp .ne 5, 3) := by decide +kernel
theorem dX12_findsWalk_162 : decode cX12_findsWalk 162 = .ok (.iconst 0, 1) := by decide +kernel
theorem dX12_findsWalk_163 : decode cX12_findsWalk 163 = .ok (.ireturn, 1) := by decide +kernel
theorem dX12_findsWalk_164 : decode cX12_findsWalk 164 = .ok (.iload_n 2, 1) := by decide +kernel
theorem dX12_findsWalk_165 : decode cX12_findsWalk 165 = .ok (.istore 4, 2) := by decide +kernel
theorem dX12_findsWalk_167 : decode cX12_findsWalk 167 = .ok (.iload 4, 2) := by decide +kernel
theorem dX12_findsWalk_169 : decode cX12_findsWalk 169 = .ok (.iload_n 1, 1) := by decide +kernel
theorem dX12_findsWalk_170 : decode cX12_findsWalk 170 = .ok (.if_icmp .eq 59, 3) := by decide +kernel
theorem dX12_findsWalk_173 : decode cX12_findsWalk 173 = .ok (.aload_n 0, 1) := by decide +kernel
theorem dX12_findsWalk_174 : decode cX12_findsWalk 174 = .ok (.getfield 41, 3) := by decide +kernel
theorem dX12_findsWalk_177 : decode cX12_findsWalk 177 = .ok (.bipush 9, 2) := by decide +kernel
theorem dX12_findsWalk_179 : decode cX12_findsWalk 179 = .ok (.aload_n 0, 1) := by decide +kernel
theorem dX12_findsWalk_180 : decode cX12_findsWalk 180 = .ok (.getfield 44, 3) := by decide +kernel
theorem dX12_findsWalk_183 : decode cX12_findsWalk 183 = .ok (.iload 4, 2) := by decide +kernel
theorem dX12_findsWalk_185 : decode cX12_findsWalk 185 = .ok (.iaload, 1) := by decide +kernel
theorem dX12_findsWalk_186 : decode cX12_findsWalk 186 = .ok (.imul, 1) := by decide +kernel
theorem dX12_findsWalk_187 : decode cX12_findsWalk 187 = .ok (.iload 4, 2) := by decide +kernel
theorem dX12_findsWalk_189 : decode cX12_findsWalk 189 = .ok (.iadd, 1) := by decide +kernel
theorem dX12_findsWalk_190 : decode cX12_findsWalk 190 = .ok (.dup2, 1) := by decide +kernel
theorem dX12_findsWalk_191 : decode cX12_findsWalk 191 = .ok (.iaload, 1) := by decide +kernel
theorem dX12_findsWalk_192 : decode cX12_findsWalk 192 = .ok (.iconst 1, 1) := by decide +kernel
theorem dX12_findsWalk_193 : decode cX12_findsWalk 193 = .ok (.iadd, 1) := by decide +kernel
theorem dX12_findsWalk_194 : decode cX12_findsWalk 194 = .ok (.iastore, 1) := by decide +kernel
theorem dX12_findsWalk_195 : decode cX12_findsWalk 195 = .ok (.aload_n 0, 1) := by decide +kernel
theorem dX12_findsWalk_196 : decode cX12_findsWalk 196 = .ok (.getfield 41, 3) := by decide +kernel
theorem dX12_findsWalk_199 : decode cX12_findsWalk 199 = .ok (.bipush 9, 2) := by decide +kernel
theorem dX12_findsWalk_201 : decode cX12_findsWalk 201 = .ok (.iload 4, 2) := by decide +kernel
theorem dX12_findsWalk_203 : decode cX12_findsWalk 203 = .ok (.imul, 1) := by decide +kernel
theorem dX12_findsWalk_204 : decode cX12_findsWalk 204 = .ok (.aload_n 0, 1) := by decide +kernel
theorem dX12_findsWalk_205 : decode cX12_findsWalk 205 = .ok (.getfield 44, 3) := by decide +kernel
theorem dX12_findsWalk_208 : decode cX12_findsWalk 208 = .ok (.iload 4, 2) := by decide +kernel
theorem dX12_findsWalk_210 : decode cX12_findsWalk 210 = .ok (.iaload, 1) := by decide +kernel
theorem dX12_findsWalk_211 : decode cX12_findsWalk 211 = .ok (.iadd, 1) := by decide +kernel
theorem dX12_findsWalk_212 : decode cX12_findsWalk 212 = .ok (.dup2, 1) := by decide +kernel
theorem dX12_findsWalk_213 : decode cX12_findsWalk 213 = .ok (.iaload, 1) := by decide +kernel
theorem dX12_findsWalk_214 : decode cX12_findsWalk 214 = .ok (.iconst 1, 1) := by decide +kernel
theorem dX12_findsWalk_215 : decode cX12_findsWalk 215 = .ok (.isub, 1) := by decide +kernel
theorem dX12_findsWalk_216 : decode cX12_findsWalk 216 = .ok (.iastore, 1) := by decide +kernel
theorem dX12_findsWalk_217 : decode cX12_findsWalk 217 = .ok (.aload_n 0, 1) := by decide +kernel
theorem dX12_findsWalk_218 : decode cX12_findsWalk 218 = .ok (.getfield 44, 3) := by decide +kernel
theorem dX12_findsWalk_221 : decode cX12_findsWalk 221 = .ok (.iload 4, 2) := by decide +kernel
theorem dX12_findsWalk_223 : decode cX12_findsWalk 223 = .ok (.iaload, 1) := by decide +kernel
theorem dX12_findsWalk_224 : decode cX12_findsWalk 224 = .ok (.istore 4, 2) := by decide +kernel
theorem dX12_findsWalk_226 : decode cX12_findsWalk 226 = .ok (.goto (-59), 3) := by decide +kernel
theorem dX12_findsWalk_229 : decode cX12_findsWalk 229 = .ok (.iconst 1, 1) := by decide +kernel
theorem dX12_findsWalk_230 : decode cX12_findsWalk 230 = .ok (.ireturn, 1) := by decide +kernel
theorem dX12_closed_0 : decode cX12_closed 0 = .ok (.aload_n 0, 1) := by decide +kernel
theorem dX12_closed_1 : decode cX12_closed 1 = .ok (.aload_n 0, 1) := by decide +kernel
theorem dX12_closed_2 : decode cX12_closed 2 = .ok (.iload_n 1, 1) := by decide +kernel
theorem dX12_closed_3 : decode cX12_closed 3 = .ok (.invokevirtual 286, 3) := by decide +kernel
theorem dX12_closed_6 : decode cX12_closed 6 = .ok (.ifCond .eq 11, 3) := by decide +kernel
theorem dX12_closed_9 : decode cX12_closed 9 = .ok (.aload_n 0, 1) := by decide +kernel
theorem dX12_closed_10 : decode cX12_closed 10 = .ok (.iload_n 2, 1) := by decide +kernel
theorem dX12_closed_11 : decode cX12_closed 11 = .ok (.invokevirtual 286, 3) := by decide +kernel
theorem dX12_closed_14 : decode cX12_closed 14 = .ok (.ifCond .ne 7, 3) := by decide +kernel
theorem dX12_closed_17 : decode cX12_closed 17 = .ok (.iconst 1, 1) := by decide +kernel
theorem dX12_closed_18 : decode cX12_closed 18 = .ok (.goto 4, 3) := by decide +kernel
theorem dX12_closed_21 : decode cX12_closed 21 = .ok (.iconst 0, 1) := by decide +kernel
theorem dX12_closed_22 : decode cX12_closed 22 = .ok (.putfield 47, 3) := by decide +kernel
theorem dX12_closed_25 : decode cX12_closed 25 = .ok (.aload_n 0, 1) := by decide +kernel
theorem dX12_closed_26 : decode cX12_closed 26 = .ok (.getfield 47, 3) := by decide +kernel
theorem dX12_closed_29 : decode cX12_closed 29 = .ok (.ifCond .le 5, 3) := by decide +kernel
theorem dX12_closed_32 : decode cX12_closed 32 = .ok (.iconst 0, 1) := by decide +kernel
theorem dX12_closed_33 : decode cX12_closed 33 = .ok (.ireturn, 1) := by decide +kernel
theorem dX12_closed_34 : decode cX12_closed 34 = .ok (.iload_n 1, 1) := by decide +kernel
theorem dX12_closed_35 : decode cX12_closed 35 = .ok (.iload_n 2, 1) := by decide +kernel
theorem dX12_closed_36 : decode cX12_closed 36 = .ok (.if_icmp .ne 5, 3) := by decide +kernel
theorem dX12_closed_39 : decode cX12_closed 39 = .ok (.iconst (-1), 1) := by decide +kernel
theorem dX12_closed_40 : decode cX12_closed 40 = .ok (.ireturn, 1) := by decide +kernel
theorem dX12_closed_41 : decode cX12_closed 41 = .ok (.iconst 0, 1) := by decide +kernel
theorem dX12_closed_42 : decode cX12_closed 42 = .ok (.istore_n 3, 1) := by decide +kernel
theorem dX12_closed_43 : decode cX12_closed 43 = .ok (.iload_n 3, 1) := by decide +kernel
theorem dX12_closed_44 : decode cX12_closed 44 = .ok (.bipush 81, 2) := by decide +kernel
theorem dX12_closed_46 : decode cX12_closed 46 = .ok (.if_icmp .ge 16, 3) := by decide +kernel
theorem dX12_closed_49 : decode cX12_closed 49 = .ok (.aload_n 0, 1) := by decide +kernel
theorem dX12_closed_50 : decode cX12_closed 50 = .ok (.getfield 41, 3) := by decide +kernel
theorem dX12_closed_53 : decode cX12_closed 53 = .ok (.iload_n 3, 1) := by decide +kernel
theorem dX12_closed_54 : decode cX12_closed 54 = .ok (.iconst 0, 1) := by decide +kernel
theorem dX12_closed_55 : decode cX12_closed 55 = .ok (.iastore, 1) := by decide +kernel
theorem dX12_closed_56 : decode cX12_closed 56 = .ok (.iinc 3 1, 3) := by decide +kernel
theorem dX12_closed_59 : decode cX12_closed 59 = .ok (.goto (-16), 3) := by decide +kernel
theorem dX12_closed_62 : decode cX12_closed 62 = .ok (.iconst 0, 1) := by decide +kernel
theorem dX12_closed_63 : decode cX12_closed 63 = .ok (.istore_n 3, 1) := by decide +kernel
theorem dX12_closed_64 : decode cX12_closed 64 = .ok (.aload_n 0, 1) := by decide +kernel
theorem dX12_closed_65 : decode cX12_closed 65 = .ok (.iload_n 1, 1) := by decide +kernel
theorem dX12_closed_66 : decode cX12_closed 66 = .ok (.iload_n 2, 1) := by decide +kernel
theorem dX12_closed_67 : decode cX12_closed 67 = .ok (.invokevirtual 347, 3) := by decide +kernel
theorem dX12_closed_70 : decode cX12_closed 70 = .ok (.ifCond .eq 9, 3) := by decide +kernel
theorem dX12_closed_73 : decode cX12_closed 73 = .ok (.iinc 3 1, 3) := by decide +kernel
theorem dX12_closed_76 : decode cX12_closed 76 = .ok (.goto (-12), 3) := by decide +kernel
theorem dX12_closed_79 : decode cX12_closed 79 = .ok (.iload_n 3, 1) := by decide +kernel
theorem dX12_closed_80 : decode cX12_closed 80 = .ok (.ireturn, 1) := by decide +kernel
theorem dX12_madeFor_0 : decode cX12_madeFor 0 = .ok (.iconst (-1), 1) := by decide +kernel
theorem dX12_madeFor_1 : decode cX12_madeFor 1 = .ok (.istore_n 2, 1) := by decide +kernel
theorem dX12_madeFor_2 : decode cX12_madeFor 2 = .ok (.iconst 0, 1) := by decide +kernel
theorem dX12_madeFor_3 : decode cX12_madeFor 3 = .ok (.istore_n 3, 1) := by decide +kernel
theorem dX12_madeFor_4 : decode cX12_madeFor 4 = .ok (.iload_n 3, 1) := by decide +kernel
theorem dX12_madeFor_5 : decode cX12_madeFor 5 = .ok (.bipush 64, 2) := by decide +kernel
theorem dX12_madeFor_7 : decode cX12_madeFor 7 = .ok (.if_icmp .ge 183, 3) := by decide +kernel
theorem dX12_madeFor_10 : decode cX12_madeFor 10 = .ok (.iload_n 3, 1) := by decide +kernel
theorem dX12_madeFor_11 : decode cX12_madeFor 11 = .ok (.iconst 1, 1) := by decide +kernel
theorem dX12_madeFor_12 : decode cX12_madeFor 12 = .ok (.aload_n 0, 1) := by decide +kernel
theorem dX12_madeFor_13 : decode cX12_madeFor 13 = .ok (.getfield 7, 3) := by decide +kernel
theorem dX12_madeFor_16 : decode cX12_madeFor 16 = .ok (.iconst 4, 1) := by decide +kernel
theorem dX12_madeFor_17 : decode cX12_madeFor 17 = .ok (.iaload, 1) := by decide +kernel
theorem dX12_madeFor_18 : decode cX12_madeFor 18 = .ok (.ishl, 1) := by decide +kernel
theorem dX12_madeFor_19 : decode cX12_madeFor 19 = .ok (.if_icmp .ge 165, 3) := by decide +kernel
theorem dX12_madeFor_22 : decode cX12_madeFor 22 = .ok (.iload_n 3, 1) := by decide +kernel
theorem dX12_madeFor_23 : decode cX12_madeFor 23 = .ok (.iload_n 1, 1) := by decide +kernel
theorem dX12_madeFor_24 : decode cX12_madeFor 24 = .ok (.invokestatic 54, 3) := by decide +kernel
theorem dX12_madeFor_27 : decode cX12_madeFor 27 = .ok (.ifCond .ne 157, 3) := by decide +kernel
theorem dX12_madeFor_30 : decode cX12_madeFor 30 = .ok (.iload_n 2, 1) := by decide +kernel
theorem dX12_madeFor_31 : decode cX12_madeFor 31 = .ok (.iconst (-1), 1) := by decide +kernel
theorem dX12_madeFor_32 : decode cX12_madeFor 32 = .ok (.if_icmp .eq 14, 3) := by decide +kernel
theorem dX12_madeFor_35 : decode cX12_madeFor 35 = .ok (.iload_n 3, 1) := by decide +kernel
theorem dX12_madeFor_36 : decode cX12_madeFor 36 = .ok (.invokestatic 341, 3) := by decide +kernel
theorem dX12_madeFor_39 : decode cX12_madeFor 39 = .ok (.iload_n 2, 1) := by decide +kernel
theorem dX12_madeFor_40 : decode cX12_madeFor 40 = .ok (.if_icmp .lt 6, 3) := by decide +kernel
theorem dX12_madeFor_43 : decode cX12_madeFor 43 = .ok (.goto 141, 3) := by decide +kernel
theorem dX12_madeFor_46 : decode cX12_madeFor 46 = .ok (.iconst 1, 1) := by decide +kernel
theorem dX12_madeFor_47 : decode cX12_madeFor 47 = .ok (.istore 4, 2) := by decide +kernel
theorem dX12_madeFor_49 : decode cX12_madeFor 49 = .ok (.iconst 0, 1) := by decide +kernel
theorem dX12_madeFor_50 : decode cX12_madeFor 50 = .ok (.istore 5, 2) := by decide +kernel
theorem dX12_madeFor_52 : decode cX12_madeFor 52 = .ok (.iload 5, 2) := by decide +kernel
theorem dX12_madeFor_54 : decode cX12_madeFor 54 = .ok (.aload_n 0, 1) := by decide +kernel
theorem dX12_madeFor_55 : decode cX12_madeFor 55 = .ok (.getfield 7, 3) := by decide +kernel
theorem dX12_madeFor_58 : decode cX12_madeFor 58 = .ok (.iconst 3, 1) := by decide +kernel
theorem dX12_madeFor_59 : decode cX12_madeFor 59 = .ok (.iaload, 1) := by decide +kernel
theorem dX12_madeFor_60 : decode cX12_madeFor 60 = .ok (.if_icmp .ge 114, 3) := by decide +kernel
theorem dX12_madeFor_63 : decode cX12_madeFor 63 = .ok (.iload 4, 2) := by decide +kernel
theorem dX12_madeFor_65 : decode cX12_madeFor 65 = .ok (.ifCond .eq 109, 3) := by decide +kernel
theorem dX12_madeFor_68 : decode cX12_madeFor 68 = .ok (.aload_n 0, 1) := by decide +kernel
theorem dX12_madeFor_69 : decode cX12_madeFor 69 = .ok (.iload 5, 2) := by decide +kernel
theorem dX12_madeFor_71 : decode cX12_madeFor 71 = .ok (.iconst 2, 1) := by decide +kernel
theorem dX12_madeFor_72 : decode cX12_madeFor 72 = .ok (.invokevirtual 128, 3) := by decide +kernel
theorem dX12_madeFor_75 : decode cX12_madeFor 75 = .ok (.iload_n 1, 1) := by decide +kernel
theorem dX12_madeFor_76 : decode cX12_madeFor 76 = .ok (.if_icmp .ne 92, 3) := by decide +kernel
theorem dX12_madeFor_79 : decode cX12_madeFor 79 = .ok (.aload_n 0, 1) := by decide +kernel
theorem dX12_madeFor_80 : decode cX12_madeFor 80 = .ok (.iload 5, 2) := by decide +kernel
theorem dX12_madeFor_82 : decode cX12_madeFor 82 = .ok (.iconst 1, 1) := by decide +kernel
theorem dX12_madeFor_83 : decode cX12_madeFor 83 = .ok (.invokevirtual 128, 3) := by decide +kernel
theorem dX12_madeFor_86 : decode cX12_madeFor 86 = .ok (.iconst 1, 1) := by decide +kernel
theorem dX12_madeFor_87 : decode cX12_madeFor 87 = .ok (.if_icmp .ne 6, 3) := by decide +kernel
theorem dX12_madeFor_90 : decode cX12_madeFor 90 = .ok (.goto 78, 3) := by decide +kernel
theorem dX12_madeFor_93 : decode cX12_madeFor 93 = .ok (.aload_n 0, 1) := by decide +kernel
theorem dX12_madeFor_94 : decode cX12_madeFor 94 = .ok (.iload 5, 2) := by decide +kernel
theorem dX12_madeFor_96 : decode cX12_madeFor 96 = .ok (.iconst 0, 1) := by decide +kernel
theorem dX12_madeFor_97 : decode cX12_madeFor 97 = .ok (.invokevirtual 289, 3) := by decide +kernel
theorem dX12_madeFor_100 : decode cX12_madeFor 100 = .ok (.ifCond .eq 7, 3) := by decide +kernel
theorem dX12_madeFor_103 : decode cX12_madeFor 103 = .ok (.iconst 1, 1) := by decide +kernel
theorem dX12_madeFor_104 : decode cX12_madeFor 104 = .ok (.goto 4, 3) := by decide +kernel
theorem dX12_madeFor_107 : decode cX12_madeFor 107 = .ok (.iconst 0, 1) := by decide +kernel
theorem dX12_madeFor_108 : decode cX12_madeFor 108 = .ok (.istore 6, 2) := by decide +kernel
theorem dX12_madeFor_110 : decode cX12_madeFor 110 = .ok (.iconst 0, 1) := by decide +kernel
theorem dX12_madeFor_111 : decode cX12_madeFor 111 = .ok (.istore 7, 2) := by decide +kernel
theorem dX12_madeFor_113 : decode cX12_madeFor 113 = .ok (.iload 7, 2) := by decide +kernel
theorem dX12_madeFor_115 : decode cX12_madeFor 115 = .ok (.aload_n 0, 1) := by decide +kernel
theorem dX12_madeFor_116 : decode cX12_madeFor 116 = .ok (.getfield 7, 3) := by decide +kernel
theorem dX12_madeFor_119 : decode cX12_madeFor 119 = .ok (.iconst 4, 1) := by decide +kernel
theorem dX12_madeFor_120 : decode cX12_madeFor 120 = .ok (.iaload, 1) := by decide +kernel
theorem dX12_madeFor_121 : decode cX12_madeFor 121 = .ok (.if_icmp .ge 43, 3) := by decide +kernel
theorem dX12_madeFor_124 : decode cX12_madeFor 124 = .ok (.iload 6, 2) := by decide +kernel
theorem dX12_madeFor_126 : decode cX12_madeFor 126 = .ok (.ifCond .ne 25, 3) := by decide +kernel
theorem dX12_madeFor_129 : decode cX12_madeFor 129 = .ok (.iload_n 3, 1) := by decide +kernel
theorem dX12_madeFor_130 : decode cX12_madeFor 130 = .ok (.iload 7, 2) := by decide +kernel
theorem dX12_madeFor_132 : decode cX12_madeFor 132 = .ok (.invokestatic 54, 3) := by decide +kernel
theorem dX12_madeFor_135 : decode cX12_madeFor 135 = .ok (.ifCond .eq 20, 3) := by decide +kernel
theorem dX12_madeFor_138 : decode cX12_madeFor 138 = .ok (.aload_n 0, 1) := by decide +kernel
theorem dX12_madeFor_139 : decode cX12_madeFor 139 = .ok (.iload 7, 2) := by decide +kernel
theorem dX12_madeFor_141 : decode cX12_madeFor 141 = .ok (.iload 5, 2) := by decide +kernel
theorem dX12_madeFor_143 : decode cX12_madeFor 143 = .ok (.bipush 9, 2) := by decide +kernel
theorem dX12_madeFor_145 : decode cX12_madeFor 145 = .ok (.invokevirtual 252, 3) := by decide +kernel
theorem dX12_madeFor_148 : decode cX12_madeFor 148 = .ok (.ifCond .eq 7, 3) := by decide +kernel
theorem dX12_madeFor_151 : decode cX12_madeFor 151 = .ok (.iconst 1, 1) := by decide +kernel
theorem dX12_madeFor_152 : decode cX12_madeFor 152 = .ok (.goto 4, 3) := by decide +kernel
theorem dX12_madeFor_155 : decode cX12_madeFor 155 = .ok (.iconst 0, 1) := by decide +kernel
theorem dX12_madeFor_156 : decode cX12_madeFor 156 = .ok (.istore 6, 2) := by decide +kernel
theorem dX12_madeFor_158 : decode cX12_madeFor 158 = .ok (.iinc 7 1, 3) := by decide +kernel
theorem dX12_madeFor_161 : decode cX12_madeFor 161 = .ok (.goto (-48), 3) := by decide +kernel
theorem dX12_madeFor_164 : decode cX12_madeFor 164 = .ok (.iload 6, 2) := by decide +kernel
theorem dX12_madeFor_166 : decode cX12_madeFor 166 = .ok (.istore 4, 2) := by decide +kernel
theorem dX12_madeFor_168 : decode cX12_madeFor 168 = .ok (.iinc 5 1, 3) := by decide +kernel
theorem dX12_madeFor_171 : decode cX12_madeFor 171 = .ok (.goto (-119), 3) := by decide +kernel
theorem dX12_madeFor_174 : decode cX12_madeFor 174 = .ok (.iload 4, 2) := by decide +kernel
theorem dX12_madeFor_176 : decode cX12_madeFor 176 = .ok (.ifCond .eq 8, 3) := by decide +kernel
theorem dX12_madeFor_179 : decode cX12_madeFor 179 = .ok (.iload_n 3, 1) := by decide +kernel
theorem dX12_madeFor_180 : decode cX12_madeFor 180 = .ok (.invokestatic 341, 3) := by decide +kernel
theorem dX12_madeFor_183 : decode cX12_madeFor 183 = .ok (.istore_n 2, 1) := by decide +kernel
theorem dX12_madeFor_184 : decode cX12_madeFor 184 = .ok (.iinc 3 1, 3) := by decide +kernel
theorem dX12_madeFor_187 : decode cX12_madeFor 187 = .ok (.goto (-183), 3) := by decide +kernel
theorem dX12_madeFor_190 : decode cX12_madeFor 190 = .ok (.iload_n 2, 1) := by decide +kernel
theorem dX12_madeFor_191 : decode cX12_madeFor 191 = .ok (.ireturn, 1) := by decide +kernel
theorem dX12_madeUp_0 : decode cX12_madeUp 0 = .ok (.aload_n 0, 1) := by decide +kernel
theorem dX12_madeUp_1 : decode cX12_madeUp 1 = .ok (.iconst 0, 1) := by decide +kernel
theorem dX12_madeUp_2 : decode cX12_madeUp 2 = .ok (.putfield 47, 3) := by decide +kernel
theorem dX12_madeUp_5 : decode cX12_madeUp 5 = .ok (.iconst 0, 1) := by decide +kernel
theorem dX12_madeUp_6 : decode cX12_madeUp 6 = .ok (.istore_n 1, 1) := by decide +kernel
theorem dX12_madeUp_7 : decode cX12_madeUp 7 = .ok (.iconst 0, 1) := by decide +kernel
theorem dX12_madeUp_8 : decode cX12_madeUp 8 = .ok (.istore_n 2, 1) := by decide +kernel
theorem dX12_madeUp_9 : decode cX12_madeUp 9 = .ok (.iload_n 2, 1) := by decide +kernel
theorem dX12_madeUp_10 : decode cX12_madeUp 10 = .ok (.aload_n 0, 1) := by decide +kernel
theorem dX12_madeUp_11 : decode cX12_madeUp 11 = .ok (.getfield 7, 3) := by decide +kernel
theorem dX12_madeUp_14 : decode cX12_madeUp 14 = .ok (.iconst 4, 1) := by decide +kernel
theorem dX12_madeUp_15 : decode cX12_madeUp 15 = .ok (.iaload, 1) := by decide +kernel
theorem dX12_madeUp_16 : decode cX12_madeUp 16 = .ok (.if_icmp .ge 26, 3) := by decide +kernel
theorem dX12_madeUp_19 : decode cX12_madeUp 19 = .ok (.aload_n 0, 1) := by decide +kernel
theorem dX12_madeUp_20 : decode cX12_madeUp 20 = .ok (.iload_n 2, 1) := by decide +kernel
theorem dX12_madeUp_21 : decode cX12_madeUp 21 = .ok (.invokevirtual 350, 3) := by decide +kernel
theorem dX12_madeUp_24 : decode cX12_madeUp 24 = .ok (.istore_n 3, 1) := by decide +kernel
theorem dX12_madeUp_25 : decode cX12_madeUp 25 = .ok (.iload_n 3, 1) := by decide +kernel
theorem dX12_madeUp_26 : decode cX12_madeUp 26 = .ok (.iconst (-1), 1) := by decide +kernel
theorem dX12_madeUp_27 : decode cX12_madeUp 27 = .ok (.if_icmp .ne 5, 3) := by decide +kernel
theorem dX12_madeUp_30 : decode cX12_madeUp 30 = .ok (.iconst (-1), 1) := by decide +kernel
theorem dX12_madeUp_31 : decode cX12_madeUp 31 = .ok (.ireturn, 1) := by decide +kernel
theorem dX12_madeUp_32 : decode cX12_madeUp 32 = .ok (.iload_n 1, 1) := by decide +kernel
theorem dX12_madeUp_33 : decode cX12_madeUp 33 = .ok (.iload_n 3, 1) := by decide +kernel
theorem dX12_madeUp_34 : decode cX12_madeUp 34 = .ok (.iadd, 1) := by decide +kernel
theorem dX12_madeUp_35 : decode cX12_madeUp 35 = .ok (.istore_n 1, 1) := by decide +kernel
theorem dX12_madeUp_36 : decode cX12_madeUp 36 = .ok (.iinc 2 1, 3) := by decide +kernel
theorem dX12_madeUp_39 : decode cX12_madeUp 39 = .ok (.goto (-30), 3) := by decide +kernel
theorem dX12_madeUp_42 : decode cX12_madeUp 42 = .ok (.iload_n 1, 1) := by decide +kernel
theorem dX12_madeUp_43 : decode cX12_madeUp 43 = .ok (.ireturn, 1) := by decide +kernel
theorem dX12_areRows_0 : decode cX12_areRows 0 = .ok (.iload_n 1, 1) := by decide +kernel
theorem dX12_areRows_1 : decode cX12_areRows 1 = .ok (.iconst 2, 1) := by decide +kernel
theorem dX12_areRows_2 : decode cX12_areRows 2 = .ok (.irem, 1) := by decide +kernel
theorem dX12_areRows_3 : decode cX12_areRows 3 = .ok (.ifCond .ne 13, 3) := by decide +kernel
theorem dX12_areRows_6 : decode cX12_areRows 6 = .ok (.iload_n 1, 1) := by decide +kernel
theorem dX12_areRows_7 : decode cX12_areRows 7 = .ok (.bipush 40, 2) := by decide +kernel
theorem dX12_areRows_9 : decode cX12_areRows 9 = .ok (.if_icmp .gt 7, 3) := by decide +kernel
theorem dX12_areRows_12 : decode cX12_areRows 12 = .ok (.iconst 1, 1) := by decide +kernel
theorem dX12_areRows_13 : decode cX12_areRows 13 = .ok (.goto 4, 3) := by decide +kernel
theorem dX12_areRows_16 : decode cX12_areRows 16 = .ok (.iconst 0, 1) := by decide +kernel
theorem dX12_areRows_17 : decode cX12_areRows 17 = .ok (.istore_n 2, 1) := by decide +kernel
theorem dX12_areRows_18 : decode cX12_areRows 18 = .ok (.iconst 0, 1) := by decide +kernel
theorem dX12_areRows_19 : decode cX12_areRows 19 = .ok (.istore_n 3, 1) := by decide +kernel
theorem dX12_areRows_20 : decode cX12_areRows 20 = .ok (.iload_n 3, 1) := by decide +kernel
theorem dX12_areRows_21 : decode cX12_areRows 21 = .ok (.iload_n 1, 1) := by decide +kernel
theorem dX12_areRows_22 : decode cX12_areRows 22 = .ok (.if_icmp .ge 47, 3) := by decide +kernel
theorem dX12_areRows_25 : decode cX12_areRows 25 = .ok (.iload_n 2, 1) := by decide +kernel
theorem dX12_areRows_26 : decode cX12_areRows 26 = .ok (.ifCond .eq 43, 3) := by decide +kernel
theorem dX12_areRows_29 : decode cX12_areRows 29 = .ok (.aload_n 0, 1) := by decide +kernel
theorem dX12_areRows_30 : decode cX12_areRows 30 = .ok (.getfield 22, 3) := by decide +kernel
theorem dX12_areRows_33 : decode cX12_areRows 33 = .ok (.iload_n 3, 1) := by decide +kernel
theorem dX12_areRows_34 : decode cX12_areRows 34 = .ok (.iaload, 1) := by decide +kernel
theorem dX12_areRows_35 : decode cX12_areRows 35 = .ok (.aload_n 0, 1) := by decide +kernel
theorem dX12_areRows_36 : decode cX12_areRows 36 = .ok (.getfield 7, 3) := by decide +kernel
theorem dX12_areRows_39 : decode cX12_areRows 39 = .ok (.iconst 3, 1) := by decide +kernel
theorem dX12_areRows_40 : decode cX12_areRows 40 = .ok (.iaload, 1) := by decide +kernel
theorem dX12_areRows_41 : decode cX12_areRows 41 = .ok (.if_icmp .ge 20, 3) := by decide +kernel
theorem dX12_areRows_44 : decode cX12_areRows 44 = .ok (.aload_n 0, 1) := by decide +kernel
theorem dX12_areRows_45 : decode cX12_areRows 45 = .ok (.getfield 22, 3) := by decide +kernel
theorem dX12_areRows_48 : decode cX12_areRows 48 = .ok (.iload_n 3, 1) := by decide +kernel
theorem dX12_areRows_49 : decode cX12_areRows 49 = .ok (.iconst 1, 1) := by decide +kernel
theorem dX12_areRows_50 : decode cX12_areRows 50 = .ok (.iadd, 1) := by decide +kernel
theorem dX12_areRows_51 : decode cX12_areRows 51 = .ok (.iaload, 1) := by decide +kernel
theorem dX12_areRows_52 : decode cX12_areRows 52 = .ok (.bipush 20, 2) := by decide +kernel
theorem dX12_areRows_54 : decode cX12_areRows 54 = .ok (.if_icmp .gt 7, 3) := by decide +kernel
theorem dX12_areRows_57 : decode cX12_areRows 57 = .ok (.iconst 1, 1) := by decide +kernel
theorem dX12_areRows_58 : decode cX12_areRows 58 = .ok (.goto 4, 3) := by decide +kernel
theorem dX12_areRows_61 : decode cX12_areRows 61 = .ok (.iconst 0, 1) := by decide +kernel
theorem dX12_areRows_62 : decode cX12_areRows 62 = .ok (.istore_n 2, 1) := by decide +kernel
theorem dX12_areRows_63 : decode cX12_areRows 63 = .ok (.iinc 3 2, 3) := by decide +kernel
theorem dX12_areRows_66 : decode cX12_areRows 66 = .ok (.goto (-46), 3) := by decide +kernel
theorem dX12_areRows_69 : decode cX12_areRows 69 = .ok (.iload_n 2, 1) := by decide +kernel
theorem dX12_areRows_70 : decode cX12_areRows 70 = .ok (.ireturn, 1) := by decide +kernel
theorem dX12_places_0 : decode cX12_places 0 = .ok (.aload_n 0, 1) := by decide +kernel
theorem dX12_places_1 : decode cX12_places 1 = .ok (.invokevirtual 338, 3) := by decide +kernel
theorem dX12_places_4 : decode cX12_places 4 = .ok (.istore_n 2, 1) := by decide +kernel
theorem dX12_places_5 : decode cX12_places 5 = .ok (.bipush 20, 2) := by decide +kernel
theorem dX12_places_7 : decode cX12_places 7 = .ok (.istore_n 3, 1) := by decide +kernel
theorem dX12_places_8 : decode cX12_places 8 = .ok (.iload_n 3, 1) := by decide +kernel
theorem dX12_places_9 : decode cX12_places 9 = .ok (.ifCond .lt 65, 3) := by decide +kernel
theorem dX12_places_12 : decode cX12_places 12 = .ok (.iconst 0, 1) := by decide +kernel
theorem dX12_places_13 : decode cX12_places 13 = .ok (.istore 4, 2) := by decide +kernel
theorem dX12_places_15 : decode cX12_places 15 = .ok (.iload 4, 2) := by decide +kernel
theorem dX12_places_17 : decode cX12_places 17 = .ok (.iload_n 1, 1) := by decide +kernel
theorem dX12_places_18 : decode cX12_places 18 = .ok (.if_icmp .ge 38, 3) := by decide +kernel
theorem dX12_places_21 : decode cX12_places 21 = .ok (.iload_n 2, 1) := by decide +kernel
theorem dX12_places_22 : decode cX12_places 22 = .ok (.aload_n 0, 1) := by decide +kernel
theorem dX12_places_23 : decode cX12_places 23 = .ok (.getfield 22, 3) := by decide +kernel
theorem dX12_places_26 : decode cX12_places 26 = .ok (.iload 4, 2) := by decide +kernel
theorem dX12_places_28 : decode cX12_places 28 = .ok (.iconst 1, 1) := by decide +kernel
theorem dX12_places_29 : decode cX12_places 29 = .ok (.iadd, 1) := by decide +kernel
theorem dX12_places_30 : decode cX12_places 30 = .ok (.iaload, 1) := by decide +kernel
theorem dX12_places_31 : decode cX12_places 31 = .ok (.iload_n 3, 1) := by decide +kernel
theorem dX12_places_32 : decode cX12_places 32 = .ok (.if_icmp .ne 15, 3) := by decide +kernel
theorem dX12_places_35 : decode cX12_places 35 = .ok (.iconst 1, 1) := by decide +kernel
theorem dX12_places_36 : decode cX12_places 36 = .ok (.aload_n 0, 1) := by decide +kernel
theorem dX12_places_37 : decode cX12_places 37 = .ok (.getfield 22, 3) := by decide +kernel
theorem dX12_places_40 : decode cX12_places 40 = .ok (.iload 4, 2) := by decide +kernel
theorem dX12_places_42 : decode cX12_places 42 = .ok (.iaload, 1) := by decide +kernel
theorem dX12_places_43 : decode cX12_places 43 = .ok (.ishl, 1) := by decide +kernel
theorem dX12_places_44 : decode cX12_places 44 = .ok (.goto 4, 3) := by decide +kernel
theorem dX12_places_47 : decode cX12_places 47 = .ok (.iload_n 2, 1) := by decide +kernel
theorem dX12_places_48 : decode cX12_places 48 = .ok (.iand, 1) := by decide +kernel
theorem dX12_places_49 : decode cX12_places 49 = .ok (.istore_n 2, 1) := by decide +kernel
theorem dX12_places_50 : decode cX12_places 50 = .ok (.iinc 4 2, 3) := by decide +kernel
theorem dX12_places_53 : decode cX12_places 53 = .ok (.goto (-38), 3) := by decide +kernel
theorem dX12_places_56 : decode cX12_places 56 = .ok (.iload_n 3, 1) := by decide +kernel
theorem dX12_places_57 : decode cX12_places 57 = .ok (.ifCond .le 11, 3) := by decide +kernel
theorem dX12_places_60 : decode cX12_places 60 = .ok (.iload_n 2, 1) := by decide +kernel
theorem dX12_places_61 : decode cX12_places 61 = .ok (.aload_n 0, 1) := by decide +kernel
theorem dX12_places_62 : decode cX12_places 62 = .ok (.iload_n 2, 1) := by decide +kernel
theorem dX12_places_63 : decode cX12_places 63 = .ok (.invokevirtual 61, 3) := by decide +kernel
theorem dX12_places_66 : decode cX12_places 66 = .ok (.ior, 1) := by decide +kernel
theorem dX12_places_67 : decode cX12_places 67 = .ok (.istore_n 2, 1) := by decide +kernel
theorem dX12_places_68 : decode cX12_places 68 = .ok (.iinc 3 (-1), 3) := by decide +kernel
theorem dX12_places_71 : decode cX12_places 71 = .ok (.goto (-63), 3) := by decide +kernel
theorem dX12_places_74 : decode cX12_places 74 = .ok (.iload_n 2, 1) := by decide +kernel
theorem dX12_places_75 : decode cX12_places 75 = .ok (.ireturn, 1) := by decide +kernel
theorem dX12_whoLit_0 : decode cX12_whoLit 0 = .ok (.aload_n 0, 1) := by decide +kernel
theorem dX12_whoLit_1 : decode cX12_whoLit 1 = .ok (.getfield 65, 3) := by decide +kernel
theorem dX12_whoLit_4 : decode cX12_whoLit 4 = .ok (.istore_n 1, 1) := by decide +kernel
theorem dX12_whoLit_5 : decode cX12_whoLit 5 = .ok (.aload_n 0, 1) := by decide +kernel
theorem dX12_whoLit_6 : decode cX12_whoLit 6 = .ok (.iconst 0, 1) := by decide +kernel
theorem dX12_whoLit_7 : decode cX12_whoLit 7 = .ok (.putfield 65, 3) := by decide +kernel
theorem dX12_whoLit_10 : decode cX12_whoLit 10 = .ok (.aload_n 0, 1) := by decide +kernel
theorem dX12_whoLit_11 : decode cX12_whoLit 11 = .ok (.aload_n 0, 1) := by decide +kernel
theorem dX12_whoLit_12 : decode cX12_whoLit 12 = .ok (.iload_n 1, 1) := by decide +kernel
theorem dX12_whoLit_13 : decode cX12_whoLit 13 = .ok (.invokevirtual 353, 3) := by decide +kernel
theorem dX12_whoLit_16 : decode cX12_whoLit 16 = .ok (.ifCond .ne 7, 3) := by decide +kernel
theorem dX12_whoLit_19 : decode cX12_whoLit 19 = .ok (.iconst 1, 1) := by decide +kernel
theorem dX12_whoLit_20 : decode cX12_whoLit 20 = .ok (.goto 4, 3) := by decide +kernel
theorem dX12_whoLit_23 : decode cX12_whoLit 23 = .ok (.iconst 0, 1) := by decide +kernel
theorem dX12_whoLit_24 : decode cX12_whoLit 24 = .ok (.putfield 47, 3) := by decide +kernel
theorem dX12_whoLit_27 : decode cX12_whoLit 27 = .ok (.aload_n 0, 1) := by decide +kernel
theorem dX12_whoLit_28 : decode cX12_whoLit 28 = .ok (.getfield 47, 3) := by decide +kernel
theorem dX12_whoLit_31 : decode cX12_whoLit 31 = .ok (.ifCond .le 7, 3) := by decide +kernel
theorem dX12_whoLit_34 : decode cX12_whoLit 34 = .ok (.iconst 0, 1) := by decide +kernel
theorem dX12_whoLit_35 : decode cX12_whoLit 35 = .ok (.goto 8, 3) := by decide +kernel
theorem dX12_whoLit_38 : decode cX12_whoLit 38 = .ok (.aload_n 0, 1) := by decide +kernel
theorem dX12_whoLit_39 : decode cX12_whoLit 39 = .ok (.iload_n 1, 1) := by decide +kernel
theorem dX12_whoLit_40 : decode cX12_whoLit 40 = .ok (.invokevirtual 356, 3) := by decide +kernel
theorem dX12_whoLit_43 : decode cX12_whoLit 43 = .ok (.ireturn, 1) := by decide +kernel
theorem dX12_asFar_0 : decode cX12_asFar 0 = .ok (.iconst 0, 1) := by decide +kernel
theorem dX12_asFar_1 : decode cX12_asFar 1 = .ok (.istore 4, 2) := by decide +kernel
theorem dX12_asFar_3 : decode cX12_asFar 3 = .ok (.iconst 0, 1) := by decide +kernel
theorem dX12_asFar_4 : decode cX12_asFar 4 = .ok (.istore 5, 2) := by decide +kernel
theorem dX12_asFar_6 : decode cX12_asFar 6 = .ok (.iload 5, 2) := by decide +kernel
theorem dX12_asFar_8 : decode cX12_asFar 8 = .ok (.aload_n 0, 1) := by decide +kernel
theorem dX12_asFar_9 : decode cX12_asFar 9 = .ok (.getfield 7, 3) := by decide +kernel
theorem dX12_asFar_12 : decode cX12_asFar 12 = .ok (.iconst 3, 1) := by decide +kernel
theorem dX12_asFar_13 : decode cX12_asFar 13 = .ok (.iaload, 1) := by decide +kernel
theorem dX12_asFar_14 : decode cX12_asFar 14 = .ok (.if_icmp .ge 44, 3) := by decide +kernel
theorem dX12_asFar_17 : decode cX12_asFar 17 = .ok (.iload 4, 2) := by decide +kernel
theorem dX12_asFar_19 : decode cX12_asFar 19 = .ok (.iload_n 1, 1) := by decide +kernel
theorem dX12_asFar_20 : decode cX12_asFar 20 = .ok (.iload 5, 2) := by decide +kernel
theorem dX12_asFar_22 : decode cX12_asFar 22 = .ok (.invokestatic 54, 3) := by decide +kernel
theorem dX12_asFar_25 : decode cX12_asFar 25 = .ok (.ifCond .eq 23, 3) := by decide +kernel
theorem dX12_asFar_28 : decode cX12_asFar 28 = .ok (.aload_n 0, 1) := by decide +kernel
theorem dX12_asFar_29 : decode cX12_asFar 29 = .ok (.iload_n 2, 1) := by decide +kernel
theorem dX12_asFar_30 : decode cX12_asFar 30 = .ok (.iload 5, 2) := by decide +kernel
theorem dX12_asFar_32 : decode cX12_asFar 32 = .ok (.invokevirtual 259, 3) := by decide +kernel
theorem dX12_asFar_35 : decode cX12_asFar 35 = .ok (.aload_n 0, 1) := by decide +kernel
theorem dX12_asFar_36 : decode cX12_asFar 36 = .ok (.iload_n 2, 1) := by decide +kernel
theorem dX12_asFar_37 : decode cX12_asFar 37 = .ok (.iload_n 3, 1) := by decide +kernel
theorem dX12_asFar_38 : decode cX12_asFar 38 = .ok (.invokevirtual 259, 3) := by decide +kernel
theorem dX12_asFar_41 : decode cX12_asFar 41 = .ok (.if_icmp .ne 7, 3) := by decide +kernel
theorem dX12_asFar_44 : decode cX12_asFar 44 = .ok (.iconst 1, 1) := by decide +kernel
theorem dX12_asFar_45 : decode cX12_asFar 45 = .ok (.goto 4, 3) := by decide +kernel
theorem dX12_asFar_48 : decode cX12_asFar 48 = .ok (.iconst 0, 1) := by decide +kernel
theorem dX12_asFar_49 : decode cX12_asFar 49 = .ok (.iadd, 1) := by decide +kernel
theorem dX12_asFar_50 : decode cX12_asFar 50 = .ok (.istore 4, 2) := by decide +kernel
theorem dX12_asFar_52 : decode cX12_asFar 52 = .ok (.iinc 5 1, 3) := by decide +kernel
theorem dX12_asFar_55 : decode cX12_asFar 55 = .ok (.goto (-49), 3) := by decide +kernel
theorem dX12_asFar_58 : decode cX12_asFar 58 = .ok (.iload 4, 2) := by decide +kernel
theorem dX12_asFar_60 : decode cX12_asFar 60 = .ok (.ireturn, 1) := by decide +kernel
theorem dX12_ask_0 : decode cX12_ask 0 = .ok (.aload_n 0, 1) := by decide +kernel
theorem dX12_ask_1 : decode cX12_ask 1 = .ok (.getfield 65, 3) := by decide +kernel
theorem dX12_ask_4 : decode cX12_ask 4 = .ok (.istore_n 1, 1) := by decide +kernel
theorem dX12_ask_5 : decode cX12_ask 5 = .ok (.aload_n 0, 1) := by decide +kernel
theorem dX12_ask_6 : decode cX12_ask 6 = .ok (.iconst 0, 1) := by decide +kernel
theorem dX12_ask_7 : decode cX12_ask 7 = .ok (.putfield 65, 3) := by decide +kernel
theorem dX12_ask_10 : decode cX12_ask 10 = .ok (.aload_n 0, 1) := by decide +kernel
theorem dX12_ask_11 : decode cX12_ask 11 = .ok (.aload_n 0, 1) := by decide +kernel
theorem dX12_ask_12 : decode cX12_ask 12 = .ok (.iload_n 1, 1) := by decide +kernel
theorem dX12_ask_13 : decode cX12_ask 13 = .ok (.invokevirtual 353, 3) := by decide +kernel
theorem dX12_ask_16 : decode cX12_ask 16 = .ok (.ifCond .ne 7, 3) := by decide +kernel
theorem dX12_ask_19 : decode cX12_ask 19 = .ok (.iconst 1, 1) := by decide +kernel
theorem dX12_ask_20 : decode cX12_ask 20 = .ok (.goto 4, 3) := by decide +kernel
theorem dX12_ask_23 : decode cX12_ask 23 = .ok (.iconst 0, 1) := by decide +kernel
theorem dX12_ask_24 : decode cX12_ask 24 = .ok (.putfield 47, 3) := by decide +kernel
theorem dX12_ask_27 : decode cX12_ask 27 = .ok (.aload_n 0, 1) := by decide +kernel
theorem dX12_ask_28 : decode cX12_ask 28 = .ok (.getfield 47, 3) := by decide +kernel
theorem dX12_ask_31 : decode cX12_ask 31 = .ok (.ifCond .le 5, 3) := by decide +kernel
theorem dX12_ask_34 : decode cX12_ask 34 = .ok (.iconst 0, 1) := by decide +kernel
theorem dX12_ask_35 : decode cX12_ask 35 = .ok (.ireturn, 1) := by decide +kernel
theorem dX12_ask_36 : decode cX12_ask 36 = .ok (.aload_n 0, 1) := by decide +kernel
theorem dX12_ask_37 : decode cX12_ask 37 = .ok (.iload_n 1, 1) := by decide +kernel
theorem dX12_ask_38 : decode cX12_ask 38 = .ok (.invokevirtual 356, 3) := by decide +kernel
theorem dX12_ask_41 : decode cX12_ask 41 = .ok (.istore_n 2, 1) := by decide +kernel
theorem dX12_ask_42 : decode cX12_ask 42 = .ok (.iconst (-1), 1) := by decide +kernel
theorem dX12_ask_43 : decode cX12_ask 43 = .ok (.istore_n 3, 1) := by decide +kernel
theorem dX12_ask_44 : decode cX12_ask 44 = .ok (.ldc_w 327, 3) := by decide +kernel
theorem dX12_ask_47 : decode cX12_ask 47 = .ok (.istore 4, 2) := by decide +kernel
theorem dX12_ask_49 : decode cX12_ask 49 = .ok (.iconst 0, 1) := by decide +kernel
theorem dX12_ask_50 : decode cX12_ask 50 = .ok (.istore 5, 2) := by decide +kernel
theorem dX12_ask_52 : decode cX12_ask 52 = .ok (.iload 5, 2) := by decide +kernel
theorem dX12_ask_54 : decode cX12_ask 54 = .ok (.aload_n 0, 1) := by decide +kernel
theorem dX12_ask_55 : decode cX12_ask 55 = .ok (.getfield 7, 3) := by decide +kernel
theorem dX12_ask_58 : decode cX12_ask 58 = .ok (.iconst 3, 1) := by decide +kernel
theorem dX12_ask_59 : decode cX12_ask 59 = .ok (.iaload, 1) := by decide +kernel
theorem dX12_ask_60 : decode cX12_ask 60 = .ok (.if_icmp .ge 82, 3) := by decide +kernel
theorem dX12_ask_63 : decode cX12_ask 63 = .ok (.iload_n 2, 1) := by decide +kernel
theorem dX12_ask_64 : decode cX12_ask 64 = .ok (.invokestatic 341, 3) := by decide +kernel
theorem dX12_ask_67 : decode cX12_ask 67 = .ok (.iconst 1, 1) := by decide +kernel
theorem dX12_ask_68 : decode cX12_ask 68 = .ok (.if_icmp .le 74, 3) := by decide +kernel
theorem dX12_ask_71 : decode cX12_ask 71 = .ok (.iconst 0, 1) := by decide +kernel
theorem dX12_ask_72 : decode cX12_ask 72 = .ok (.istore 6, 2) := by decide +kernel
theorem dX12_ask_74 : decode cX12_ask 74 = .ok (.iconst 0, 1) := by decide +kernel
theorem dX12_ask_75 : decode cX12_ask 75 = .ok (.istore 7, 2) := by decide +kernel
theorem dX12_ask_77 : decode cX12_ask 77 = .ok (.iload 7, 2) := by decide +kernel
theorem dX12_ask_79 : decode cX12_ask 79 = .ok (.aload_n 0, 1) := by decide +kernel
theorem dX12_ask_80 : decode cX12_ask 80 = .ok (.getfield 7, 3) := by decide +kernel
theorem dX12_ask_83 : decode cX12_ask 83 = .ok (.iconst 3, 1) := by decide +kernel
theorem dX12_ask_84 : decode cX12_ask 84 = .ok (.iaload, 1) := by decide +kernel
theorem dX12_ask_85 : decode cX12_ask 85 = .ok (.if_icmp .ge 34, 3) := by decide +kernel
theorem dX12_ask_88 : decode cX12_ask 88 = .ok (.iload_n 2, 1) := by decide +kernel
theorem dX12_ask_89 : decode cX12_ask 89 = .ok (.iload 7, 2) := by decide +kernel
theorem dX12_ask_91 : decode cX12_ask 91 = .ok (.invokestatic 54, 3) := by decide +kernel
theorem dX12_ask_94 : decode cX12_ask 94 = .ok (.ifCond .eq 19, 3) := by decide +kernel
theorem dX12_ask_97 : decode cX12_ask 97 = .ok (.iload 6, 2) := by decide +kernel
theorem dX12_ask_99 : decode cX12_ask 99 = .ok (.aload_n 0, 1) := by decide +kernel
theorem dX12_ask_100 : decode cX12_ask 100 = .ok (.iload_n 2, 1) := by decide +kernel
theorem dX12_ask_101 : decode cX12_ask 101 = .ok (.iload 5, 2) := by decide +kernel
theorem dX12_ask_103 : decode cX12_ask 103 = .ok (.iload 7, 2) := by decide +kernel
theorem dX12_ask_105 : decode cX12_ask 105 = .ok (.invokevirtual 359, 3) := by decide +kernel
theorem dX12_ask_108 : decode cX12_ask 108 = .ok (.invokestatic 265, 3) := by decide +kernel
theorem dX12_ask_111 : decode cX12_ask 111 = .ok (.istore 6, 2) := by decide +kernel
theorem dX12_ask_113 : decode cX12_ask 113 = .ok (.iinc 7 1, 3) := by decide +kernel
theorem dX12_ask_116 : decode cX12_ask 116 = .ok (.goto (-39), 3) := by decide +kernel
theorem dX12_ask_119 : decode cX12_ask 119 = .ok (.iload 6, 2) := by decide +kernel
theorem dX12_ask_121 : decode cX12_ask 121 = .ok (.iload 4, 2) := by decide +kernel
theorem dX12_ask_123 : decode cX12_ask 123 = .ok (.if_icmp .lt 6, 3) := by decide +kernel
theorem dX12_ask_126 : decode cX12_ask 126 = .ok (.goto 10, 3) := by decide +kernel
theorem dX12_ask_129 : decode cX12_ask 129 = .ok (.iload 6, 2) := by decide +kernel
theorem dX12_ask_131 : decode cX12_ask 131 = .ok (.istore 4, 2) := by decide +kernel
theorem dX12_ask_133 : decode cX12_ask 133 = .ok (.iload 5, 2) := by decide +kernel
theorem dX12_ask_135 : decode cX12_ask 135 = .ok (.istore_n 3, 1) := by decide +kernel
theorem dX12_ask_136 : decode cX12_ask 136 = .ok (.iinc 5 1, 3) := by decide +kernel
theorem dX12_ask_139 : decode cX12_ask 139 = .ok (.goto (-87), 3) := by decide +kernel
theorem dX12_ask_142 : decode cX12_ask 142 = .ok (.iload_n 3, 1) := by decide +kernel
theorem dX12_ask_143 : decode cX12_ask 143 = .ok (.ireturn, 1) := by decide +kernel
theorem dX12_wouldTurn_0 : decode cX12_wouldTurn 0 = .ok (.iconst 0, 1) := by decide +kernel
theorem dX12_wouldTurn_1 : decode cX12_wouldTurn 1 = .ok (.istore_n 3, 1) := by decide +kernel
theorem dX12_wouldTurn_2 : decode cX12_wouldTurn 2 = .ok (.iconst 0, 1) := by decide +kernel
theorem dX12_wouldTurn_3 : decode cX12_wouldTurn 3 = .ok (.istore 4, 2) := by decide +kernel
theorem dX12_wouldTurn_5 : decode cX12_wouldTurn 5 = .ok (.iload 4, 2) := by decide +kernel
theorem dX12_wouldTurn_7 : decode cX12_wouldTurn 7 = .ok (.aload_n 0, 1) := by decide +kernel
theorem dX12_wouldTurn_8 : decode cX12_wouldTurn 8 = .ok (.getfield 7, 3) := by decide +kernel
theorem dX12_wouldTurn_11 : decode cX12_wouldTurn 11 = .ok (.iconst 3, 1) := by decide +kernel
theorem dX12_wouldTurn_12 : decode cX12_wouldTurn 12 = .ok (.iaload, 1) := by decide +kernel
theorem dX12_wouldTurn_13 : decode cX12_wouldTurn 13 = .ok (.if_icmp .ge 53, 3) := by decide +kernel
theorem dX12_wouldTurn_16 : decode cX12_wouldTurn 16 = .ok (.iload_n 3, 1) := by decide +kernel
theorem dX12_wouldTurn_17 : decode cX12_wouldTurn 17 = .ok (.ifCond .ne 37, 3) := by decide +kernel
theorem dX12_wouldTurn_20 : decode cX12_wouldTurn 20 = .ok (.aload_n 0, 1) := by decide +kernel
theorem dX12_wouldTurn_21 : decode cX12_wouldTurn 21 = .ok (.iload 4, 2) := by decide +kernel
theorem dX12_wouldTurn_23 : decode cX12_wouldTurn 23 = .ok (.iconst 2, 1) := by decide +kernel
theorem dX12_wouldTurn_24 : decode cX12_wouldTurn 24 = .ok (.invokevirtual 128, 3) := by decide +kernel
theorem dX12_wouldTurn_27 : decode cX12_wouldTurn 27 = .ok (.iload_n 2, 1) := by decide +kernel
theorem dX12_wouldTurn_28 : decode cX12_wouldTurn 28 = .ok (.if_icmp .ne 30, 3) := by decide +kernel
theorem dX12_wouldTurn_31 : decode cX12_wouldTurn 31 = .ok (.aload_n 0, 1) := by decide +kernel
theorem dX12_wouldTurn_32 : decode cX12_wouldTurn 32 = .ok (.iload_n 1, 1) := by decide +kernel
theorem dX12_wouldTurn_33 : decode cX12_wouldTurn 33 = .ok (.iload 4, 2) := by decide +kernel
theorem dX12_wouldTurn_35 : decode cX12_wouldTurn 35 = .ok (.bipush 9, 2) := by decide +kernel
theorem dX12_wouldTurn_37 : decode cX12_wouldTurn 37 = .ok (.aload_n 0, 1) := by decide +kernel
theorem dX12_wouldTurn_38 : decode cX12_wouldTurn 38 = .ok (.iload_n 1, 1) := by decide +kernel
theorem dX12_wouldTurn_39 : decode cX12_wouldTurn 39 = .ok (.iload_n 2, 1) := by decide +kernel
theorem dX12_wouldTurn_40 : decode cX12_wouldTurn 40 = .ok (.invokevirtual 240, 3) := by decide +kernel
theorem dX12_wouldTurn_43 : decode cX12_wouldTurn 43 = .ok (.iconst 1, 1) := by decide +kernel
theorem dX12_wouldTurn_44 : decode cX12_wouldTurn 44 = .ok (.iadd, 1) := by decide +kernel
theorem dX12_wouldTurn_45 : decode cX12_wouldTurn 45 = .ok (.invokestatic 256, 3) := by decide +kernel
theorem dX12_wouldTurn_48 : decode cX12_wouldTurn 48 = .ok (.invokevirtual 252, 3) := by decide +kernel
theorem dX12_wouldTurn_51 : decode cX12_wouldTurn 51 = .ok (.ifCond .eq 7, 3) := by decide +kernel
theorem dX12_wouldTurn_54 : decode cX12_wouldTurn 54 = .ok (.iconst 1, 1) := by decide +kernel
theorem dX12_wouldTurn_55 : decode cX12_wouldTurn 55 = .ok (.goto 4, 3) := by decide +kernel
theorem dX12_wouldTurn_58 : decode cX12_wouldTurn 58 = .ok (.iconst 0, 1) := by decide +kernel
theorem dX12_wouldTurn_59 : decode cX12_wouldTurn 59 = .ok (.istore_n 3, 1) := by decide +kernel
theorem dX12_wouldTurn_60 : decode cX12_wouldTurn 60 = .ok (.iinc 4 1, 3) := by decide +kernel
theorem dX12_wouldTurn_63 : decode cX12_wouldTurn 63 = .ok (.goto (-58), 3) := by decide +kernel
theorem dX12_wouldTurn_66 : decode cX12_wouldTurn 66 = .ok (.iload_n 3, 1) := by decide +kernel
theorem dX12_wouldTurn_67 : decode cX12_wouldTurn 67 = .ok (.ireturn, 1) := by decide +kernel
theorem dX12_turnOf_0 : decode cX12_turnOf 0 = .ok (.iconst (-1), 1) := by decide +kernel
theorem dX12_turnOf_1 : decode cX12_turnOf 1 = .ok (.istore_n 2, 1) := by decide +kernel
theorem dX12_turnOf_2 : decode cX12_turnOf 2 = .ok (.ldc_w 327, 3) := by decide +kernel
theorem dX12_turnOf_5 : decode cX12_turnOf 5 = .ok (.istore_n 3, 1) := by decide +kernel
theorem dX12_turnOf_6 : decode cX12_turnOf 6 = .ok (.iconst 0, 1) := by decide +kernel
theorem dX12_turnOf_7 : decode cX12_turnOf 7 = .ok (.istore 4, 2) := by decide +kernel
theorem dX12_turnOf_9 : decode cX12_turnOf 9 = .ok (.iload 4, 2) := by decide +kernel
theorem dX12_turnOf_11 : decode cX12_turnOf 11 = .ok (.aload_n 0, 1) := by decide +kernel
theorem dX12_turnOf_12 : decode cX12_turnOf 12 = .ok (.getfield 7, 3) := by decide +kernel
theorem dX12_turnOf_15 : decode cX12_turnOf 15 = .ok (.iconst 3, 1) := by decide +kernel
theorem dX12_turnOf_16 : decode cX12_turnOf 16 = .ok (.iaload, 1) := by decide +kernel
theorem dX12_turnOf_17 : decode cX12_turnOf 17 = .ok (.if_icmp .ge 85, 3) := by decide +kernel
theorem dX12_turnOf_20 : decode cX12_turnOf 20 = .ok (.aload_n 0, 1) := by decide +kernel
theorem dX12_turnOf_21 : decode cX12_turnOf 21 = .ok (.iload 4, 2) := by decide +kernel
theorem dX12_turnOf_23 : decode cX12_turnOf 23 = .ok (.iconst 2, 1) := by decide +kernel
theorem dX12_turnOf_24 : decode cX12_turnOf 24 = .ok (.invokevirtual 128, 3) := by decide +kernel
theorem dX12_turnOf_27 : decode cX12_turnOf 27 = .ok (.istore 5, 2) := by decide +kernel
theorem dX12_turnOf_29 : decode cX12_turnOf 29 = .ok (.aload_n 0, 1) := by decide +kernel
theorem dX12_turnOf_30 : decode cX12_turnOf 30 = .ok (.aload_n 0, 1) := by decide +kernel
theorem dX12_turnOf_31 : decode cX12_turnOf 31 = .ok (.iload_n 1, 1) := by decide +kernel
theorem dX12_turnOf_32 : decode cX12_turnOf 32 = .ok (.iconst 0, 1) := by decide +kernel
theorem dX12_turnOf_33 : decode cX12_turnOf 33 = .ok (.invokevirtual 243, 3) := by decide +kernel
theorem dX12_turnOf_36 : decode cX12_turnOf 36 = .ok (.iload 4, 2) := by decide +kernel
theorem dX12_turnOf_38 : decode cX12_turnOf 38 = .ok (.invokevirtual 259, 3) := by decide +kernel
theorem dX12_turnOf_41 : decode cX12_turnOf 41 = .ok (.istore 6, 2) := by decide +kernel
theorem dX12_turnOf_43 : decode cX12_turnOf 43 = .ok (.iload 5, 2) := by decide +kernel
theorem dX12_turnOf_45 : decode cX12_turnOf 45 = .ok (.iconst (-1), 1) := by decide +kernel
theorem dX12_turnOf_46 : decode cX12_turnOf 46 = .ok (.if_icmp .eq 50, 3) := by decide +kernel
theorem dX12_turnOf_49 : decode cX12_turnOf 49 = .ok (.iload 5, 2) := by decide +kernel
theorem dX12_turnOf_51 : decode cX12_turnOf 51 = .ok (.iload_n 1, 1) := by decide +kernel
theorem dX12_turnOf_52 : decode cX12_turnOf 52 = .ok (.if_icmp .eq 44, 3) := by decide +kernel
theorem dX12_turnOf_55 : decode cX12_turnOf 55 = .ok (.iload 6, 2) := by decide +kernel
theorem dX12_turnOf_57 : decode cX12_turnOf 57 = .ok (.iconst (-1), 1) := by decide +kernel
theorem dX12_turnOf_58 : decode cX12_turnOf 58 = .ok (.if_icmp .eq 38, 3) := by decide +kernel
theorem dX12_turnOf_61 : decode cX12_turnOf 61 = .ok (.iload 6, 2) := by decide +kernel
theorem dX12_turnOf_63 : decode cX12_turnOf 63 = .ok (.iload_n 3, 1) := by decide +kernel
theorem dX12_turnOf_64 : decode cX12_turnOf 64 = .ok (.if_icmp .ge 32, 3) := by decide +kernel
theorem dX12_turnOf_67 : decode cX12_turnOf 67 = .ok (.aload_n 0, 1) := by decide +kernel
theorem dX12_turnOf_68 : decode cX12_turnOf 68 = .ok (.iload_n 1, 1) := by decide +kernel
theorem dX12_turnOf_69 : decode cX12_turnOf 69 = .ok (.iload 4, 2) := by decide +kernel
theorem dX12_turnOf_71 : decode cX12_turnOf 71 = .ok (.invokevirtual 274, 3) := by decide +kernel
theorem dX12_turnOf_74 : decode cX12_turnOf 74 = .ok (.ifCond .eq 22, 3) := by decide +kernel
theorem dX12_turnOf_77 : decode cX12_turnOf 77 = .ok (.aload_n 0, 1) := by decide +kernel
theorem dX12_turnOf_78 : decode cX12_turnOf 78 = .ok (.iload 5, 2) := by decide +kernel
theorem dX12_turnOf_80 : decode cX12_turnOf 80 = .ok (.iload_n 1, 1) := by decide +kernel
theorem dX12_turnOf_81 : decode cX12_turnOf 81 = .ok (.invokevirtual 362, 3) := by decide +kernel
theorem dX12_turnOf_84 : decode cX12_turnOf 84 = .ok (.ifCond .ne 6, 3) := by decide +kernel
theorem dX12_turnOf_87 : decode cX12_turnOf 87 = .ok (.goto 9, 3) := by decide +kernel
theorem dX12_turnOf_90 : decode cX12_turnOf 90 = .ok (.iload 6, 2) := by decide +kernel
theorem dX12_turnOf_92 : decode cX12_turnOf 92 = .ok (.istore_n 3, 1) := by decide +kernel
theorem dX12_turnOf_93 : decode cX12_turnOf 93 = .ok (.iload 4, 2) := by decide +kernel
theorem dX12_turnOf_95 : decode cX12_turnOf 95 = .ok (.istore_n 2, 1) := by decide +kernel
theorem dX12_turnOf_96 : decode cX12_turnOf 96 = .ok (.iinc 4 1, 3) := by decide +kernel
theorem dX12_turnOf_99 : decode cX12_turnOf 99 = .ok (.goto (-90), 3) := by decide +kernel
theorem dX12_turnOf_102 : decode cX12_turnOf 102 = .ok (.iload_n 2, 1) := by decide +kernel
theorem dX12_turnOf_103 : decode cX12_turnOf 103 = .ok (.ireturn, 1) := by decide +kernel
theorem dX12_pointsTo_0 : decode cX12_pointsTo 0 = .ok (.aload_n 0, 1) := by decide +kernel
theorem dX12_pointsTo_1 : decode cX12_pointsTo 1 = .ok (.iload_n 1, 1) := by decide +kernel
theorem dX12_pointsTo_2 : decode cX12_pointsTo 2 = .ok (.invokevirtual 302, 3) := by decide +kernel
theorem dX12_pointsTo_5 : decode cX12_pointsTo 5 = .ok (.istore_n 2, 1) := by decide +kernel
theorem dX12_pointsTo_6 : decode cX12_pointsTo 6 = .ok (.iload_n 2, 1) := by decide +kernel
theorem dX12_pointsTo_7 : decode cX12_pointsTo 7 = .ok (.iconst (-1), 1) := by decide +kernel
theorem dX12_pointsTo_8 : decode cX12_pointsTo 8 = .ok (.if_icmp .ne 7, 3) := by decide +kernel
theorem dX12_pointsTo_11 : decode cX12_pointsTo 11 = .ok (.iconst (-1), 1) := by decide +kernel
theorem dX12_pointsTo_12 : decode cX12_pointsTo 12 = .ok (.goto 9, 3) := by decide +kernel
theorem dX12_pointsTo_15 : decode cX12_pointsTo 15 = .ok (.aload_n 0, 1) := by decide +kernel
theorem dX12_pointsTo_16 : decode cX12_pointsTo 16 = .ok (.iload_n 2, 1) := by decide +kernel
theorem dX12_pointsTo_17 : decode cX12_pointsTo 17 = .ok (.iconst 2, 1) := by decide +kernel
theorem dX12_pointsTo_18 : decode cX12_pointsTo 18 = .ok (.invokevirtual 128, 3) := by decide +kernel
theorem dX12_pointsTo_21 : decode cX12_pointsTo 21 = .ok (.ireturn, 1) := by decide +kernel
theorem dX12_ring_0 : decode cX12_ring 0 = .ok (.aload_n 0, 1) := by decide +kernel
theorem dX12_ring_1 : decode cX12_ring 1 = .ok (.aload_n 0, 1) := by decide +kernel
theorem dX12_ring_2 : decode cX12_ring 2 = .ok (.iload_n 1, 1) := by decide +kernel
theorem dX12_ring_3 : decode cX12_ring 3 = .ok (.invokevirtual 296, 3) := by decide +kernel
theorem dX12_ring_6 : decode cX12_ring 6 = .ok (.ifCond .ne 7, 3) := by decide +kernel
theorem dX12_ring_9 : decode cX12_ring 9 = .ok (.iconst 1, 1) := by decide +kernel
theorem dX12_ring_10 : decode cX12_ring 10 = .ok (.goto 4, 3) := by decide +kernel
theorem dX12_ring_13 : decode cX12_ring 13 = .ok (.iconst 0, 1) := by decide +kernel
theorem dX12_ring_14 : decode cX12_ring 14 = .ok (.putfield 47, 3) := by decide +kernel
theorem dX12_ring_17 : decode cX12_ring 17 = .ok (.aload_n 0, 1) := by decide +kernel
theorem dX12_ring_18 : decode cX12_ring 18 = .ok (.getfield 47, 3) := by decide +kernel
theorem dX12_ring_21 : decode cX12_ring 21 = .ok (.ifCond .le 5, 3) := by decide +kernel
theorem dX12_ring_24 : decode cX12_ring 24 = .ok (.iconst 0, 1) := by decide +kernel
theorem dX12_ring_25 : decode cX12_ring 25 = .ok (.ireturn, 1) := by decide +kernel
theorem dX12_ring_26 : decode cX12_ring 26 = .ok (.aload_n 0, 1) := by decide +kernel
theorem dX12_ring_27 : decode cX12_ring 27 = .ok (.iload_n 1, 1) := by decide +kernel
theorem dX12_ring_28 : decode cX12_ring 28 = .ok (.invokevirtual 365, 3) := by decide +kernel
theorem dX12_ring_31 : decode cX12_ring 31 = .ok (.istore_n 2, 1) := by decide +kernel
theorem dX12_ring_32 : decode cX12_ring 32 = .ok (.iconst 0, 1) := by decide +kernel
theorem dX12_ring_33 : decode cX12_ring 33 = .ok (.istore_n 3, 1) := by decide +kernel
theorem dX12_ring_34 : decode cX12_ring 34 = .ok (.iload_n 3, 1) := by decide +kernel
theorem dX12_ring_35 : decode cX12_ring 35 = .ok (.bipush 6, 2) := by decide +kernel
theorem dX12_ring_37 : decode cX12_ring 37 = .ok (.if_icmp .ge 25, 3) := by decide +kernel
theorem dX12_ring_40 : decode cX12_ring 40 = .ok (.iload_n 2, 1) := by decide +kernel
theorem dX12_ring_41 : decode cX12_ring 41 = .ok (.iconst (-1), 1) := by decide +kernel
theorem dX12_ring_42 : decode cX12_ring 42 = .ok (.if_icmp .eq 20, 3) := by decide +kernel
theorem dX12_ring_45 : decode cX12_ring 45 = .ok (.iload_n 2, 1) := by decide +kernel
theorem dX12_ring_46 : decode cX12_ring 46 = .ok (.iload_n 1, 1) := by decide +kernel
theorem dX12_ring_47 : decode cX12_ring 47 = .ok (.if_icmp .eq 15, 3) := by decide +kernel
theorem dX12_ring_50 : decode cX12_ring 50 = .ok (.aload_n 0, 1) := by decide +kernel
theorem dX12_ring_51 : decode cX12_ring 51 = .ok (.iload_n 2, 1) := by decide +kernel
theorem dX12_ring_52 : decode cX12_ring 52 = .ok (.invokevirtual 365, 3) := by decide +kernel
theorem dX12_ring_55 : decode cX12_ring 55 = .ok (.istore_n 2, 1) := by decide +kernel
theorem dX12_ring_56 : decode cX12_ring 56 = .ok (.iinc 3 1, 3) := by decide +kernel
theorem dX12_ring_59 : decode cX12_ring 59 = .ok (.goto (-25), 3) := by decide +kernel
theorem dX12_ring_62 : decode cX12_ring 62 = .ok (.iload_n 2, 1) := by decide +kernel
theorem dX12_ring_63 : decode cX12_ring 63 = .ok (.iload_n 1, 1) := by decide +kernel
theorem dX12_ring_64 : decode cX12_ring 64 = .ok (.if_icmp .ne 7, 3) := by decide +kernel
theorem dX12_ring_67 : decode cX12_ring 67 = .ok (.iconst 1, 1) := by decide +kernel
theorem dX12_ring_68 : decode cX12_ring 68 = .ok (.goto 4, 3) := by decide +kernel
theorem dX12_ring_71 : decode cX12_ring 71 = .ok (.iconst 0, 1) := by decide +kernel
theorem dX12_ring_72 : decode cX12_ring 72 = .ok (.ireturn, 1) := by decide +kernel
theorem dX12_both_0 : decode cX12_both 0 = .ok (.aload_n 0, 1) := by decide +kernel
theorem dX12_both_1 : decode cX12_both 1 = .ok (.iload_n 1, 1) := by decide +kernel
theorem dX12_both_2 : decode cX12_both 2 = .ok (.iload_n 2, 1) := by decide +kernel
theorem dX12_both_3 : decode cX12_both 3 = .ok (.invokevirtual 240, 3) := by decide +kernel
theorem dX12_both_6 : decode cX12_both 6 = .ok (.aload_n 0, 1) := by decide +kernel
theorem dX12_both_7 : decode cX12_both 7 = .ok (.iload_n 2, 1) := by decide +kernel
theorem dX12_both_8 : decode cX12_both 8 = .ok (.iload_n 1, 1) := by decide +kernel
theorem dX12_both_9 : decode cX12_both 9 = .ok (.invokevirtual 240, 3) := by decide +kernel
theorem dX12_both_12 : decode cX12_both 12 = .ok (.iadd, 1) := by decide +kernel
theorem dX12_both_13 : decode cX12_both 13 = .ok (.ireturn, 1) := by decide +kernel
theorem dX12_sides_0 : decode cX12_sides 0 = .ok (.aload_n 0, 1) := by decide +kernel
theorem dX12_sides_1 : decode cX12_sides 1 = .ok (.iconst 0, 1) := by decide +kernel
theorem dX12_sides_2 : decode cX12_sides 2 = .ok (.putfield 47, 3) := by decide +kernel
theorem dX12_sides_5 : decode cX12_sides 5 = .ok (.iconst (-1), 1) := by decide +kernel
theorem dX12_sides_6 : decode cX12_sides 6 = .ok (.istore_n 1, 1) := by decide +kernel
theorem dX12_sides_7 : decode cX12_sides 7 = .ok (.iconst (-1), 1) := by decide +kernel
theorem dX12_sides_8 : decode cX12_sides 8 = .ok (.istore_n 2, 1) := by decide +kernel
theorem dX12_sides_9 : decode cX12_sides 9 = .ok (.iconst 2, 1) := by decide +kernel
theorem dX12_sides_10 : decode cX12_sides 10 = .ok (.istore_n 3, 1) := by decide +kernel
theorem dX12_sides_11 : decode cX12_sides 11 = .ok (.iload_n 3, 1) := by decide +kernel
theorem dX12_sides_12 : decode cX12_sides 12 = .ok (.iconst 1, 1) := by decide +kernel
theorem dX12_sides_13 : decode cX12_sides 13 = .ok (.aload_n 0, 1) := by decide +kernel
theorem dX12_sides_14 : decode cX12_sides 14 = .ok (.getfield 7, 3) := by decide +kernel
theorem dX12_sides_17 : decode cX12_sides 17 = .ok (.iconst 4, 1) := by decide +kernel
theorem dX12_sides_18 : decode cX12_sides 18 = .ok (.iaload, 1) := by decide +kernel
theorem dX12_sides_19 : decode cX12_sides 19 = .ok (.ishl, 1) := by decide +kernel
theorem dX12_sides_20 : decode cX12_sides 20 = .ok (.if_icmp .ge 101, 3) := by decide +kernel
theorem dX12_sides_23 : decode cX12_sides 23 = .ok (.iconst 0, 1) := by decide +kernel
theorem dX12_sides_24 : decode cX12_sides 24 = .ok (.istore 4, 2) := by decide +kernel
theorem dX12_sides_26 : decode cX12_sides 26 = .ok (.iconst 0, 1) := by decide +kernel
theorem dX12_sides_27 : decode cX12_sides 27 = .ok (.istore 5, 2) := by decide +kernel
theorem dX12_sides_29 : decode cX12_sides 29 = .ok (.iload 5, 2) := by decide +kernel
theorem dX12_sides_31 : decode cX12_sides 31 = .ok (.aload_n 0, 1) := by decide +kernel
theorem dX12_sides_32 : decode cX12_sides 32 = .ok (.getfield 7, 3) := by decide +kernel
theorem dX12_sides_35 : decode cX12_sides 35 = .ok (.iconst 4, 1) := by decide +kernel
theorem dX12_sides_36 : decode cX12_sides 36 = .ok (.iaload, 1) := by decide +kernel
theorem dX12_sides_37 : decode cX12_sides 37 = .ok (.if_icmp .ge 64, 3) := by decide +kernel
theorem dX12_sides_40 : decode cX12_sides 40 = .ok (.iload 5, 2) := by decide +kernel
theorem dX12_sides_42 : decode cX12_sides 42 = .ok (.iconst 1, 1) := by decide +kernel
theorem dX12_sides_43 : decode cX12_sides 43 = .ok (.iadd, 1) := by decide +kernel
theorem dX12_sides_44 : decode cX12_sides 44 = .ok (.istore 6, 2) := by decide +kernel
theorem dX12_sides_46 : decode cX12_sides 46 = .ok (.iload 6, 2) := by decide +kernel
theorem dX12_sides_48 : decode cX12_sides 48 = .ok (.aload_n 0, 1) := by decide +kernel
theorem dX12_sides_49 : decode cX12_sides 49 = .ok (.getfield 7, 3) := by decide +kernel
theorem dX12_sides_52 : decode cX12_sides 52 = .ok (.iconst 4, 1) := by decide +kernel
theorem dX12_sides_53 : decode cX12_sides 53 = .ok (.iaload, 1) := by decide +kernel
theorem dX12_sides_54 : decode cX12_sides 54 = .ok (.if_icmp .ge 41, 3) := by decide +kernel
theorem dX12_sides_57 : decode cX12_sides 57 = .ok (.iload 4, 2) := by decide +kernel
theorem dX12_sides_59 : decode cX12_sides 59 = .ok (.iload_n 3, 1) := by decide +kernel
theorem dX12_sides_60 : decode cX12_sides 60 = .ok (.iload 5, 2) := by decide +kernel
theorem dX12_sides_62 : decode cX12_sides 62 = .ok (.invokestatic 54, 3) := by decide +kernel
theorem dX12_sides_65 : decode cX12_sides 65 = .ok (.iload_n 3, 1) := by decide +kernel
theorem dX12_sides_66 : decode cX12_sides 66 = .ok (.iload 6, 2) := by decide +kernel
theorem dX12_sides_68 : decode cX12_sides 68 = .ok (.invokestatic 54, 3) := by decide +kernel
theorem dX12_sides_71 : decode cX12_sides 71 = .ok (.if_icmp .ne 14, 3) := by decide +kernel
theorem dX12_sides_74 : decode cX12_sides 74 = .ok (.aload_n 0, 1) := by decide +kernel
theorem dX12_sides_75 : decode cX12_sides 75 = .ok (.iload 5, 2) := by decide +kernel
theorem dX12_sides_77 : decode cX12_sides 77 = .ok (.iload 6, 2) := by decide +kernel
theorem dX12_sides_79 : decode cX12_sides 79 = .ok (.invokevirtual 368, 3) := by decide +kernel
theorem dX12_sides_82 : decode cX12_sides 82 = .ok (.goto 4, 3) := by decide +kernel
theorem dX12_sides_85 : decode cX12_sides 85 = .ok (.iconst 0, 1) := by decide +kernel
theorem dX12_sides_86 : decode cX12_sides 86 = .ok (.iadd, 1) := by decide +kernel
theorem dX12_sides_87 : decode cX12_sides 87 = .ok (.istore 4, 2) := by decide +kernel
theorem dX12_sides_89 : decode cX12_sides 89 = .ok (.iinc 6 1, 3) := by decide +kernel
theorem dX12_sides_92 : decode cX12_sides 92 = .ok (.goto (-46), 3) := by decide +kernel
theorem dX12_sides_95 : decode cX12_sides 95 = .ok (.iinc 5 1, 3) := by decide +kernel
theorem dX12_sides_98 : decode cX12_sides 98 = .ok (.goto (-69), 3) := by decide +kernel
theorem dX12_sides_101 : decode cX12_sides 101 = .ok (.iload 4, 2) := by decide +kernel
theorem dX12_sides_103 : decode cX12_sides 103 = .ok (.iload_n 2, 1) := by decide +kernel
theorem dX12_sides_104 : decode cX12_sides 104 = .ok (.if_icmp .gt 6, 3) := by decide +kernel
theorem dX12_sides_107 : decode cX12_sides 107 = .ok (.goto 8, 3) := by decide +kernel
theorem dX12_sides_110 : decode cX12_sides 110 = .ok (.iload 4, 2) := by decide +kernel
theorem dX12_sides_112 : decode cX12_sides 112 = .ok (.istore_n 2, 1) := by decide +kernel
theorem dX12_sides_113 : decode cX12_sides 113 = .ok (.iload_n 3, 1) := by decide +kernel
theorem dX12_sides_114 : decode cX12_sides 114 = .ok (.istore_n 1, 1) := by decide +kernel
theorem dX12_sides_115 : decode cX12_sides 115 = .ok (.iinc 3 2, 3) := by decide +kernel
theorem dX12_sides_118 : decode cX12_sides 118 = .ok (.goto (-107), 3) := by decide +kernel
theorem dX12_sides_121 : decode cX12_sides 121 = .ok (.iload_n 1, 1) := by decide +kernel
theorem dX12_sides_122 : decode cX12_sides 122 = .ok (.ireturn, 1) := by decide +kernel
theorem dX12_lowest_0 : decode cX12_lowest 0 = .ok (.iconst 0, 1) := by decide +kernel
theorem dX12_lowest_1 : decode cX12_lowest 1 = .ok (.istore_n 1, 1) := by decide +kernel
theorem dX12_lowest_2 : decode cX12_lowest 2 = .ok (.iload_n 0, 1) := by decide +kernel
theorem dX12_lowest_3 : decode cX12_lowest 3 = .ok (.iload_n 1, 1) := by decide +kernel
theorem dX12_lowest_4 : decode cX12_lowest 4 = .ok (.invokestatic 54, 3) := by decide +kernel
theorem dX12_lowest_7 : decode cX12_lowest 7 = .ok (.ifCond .ne 9, 3) := by decide +kernel
theorem dX12_lowest_10 : decode cX12_lowest 10 = .ok (.iinc 1 1, 3) := by decide +kernel
theorem dX12_lowest_13 : decode cX12_lowest 13 = .ok (.goto (-11), 3) := by decide +kernel
theorem dX12_lowest_16 : decode cX12_lowest 16 = .ok (.iload_n 1, 1) := by decide +kernel
theorem dX12_lowest_17 : decode cX12_lowest 17 = .ok (.ireturn, 1) := by decide +kernel
theorem dX12_mayPair_0 : decode cX12_mayPair 0 = .ok (.aload_n 0, 1) := by decide +kernel
theorem dX12_mayPair_1 : decode cX12_mayPair 1 = .ok (.aload_n 0, 1) := by decide +kernel
theorem dX12_mayPair_2 : decode cX12_mayPair 2 = .ok (.iload_n 1, 1) := by decide +kernel
theorem dX12_mayPair_3 : decode cX12_mayPair 3 = .ok (.iconst 0, 1) := by decide +kernel
theorem dX12_mayPair_4 : decode cX12_mayPair 4 = .ok (.invokevirtual 243, 3) := by decide +kernel
theorem dX12_mayPair_7 : decode cX12_mayPair 7 = .ok (.aload_n 0, 1) := by decide +kernel
theorem dX12_mayPair_8 : decode cX12_mayPair 8 = .ok (.iload_n 2, 1) := by decide +kernel
theorem dX12_mayPair_9 : decode cX12_mayPair 9 = .ok (.iconst 0, 1) := by decide +kernel
theorem dX12_mayPair_10 : decode cX12_mayPair 10 = .ok (.invokevirtual 243, 3) := by decide +kernel
theorem dX12_mayPair_13 : decode cX12_mayPair 13 = .ok (.invokevirtual 259, 3) := by decide +kernel
theorem dX12_mayPair_16 : decode cX12_mayPair 16 = .ok (.iconst (-1), 1) := by decide +kernel
theorem dX12_mayPair_17 : decode cX12_mayPair 17 = .ok (.if_icmp .eq 7, 3) := by decide +kernel
theorem dX12_mayPair_20 : decode cX12_mayPair 20 = .ok (.iconst 1, 1) := by decide +kernel
theorem dX12_mayPair_21 : decode cX12_mayPair 21 = .ok (.goto 4, 3) := by decide +kernel
theorem dX12_mayPair_24 : decode cX12_mayPair 24 = .ok (.iconst 0, 1) := by decide +kernel
theorem dX12_mayPair_25 : decode cX12_mayPair 25 = .ok (.ireturn, 1) := by decide +kernel
theorem dX12_allBest_0 : decode cX12_allBest 0 = .ok (.aload_n 0, 1) := by decide +kernel
theorem dX12_allBest_1 : decode cX12_allBest 1 = .ok (.getfield 38, 3) := by decide +kernel
theorem dX12_allBest_4 : decode cX12_allBest 4 = .ok (.iconst 0, 1) := by decide +kernel
theorem dX12_allBest_5 : decode cX12_allBest 5 = .ok (.iconst 0, 1) := by decide +kernel
theorem dX12_allBest_6 : decode cX12_allBest 6 = .ok (.iastore, 1) := by decide +kernel
theorem dX12_allBest_7 : decode cX12_allBest 7 = .ok (.iconst 1, 1) := by decide +kernel
theorem dX12_allBest_8 : decode cX12_allBest 8 = .ok (.istore_n 1, 1) := by decide +kernel
theorem dX12_allBest_9 : decode cX12_allBest 9 = .ok (.iload_n 1, 1) := by decide +kernel
theorem dX12_allBest_10 : decode cX12_allBest 10 = .ok (.iconst 1, 1) := by decide +kernel
theorem dX12_allBest_11 : decode cX12_allBest 11 = .ok (.aload_n 0, 1) := by decide +kernel
theorem dX12_allBest_12 : decode cX12_allBest 12 = .ok (.getfield 7, 3) := by decide +kernel
theorem dX12_allBest_15 : decode cX12_allBest 15 = .ok (.iconst 4, 1) := by decide +kernel
theorem dX12_allBest_16 : decode cX12_allBest 16 = .ok (.iaload, 1) := by decide +kernel
theorem dX12_allBest_17 : decode cX12_allBest 17 = .ok (.ishl, 1) := by decide +kernel
theorem dX12_allBest_18 : decode cX12_allBest 18 = .ok (.if_icmp .ge 111, 3) := by decide +kernel
theorem dX12_allBest_21 : decode cX12_allBest 21 = .ok (.iload_n 1, 1) := by decide +kernel
theorem dX12_allBest_22 : decode cX12_allBest 22 = .ok (.invokestatic 371, 3) := by decide +kernel
theorem dX12_allBest_25 : decode cX12_allBest 25 = .ok (.istore_n 2, 1) := by decide +kernel
theorem dX12_allBest_26 : decode cX12_allBest 26 = .ok (.iload_n 1, 1) := by decide +kernel
theorem dX12_allBest_27 : decode cX12_allBest 27 = .ok (.iconst 1, 1) := by decide +kernel
theorem dX12_allBest_28 : decode cX12_allBest 28 = .ok (.iload_n 2, 1) := by decide +kernel
theorem dX12_allBest_29 : decode cX12_allBest 29 = .ok (.ishl, 1) := by decide +kernel
theorem dX12_allBest_30 : decode cX12_allBest 30 = .ok (.iconst (-1), 1) := by decide +kernel
theorem dX12_allBest_31 : decode cX12_allBest 31 = .ok (.ixor, 1) := by decide +kernel
theorem dX12_allBest_32 : decode cX12_allBest 32 = .ok (.iand, 1) := by decide +kernel
theorem dX12_allBest_33 : decode cX12_allBest 33 = .ok (.istore_n 3, 1) := by decide +kernel
theorem dX12_allBest_34 : decode cX12_allBest 34 = .ok (.aload_n 0, 1) := by decide +kernel
theorem dX12_allBest_35 : decode cX12_allBest 35 = .ok (.getfield 38, 3) := by decide +kernel
theorem dX12_allBest_38 : decode cX12_allBest 38 = .ok (.iload_n 1, 1) := by decide +kernel
theorem dX12_allBest_39 : decode cX12_allBest 39 = .ok (.aload_n 0, 1) := by decide +kernel
theorem dX12_allBest_40 : decode cX12_allBest 40 = .ok (.getfield 38, 3) := by decide +kernel
theorem dX12_allBest_43 : decode cX12_allBest 43 = .ok (.iload_n 3, 1) := by decide +kernel
theorem dX12_allBest_44 : decode cX12_allBest 44 = .ok (.iaload, 1) := by decide +kernel
theorem dX12_allBest_45 : decode cX12_allBest 45 = .ok (.iastore, 1) := by decide +kernel
theorem dX12_allBest_46 : decode cX12_allBest 46 = .ok (.iload_n 2, 1) := by decide +kernel
theorem dX12_allBest_47 : decode cX12_allBest 47 = .ok (.iconst 1, 1) := by decide +kernel
theorem dX12_allBest_48 : decode cX12_allBest 48 = .ok (.iadd, 1) := by decide +kernel
theorem dX12_allBest_49 : decode cX12_allBest 49 = .ok (.istore 4, 2) := by decide +kernel
theorem dX12_allBest_51 : decode cX12_allBest 51 = .ok (.iload 4, 2) := by decide +kernel
theorem dX12_allBest_53 : decode cX12_allBest 53 = .ok (.aload_n 0, 1) := by decide +kernel
theorem dX12_allBest_54 : decode cX12_allBest 54 = .ok (.getfield 7, 3) := by decide +kernel
theorem dX12_allBest_57 : decode cX12_allBest 57 = .ok (.iconst 4, 1) := by decide +kernel
theorem dX12_allBest_58 : decode cX12_allBest 58 = .ok (.iaload, 1) := by decide +kernel
theorem dX12_allBest_59 : decode cX12_allBest 59 = .ok (.if_icmp .ge 64, 3) := by decide +kernel
theorem dX12_allBest_62 : decode cX12_allBest 62 = .ok (.iload_n 3, 1) := by decide +kernel
theorem dX12_allBest_63 : decode cX12_allBest 63 = .ok (.iload 4, 2) := by decide +kernel
theorem dX12_allBest_65 : decode cX12_allBest 65 = .ok (.invokestatic 54, 3) := by decide +kernel
theorem dX12_allBest_68 : decode cX12_allBest 68 = .ok (.ifCond .eq 49, 3) := by decide +kernel
theorem dX12_allBest_71 : decode cX12_allBest 71 = .ok (.aload_n 0, 1) := by decide +kernel
theorem dX12_allBest_72 : decode cX12_allBest 72 = .ok (.iload_n 2, 1) := by decide +kernel
theorem dX12_allBest_73 : decode cX12_allBest 73 = .ok (.iload 4, 2) := by decide +kernel
theorem dX12_allBest_75 : decode cX12_allBest 75 = .ok (.invokevirtual 374, 3) := by decide +kernel
theorem dX12_allBest_78 : decode cX12_allBest 78 = .ok (.ifCond .eq 39, 3) := by decide +kernel
theorem dX12_allBest_81 : decode cX12_allBest 81 = .ok (.aload_n 0, 1) := by decide +kernel
theorem dX12_allBest_82 : decode cX12_allBest 82 = .ok (.getfield 38, 3) := by decide +kernel
theorem dX12_allBest_85 : decode cX12_allBest 85 = .ok (.iload_n 1, 1) := by decide +kernel
theorem dX12_allBest_86 : decode cX12_allBest 86 = .ok (.aload_n 0, 1) := by decide +kernel
theorem dX12_allBest_87 : decode cX12_allBest 87 = .ok (.getfield 38, 3) := by decide +kernel
theorem dX12_allBest_90 : decode cX12_allBest 90 = .ok (.iload_n 1, 1) := by decide +kernel
theorem dX12_allBest_91 : decode cX12_allBest 91 = .ok (.iaload, 1) := by decide +kernel
theorem dX12_allBest_92 : decode cX12_allBest 92 = .ok (.aload_n 0, 1) := by decide +kernel
theorem dX12_allBest_93 : decode cX12_allBest 93 = .ok (.iload_n 2, 1) := by decide +kernel
theorem dX12_allBest_94 : decode cX12_allBest 94 = .ok (.iload 4, 2) := by decide +kernel
theorem dX12_allBest_96 : decode cX12_allBest 96 = .ok (.invokevirtual 368, 3) := by decide +kernel
theorem dX12_allBest_99 : decode cX12_allBest 99 = .ok (.aload_n 0, 1) := by decide +kernel
theorem dX12_allBest_100 : decode cX12_allBest 100 = .ok (.getfield 38, 3) := by decide +kernel
theorem dX12_allBest_103 : decode cX12_allBest 103 = .ok (.iload_n 3, 1) := by decide +kernel
theorem dX12_allBest_104 : decode cX12_allBest 104 = .ok (.iconst 1, 1) := by decide +kernel
theorem dX12_allBest_105 : decode cX12_allBest 105 = .ok (.iload 4, 2) := by decide +kernel
theorem dX12_allBest_107 : decode cX12_allBest 107 = .ok (.ishl, 1) := by decide +kernel
theorem dX12_allBest_108 : decode cX12_allBest 108 = .ok (.iconst (-1), 1) := by decide +kernel
theorem dX12_allBest_109 : decode cX12_allBest 109 = .ok (.ixor, 1) := by decide +kernel
theorem dX12_allBest_110 : decode cX12_allBest 110 = .ok (.iand, 1) := by decide +kernel
theorem dX12_allBest_111 : decode cX12_allBest 111 = .ok (.iaload, 1) := by decide +kernel
theorem dX12_allBest_112 : decode cX12_allBest 112 = .ok (.iadd, 1) := by decide +kernel
theorem dX12_allBest_113 : decode cX12_allBest 113 = .ok (.invokestatic 265, 3) := by decide +kernel
theorem dX12_allBest_116 : decode cX12_allBest 116 = .ok (.iastore, 1) := by decide +kernel
theorem dX12_allBest_117 : decode cX12_allBest 117 = .ok (.iinc 4 1, 3) := by decide +kernel
theorem dX12_allBest_120 : decode cX12_allBest 120 = .ok (.goto (-69), 3) := by decide +kernel
theorem dX12_allBest_123 : decode cX12_allBest 123 = .ok (.iinc 1 1, 3) := by decide +kernel
theorem dX12_allBest_126 : decode cX12_allBest 126 = .ok (.goto (-117), 3) := by decide +kernel
theorem dX12_allBest_129 : decode cX12_allBest 129 = .ok (.return_, 1) := by decide +kernel
theorem dX12_pairs_0 : decode cX12_pairs 0 = .ok (.aload_n 0, 1) := by decide +kernel
theorem dX12_pairs_1 : decode cX12_pairs 1 = .ok (.iload_n 1, 1) := by decide +kernel
theorem dX12_pairs_2 : decode cX12_pairs 2 = .ok (.iconst (-1), 1) := by decide +kernel
theorem dX12_pairs_3 : decode cX12_pairs 3 = .ok (.if_icmp .eq 15, 3) := by decide +kernel
theorem dX12_pairs_6 : decode cX12_pairs 6 = .ok (.aload_n 0, 1) := by decide +kernel
theorem dX12_pairs_7 : decode cX12_pairs 7 = .ok (.iload_n 1, 1) := by decide +kernel
theorem dX12_pairs_8 : decode cX12_pairs 8 = .ok (.invokevirtual 296, 3) := by decide +kernel
theorem dX12_pairs_11 : decode cX12_pairs 11 = .ok (.ifCond .ne 7, 3) := by decide +kernel
theorem dX12_pairs_14 : decode cX12_pairs 14 = .ok (.iconst 1, 1) := by decide +kernel
theorem dX12_pairs_15 : decode cX12_pairs 15 = .ok (.goto 4, 3) := by decide +kernel
theorem dX12_pairs_18 : decode cX12_pairs 18 = .ok (.iconst 0, 1) := by decide +kernel
theorem dX12_pairs_19 : decode cX12_pairs 19 = .ok (.putfield 47, 3) := by decide +kernel
theorem dX12_pairs_22 : decode cX12_pairs 22 = .ok (.aload_n 0, 1) := by decide +kernel
theorem dX12_pairs_23 : decode cX12_pairs 23 = .ok (.getfield 47, 3) := by decide +kernel
theorem dX12_pairs_26 : decode cX12_pairs 26 = .ok (.ifCond .le 5, 3) := by decide +kernel
theorem dX12_pairs_29 : decode cX12_pairs 29 = .ok (.iconst 0, 1) := by decide +kernel
theorem dX12_pairs_30 : decode cX12_pairs 30 = .ok (.ireturn, 1) := by decide +kernel
theorem dX12_pairs_31 : decode cX12_pairs 31 = .ok (.aload_n 0, 1) := by decide +kernel
theorem dX12_pairs_32 : decode cX12_pairs 32 = .ok (.invokevirtual 377, 3) := by decide +kernel
theorem dX12_pairs_35 : decode cX12_pairs 35 = .ok (.iconst 1, 1) := by decide +kernel
theorem dX12_pairs_36 : decode cX12_pairs 36 = .ok (.aload_n 0, 1) := by decide +kernel
theorem dX12_pairs_37 : decode cX12_pairs 37 = .ok (.getfield 7, 3) := by decide +kernel
theorem dX12_pairs_40 : decode cX12_pairs 40 = .ok (.iconst 4, 1) := by decide +kernel
theorem dX12_pairs_41 : decode cX12_pairs 41 = .ok (.iaload, 1) := by decide +kernel
theorem dX12_pairs_42 : decode cX12_pairs 42 = .ok (.ishl, 1) := by decide +kernel
theorem dX12_pairs_43 : decode cX12_pairs 43 = .ok (.iconst 1, 1) := by decide +kernel
theorem dX12_pairs_44 : decode cX12_pairs 44 = .ok (.isub, 1) := by decide +kernel
theorem dX12_pairs_45 : decode cX12_pairs 45 = .ok (.istore_n 2, 1) := by decide +kernel
theorem dX12_pairs_46 : decode cX12_pairs 46 = .ok (.iload_n 1, 1) := by decide +kernel
theorem dX12_pairs_47 : decode cX12_pairs 47 = .ok (.iconst (-1), 1) := by decide +kernel
theorem dX12_pairs_48 : decode cX12_pairs 48 = .ok (.if_icmp .ne 10, 3) := by decide +kernel
theorem dX12_pairs_51 : decode cX12_pairs 51 = .ok (.aload_n 0, 1) := by decide +kernel
theorem dX12_pairs_52 : decode cX12_pairs 52 = .ok (.getfield 38, 3) := by decide +kernel
theorem dX12_pairs_55 : decode cX12_pairs 55 = .ok (.iload_n 2, 1) := by decide +kernel
theorem dX12_pairs_56 : decode cX12_pairs 56 = .ok (.iaload, 1) := by decide +kernel
theorem dX12_pairs_57 : decode cX12_pairs 57 = .ok (.ireturn, 1) := by decide +kernel
theorem dX12_pairs_58 : decode cX12_pairs 58 = .ok (.iload_n 2, 1) := by decide +kernel
theorem dX12_pairs_59 : decode cX12_pairs 59 = .ok (.ifCond .eq 153, 3) := by decide +kernel
theorem dX12_pairs_62 : decode cX12_pairs 62 = .ok (.iload_n 2, 1) := by decide +kernel
theorem dX12_pairs_63 : decode cX12_pairs 63 = .ok (.invokestatic 371, 3) := by decide +kernel
theorem dX12_pairs_66 : decode cX12_pairs 66 = .ok (.istore_n 3, 1) := by decide +kernel
theorem dX12_pairs_67 : decode cX12_pairs 67 = .ok (.iload_n 2, 1) := by decide +kernel
theorem dX12_pairs_68 : decode cX12_pairs 68 = .ok (.iconst 1, 1) := by decide +kernel
theorem dX12_pairs_69 : decode cX12_pairs 69 = .ok (.iload_n 3, 1) := by decide +kernel
theorem dX12_pairs_70 : decode cX12_pairs 70 = .ok (.ishl, 1) := by decide +kernel
theorem dX12_pairs_71 : decode cX12_pairs 71 = .ok (.iconst (-1), 1) := by decide +kernel
theorem dX12_pairs_72 : decode cX12_pairs 72 = .ok (.ixor, 1) := by decide +kernel
theorem dX12_pairs_73 : decode cX12_pairs 73 = .ok (.iand, 1) := by decide +kernel
theorem dX12_pairs_74 : decode cX12_pairs 74 = .ok (.istore 4, 2) := by decide +kernel
theorem dX12_pairs_76 : decode cX12_pairs 76 = .ok (.iconst (-1), 1) := by decide +kernel
theorem dX12_pairs_77 : decode cX12_pairs 77 = .ok (.istore 5, 2) := by decide +kernel
theorem dX12_pairs_79 : decode cX12_pairs 79 = .ok (.aload_n 0, 1) := by decide +kernel
theorem dX12_pairs_80 : decode cX12_pairs 80 = .ok (.getfield 7, 3) := by decide +kernel
theorem dX12_pairs_83 : decode cX12_pairs 83 = .ok (.iconst 4, 1) := by decide +kernel
theorem dX12_pairs_84 : decode cX12_pairs 84 = .ok (.iaload, 1) := by decide +kernel
theorem dX12_pairs_85 : decode cX12_pairs 85 = .ok (.iconst 1, 1) := by decide +kernel
theorem dX12_pairs_86 : decode cX12_pairs 86 = .ok (.isub, 1) := by decide +kernel
theorem dX12_pairs_87 : decode cX12_pairs 87 = .ok (.istore 6, 2) := by decide +kernel
theorem dX12_pairs_89 : decode cX12_pairs 89 = .ok (.iload 6, 2) := by decide +kernel
theorem dX12_pairs_91 : decode cX12_pairs 91 = .ok (.iload_n 3, 1) := by decide +kernel
theorem dX12_pairs_92 : decode cX12_pairs 92 = .ok (.if_icmp .le 80, 3) := by decide +kernel
theorem dX12_pairs_95 : decode cX12_pairs 95 = .ok (.aload_n 0, 1) := by decide +kernel
theorem dX12_pairs_96 : decode cX12_pairs 96 = .ok (.getfield 38, 3) := by decide +kernel
theorem dX12_pairs_99 : decode cX12_pairs 99 = .ok (.iload 4, 2) := by decide +kernel
theorem dX12_pairs_101 : decode cX12_pairs 101 = .ok (.iaload, 1) := by decide +kernel
theorem dX12_pairs_102 : decode cX12_pairs 102 = .ok (.aload_n 0, 1) := by decide +kernel
theorem dX12_pairs_103 : decode cX12_pairs 103 = .ok (.getfield 38, 3) := by decide +kernel
theorem dX12_pairs_106 : decode cX12_pairs 106 = .ok (.iload_n 2, 1) := by decide +kernel
theorem dX12_pairs_107 : decode cX12_pairs 107 = .ok (.iaload, 1) := by decide +kernel
theorem dX12_pairs_108 : decode cX12_pairs 108 = .ok (.if_icmp .eq 64, 3) := by decide +kernel
theorem dX12_pairs_111 : decode cX12_pairs 111 = .ok (.iload 4, 2) := by decide +kernel
theorem dX12_pairs_113 : decode cX12_pairs 113 = .ok (.iload 6, 2) := by decide +kernel
theorem dX12_pairs_115 : decode cX12_pairs 115 = .ok (.invokestatic 54, 3) := by decide +kernel
theorem dX12_pairs_118 : decode cX12_pairs 118 = .ok (.ifCond .eq 48, 3) := by decide +kernel
theorem dX12_pairs_121 : decode cX12_pairs 121 = .ok (.aload_n 0, 1) := by decide +kernel
theorem dX12_pairs_122 : decode cX12_pairs 122 = .ok (.iload_n 3, 1) := by decide +kernel
theorem dX12_pairs_123 : decode cX12_pairs 123 = .ok (.iload 6, 2) := by decide +kernel
theorem dX12_pairs_125 : decode cX12_pairs 125 = .ok (.invokevirtual 374, 3) := by decide +kernel
theorem dX12_pairs_128 : decode cX12_pairs 128 = .ok (.ifCond .eq 38, 3) := by decide +kernel
theorem dX12_pairs_131 : decode cX12_pairs 131 = .ok (.aload_n 0, 1) := by decide +kernel
theorem dX12_pairs_132 : decode cX12_pairs 132 = .ok (.iload_n 3, 1) := by decide +kernel
theorem dX12_pairs_133 : decode cX12_pairs 133 = .ok (.iload 6, 2) := by decide +kernel
theorem dX12_pairs_135 : decode cX12_pairs 135 = .ok (.invokevirtual 368, 3) := by decide +kernel
theorem dX12_pairs_138 : decode cX12_pairs 138 = .ok (.aload_n 0, 1) := by decide +kernel
theorem dX12_pairs_139 : decode cX12_pairs 139 = .ok (.getfield 38, 3) := by decide +kernel
theorem dX12_pairs_142 : decode cX12_pairs 142 = .ok (.iload 4, 2) := by decide +kernel
theorem dX12_pairs_144 : decode cX12_pairs 144 = .ok (.iconst 1, 1) := by decide +kernel
theorem dX12_pairs_145 : decode cX12_pairs 145 = .ok (.iload 6, 2) := by decide +kernel
theorem dX12_pairs_147 : decode cX12_pairs 147 = .ok (.ishl, 1) := by decide +kernel
theorem dX12_pairs_148 : decode cX12_pairs 148 = .ok (.iconst (-1), 1) := by decide +kernel
theorem dX12_pairs_149 : decode cX12_pairs 149 = .ok (.ixor, 1) := by decide +kernel
theorem dX12_pairs_150 : decode cX12_pairs 150 = .ok (.iand, 1) := by decide +kernel
theorem dX12_pairs_151 : decode cX12_pairs 151 = .ok (.iaload, 1) := by decide +kernel
theorem dX12_pairs_152 : decode cX12_pairs 152 = .ok (.iadd, 1) := by decide +kernel
theorem dX12_pairs_153 : decode cX12_pairs 153 = .ok (.aload_n 0, 1) := by decide +kernel
theorem dX12_pairs_154 : decode cX12_pairs 154 = .ok (.getfield 38, 3) := by decide +kernel
theorem dX12_pairs_157 : decode cX12_pairs 157 = .ok (.iload_n 2, 1) := by decide +kernel
theorem dX12_pairs_158 : decode cX12_pairs 158 = .ok (.iaload, 1) := by decide +kernel
theorem dX12_pairs_159 : decode cX12_pairs 159 = .ok (.if_icmp .ne 7, 3) := by decide +kernel
theorem dX12_pairs_162 : decode cX12_pairs 162 = .ok (.iload 6, 2) := by decide +kernel
theorem dX12_pairs_164 : decode cX12_pairs 164 = .ok (.istore 5, 2) := by decide +kernel
theorem dX12_pairs_166 : decode cX12_pairs 166 = .ok (.iinc 6 (-1), 3) := by decide +kernel
theorem dX12_pairs_169 : decode cX12_pairs 169 = .ok (.goto (-80), 3) := by decide +kernel
theorem dX12_pairs_172 : decode cX12_pairs 172 = .ok (.iload_n 3, 1) := by decide +kernel
theorem dX12_pairs_173 : decode cX12_pairs 173 = .ok (.iload_n 1, 1) := by decide +kernel
theorem dX12_pairs_174 : decode cX12_pairs 174 = .ok (.if_icmp .ne 6, 3) := by decide +kernel
theorem dX12_pairs_177 : decode cX12_pairs 177 = .ok (.iload 5, 2) := by decide +kernel
theorem dX12_pairs_179 : decode cX12_pairs 179 = .ok (.ireturn, 1) := by decide +kernel
theorem dX12_pairs_180 : decode cX12_pairs 180 = .ok (.iload 5, 2) := by decide +kernel
theorem dX12_pairs_182 : decode cX12_pairs 182 = .ok (.iload_n 1, 1) := by decide +kernel
theorem dX12_pairs_183 : decode cX12_pairs 183 = .ok (.if_icmp .ne 5, 3) := by decide +kernel
theorem dX12_pairs_186 : decode cX12_pairs 186 = .ok (.iload_n 3, 1) := by decide +kernel
theorem dX12_pairs_187 : decode cX12_pairs 187 = .ok (.ireturn, 1) := by decide +kernel
theorem dX12_pairs_188 : decode cX12_pairs 188 = .ok (.iload 5, 2) := by decide +kernel
theorem dX12_pairs_190 : decode cX12_pairs 190 = .ok (.iconst (-1), 1) := by decide +kernel
theorem dX12_pairs_191 : decode cX12_pairs 191 = .ok (.if_icmp .ne 8, 3) := by decide +kernel
theorem dX12_pairs_194 : decode cX12_pairs 194 = .ok (.iload 4, 2) := by decide +kernel
theorem dX12_pairs_196 : decode cX12_pairs 196 = .ok (.goto 12, 3) := by decide +kernel
theorem dX12_pairs_199 : decode cX12_pairs 199 = .ok (.iload 4, 2) := by decide +kernel
theorem dX12_pairs_201 : decode cX12_pairs 201 = .ok (.iconst 1, 1) := by decide +kernel
theorem dX12_pairs_202 : decode cX12_pairs 202 = .ok (.iload 5, 2) := by decide +kernel
theorem dX12_pairs_204 : decode cX12_pairs 204 = .ok (.ishl, 1) := by decide +kernel
theorem dX12_pairs_205 : decode cX12_pairs 205 = .ok (.iconst (-1), 1) := by decide +kernel
theorem dX12_pairs_206 : decode cX12_pairs 206 = .ok (.ixor, 1) := by decide +kernel
theorem dX12_pairs_207 : decode cX12_pairs 207 = .ok (.iand, 1) := by decide +kernel
theorem dX12_pairs_208 : decode cX12_pairs 208 = .ok (.istore_n 2, 1) := by decide +kernel
theorem dX12_pairs_209 : decode cX12_pairs 209 = .ok (.goto (-151), 3) := by decide +kernel
theorem dX12_pairs_212 : decode cX12_pairs 212 = .ok (.iconst (-1), 1) := by decide +kernel
theorem dX12_pairs_213 : decode cX12_pairs 213 = .ok (.ireturn, 1) := by decide +kernel
theorem dX12_isRow_0 : decode cX12_isRow 0 = .ok (.aload_n 0, 1) := by decide +kernel
theorem dX12_isRow_1 : decode cX12_isRow 1 = .ok (.getfield 22, 3) := by decide +kernel
theorem dX12_isRow_4 : decode cX12_isRow 4 = .ok (.iload_n 1, 1) := by decide +kernel
theorem dX12_isRow_5 : decode cX12_isRow 5 = .ok (.iaload, 1) := by decide +kernel
theorem dX12_isRow_6 : decode cX12_isRow 6 = .ok (.aload_n 0, 1) := by decide +kernel
theorem dX12_isRow_7 : decode cX12_isRow 7 = .ok (.getfield 7, 3) := by decide +kernel
theorem dX12_isRow_10 : decode cX12_isRow 10 = .ok (.iconst 4, 1) := by decide +kernel
theorem dX12_isRow_11 : decode cX12_isRow 11 = .ok (.iaload, 1) := by decide +kernel
theorem dX12_isRow_12 : decode cX12_isRow 12 = .ok (.if_icmp .ge 32, 3) := by decide +kernel
theorem dX12_isRow_15 : decode cX12_isRow 15 = .ok (.aload_n 0, 1) := by decide +kernel
theorem dX12_isRow_16 : decode cX12_isRow 16 = .ok (.getfield 22, 3) := by decide +kernel
theorem dX12_isRow_19 : decode cX12_isRow 19 = .ok (.iload_n 1, 1) := by decide +kernel
theorem dX12_isRow_20 : decode cX12_isRow 20 = .ok (.iconst 1, 1) := by decide +kernel
theorem dX12_isRow_21 : decode cX12_isRow 21 = .ok (.iadd, 1) := by decide +kernel
theorem dX12_isRow_22 : decode cX12_isRow 22 = .ok (.iaload, 1) := by decide +kernel
theorem dX12_isRow_23 : decode cX12_isRow 23 = .ok (.aload_n 0, 1) := by decide +kernel
theorem dX12_isRow_24 : decode cX12_isRow 24 = .ok (.getfield 7, 3) := by decide +kernel
theorem dX12_isRow_27 : decode cX12_isRow 27 = .ok (.iconst 3, 1) := by decide +kernel
theorem dX12_isRow_28 : decode cX12_isRow 28 = .ok (.iaload, 1) := by decide +kernel
theorem dX12_isRow_29 : decode cX12_isRow 29 = .ok (.if_icmp .ge 15, 3) := by decide +kernel
theorem dX12_isRow_32 : decode cX12_isRow 32 = .ok (.aload_n 0, 1) := by decide +kernel
theorem dX12_isRow_33 : decode cX12_isRow 33 = .ok (.getfield 22, 3) := by decide +kernel
theorem dX12_isRow_36 : decode cX12_isRow 36 = .ok (.iload_n 1, 1) := by decide +kernel
theorem dX12_isRow_37 : decode cX12_isRow 37 = .ok (.iconst 2, 1) := by decide +kernel
theorem dX12_isRow_38 : decode cX12_isRow 38 = .ok (.iadd, 1) := by decide +kernel
theorem dX12_isRow_39 : decode cX12_isRow 39 = .ok (.iaload, 1) := by decide +kernel
theorem dX12_isRow_40 : decode cX12_isRow 40 = .ok (.iconst 1, 1) := by decide +kernel
theorem dX12_isRow_41 : decode cX12_isRow 41 = .ok (.if_icmp .le 5, 3) := by decide +kernel
theorem dX12_isRow_44 : decode cX12_isRow 44 = .ok (.iconst 0, 1) := by decide +kernel
theorem dX12_isRow_45 : decode cX12_isRow 45 = .ok (.ireturn, 1) := by decide +kernel
theorem dX12_isRow_46 : decode cX12_isRow 46 = .ok (.aload_n 0, 1) := by decide +kernel
theorem dX12_isRow_47 : decode cX12_isRow 47 = .ok (.aload_n 0, 1) := by decide +kernel
theorem dX12_isRow_48 : decode cX12_isRow 48 = .ok (.getfield 22, 3) := by decide +kernel
theorem dX12_isRow_51 : decode cX12_isRow 51 = .ok (.iload_n 1, 1) := by decide +kernel
theorem dX12_isRow_52 : decode cX12_isRow 52 = .ok (.iconst 1, 1) := by decide +kernel
theorem dX12_isRow_53 : decode cX12_isRow 53 = .ok (.iadd, 1) := by decide +kernel
theorem dX12_isRow_54 : decode cX12_isRow 54 = .ok (.iaload, 1) := by decide +kernel
theorem dX12_isRow_55 : decode cX12_isRow 55 = .ok (.iconst 2, 1) := by decide +kernel
theorem dX12_isRow_56 : decode cX12_isRow 56 = .ok (.invokevirtual 128, 3) := by decide +kernel
theorem dX12_isRow_59 : decode cX12_isRow 59 = .ok (.iconst (-1), 1) := by decide +kernel
theorem dX12_isRow_60 : decode cX12_isRow 60 = .ok (.if_icmp .eq 29, 3) := by decide +kernel
theorem dX12_isRow_63 : decode cX12_isRow 63 = .ok (.aload_n 0, 1) := by decide +kernel
theorem dX12_isRow_64 : decode cX12_isRow 64 = .ok (.aload_n 0, 1) := by decide +kernel
theorem dX12_isRow_65 : decode cX12_isRow 65 = .ok (.getfield 22, 3) := by decide +kernel
theorem dX12_isRow_68 : decode cX12_isRow 68 = .ok (.iload_n 1, 1) := by decide +kernel
theorem dX12_isRow_69 : decode cX12_isRow 69 = .ok (.iconst 1, 1) := by decide +kernel
theorem dX12_isRow_70 : decode cX12_isRow 70 = .ok (.iadd, 1) := by decide +kernel
theorem dX12_isRow_71 : decode cX12_isRow 71 = .ok (.iaload, 1) := by decide +kernel
theorem dX12_isRow_72 : decode cX12_isRow 72 = .ok (.iconst 2, 1) := by decide +kernel
theorem dX12_isRow_73 : decode cX12_isRow 73 = .ok (.invokevirtual 128, 3) := by decide +kernel
theorem dX12_isRow_76 : decode cX12_isRow 76 = .ok (.aload_n 0, 1) := by decide +kernel
theorem dX12_isRow_77 : decode cX12_isRow 77 = .ok (.getfield 22, 3) := by decide +kernel
theorem dX12_isRow_80 : decode cX12_isRow 80 = .ok (.iload_n 1, 1) := by decide +kernel
theorem dX12_isRow_81 : decode cX12_isRow 81 = .ok (.iaload, 1) := by decide +kernel
theorem dX12_isRow_82 : decode cX12_isRow 82 = .ok (.if_icmp .eq 7, 3) := by decide +kernel
theorem dX12_isRow_85 : decode cX12_isRow 85 = .ok (.iconst 1, 1) := by decide +kernel
theorem dX12_isRow_86 : decode cX12_isRow 86 = .ok (.goto 4, 3) := by decide +kernel
theorem dX12_isRow_89 : decode cX12_isRow 89 = .ok (.iconst 0, 1) := by decide +kernel
theorem dX12_isRow_90 : decode cX12_isRow 90 = .ok (.ireturn, 1) := by decide +kernel
theorem dX12_learnt_0 : decode cX12_learnt 0 = .ok (.aload_n 0, 1) := by decide +kernel
theorem dX12_learnt_1 : decode cX12_learnt 1 = .ok (.getfield 65, 3) := by decide +kernel
theorem dX12_learnt_4 : decode cX12_learnt 4 = .ok (.istore_n 1, 1) := by decide +kernel
theorem dX12_learnt_5 : decode cX12_learnt 5 = .ok (.aload_n 0, 1) := by decide +kernel
theorem dX12_learnt_6 : decode cX12_learnt 6 = .ok (.iconst 0, 1) := by decide +kernel
theorem dX12_learnt_7 : decode cX12_learnt 7 = .ok (.putfield 65, 3) := by decide +kernel
theorem dX12_learnt_10 : decode cX12_learnt 10 = .ok (.iload_n 1, 1) := by decide +kernel
theorem dX12_learnt_11 : decode cX12_learnt 11 = .ok (.iconst 3, 1) := by decide +kernel
theorem dX12_learnt_12 : decode cX12_learnt 12 = .ok (.irem, 1) := by decide +kernel
theorem dX12_learnt_13 : decode cX12_learnt 13 = .ok (.ifCond .ne 13, 3) := by decide +kernel
theorem dX12_learnt_16 : decode cX12_learnt 16 = .ok (.iload_n 1, 1) := by decide +kernel
theorem dX12_learnt_17 : decode cX12_learnt 17 = .ok (.bipush 39, 2) := by decide +kernel
theorem dX12_learnt_19 : decode cX12_learnt 19 = .ok (.if_icmp .gt 7, 3) := by decide +kernel
theorem dX12_learnt_22 : decode cX12_learnt 22 = .ok (.iconst 1, 1) := by decide +kernel
theorem dX12_learnt_23 : decode cX12_learnt 23 = .ok (.goto 4, 3) := by decide +kernel
theorem dX12_learnt_26 : decode cX12_learnt 26 = .ok (.iconst 0, 1) := by decide +kernel
theorem dX12_learnt_27 : decode cX12_learnt 27 = .ok (.istore_n 2, 1) := by decide +kernel
theorem dX12_learnt_28 : decode cX12_learnt 28 = .ok (.iconst 0, 1) := by decide +kernel
theorem dX12_learnt_29 : decode cX12_learnt 29 = .ok (.istore_n 3, 1) := by decide +kernel
theorem dX12_learnt_30 : decode cX12_learnt 30 = .ok (.iload_n 3, 1) := by decide +kernel
theorem dX12_learnt_31 : decode cX12_learnt 31 = .ok (.iload_n 1, 1) := by decide +kernel
theorem dX12_learnt_32 : decode cX12_learnt 32 = .ok (.if_icmp .ge 19, 3) := by decide +kernel
theorem dX12_learnt_35 : decode cX12_learnt 35 = .ok (.iload_n 2, 1) := by decide +kernel
theorem dX12_learnt_36 : decode cX12_learnt 36 = .ok (.ifCond .eq 15, 3) := by decide +kernel
theorem dX12_learnt_39 : decode cX12_learnt 39 = .ok (.aload_n 0, 1) := by decide +kernel
theorem dX12_learnt_40 : decode cX12_learnt 40 = .ok (.iload_n 3, 1) := by decide +kernel
theorem dX12_learnt_41 : decode cX12_learnt 41 = .ok (.invokevirtual 380, 3) := by decide +kernel
theorem dX12_learnt_44 : decode cX12_learnt 44 = .ok (.istore_n 2, 1) := by decide +kernel
theorem dX12_learnt_45 : decode cX12_learnt 45 = .ok (.iinc 3 3, 3) := by decide +kernel
theorem dX12_learnt_48 : decode cX12_learnt 48 = .ok (.goto (-18), 3) := by decide +kernel
theorem dX12_learnt_51 : decode cX12_learnt 51 = .ok (.aload_n 0, 1) := by decide +kernel
theorem dX12_learnt_52 : decode cX12_learnt 52 = .ok (.iload_n 2, 1) := by decide +kernel
theorem dX12_learnt_53 : decode cX12_learnt 53 = .ok (.ifCond .eq 7, 3) := by decide +kernel
theorem dX12_learnt_56 : decode cX12_learnt 56 = .ok (.iconst 0, 1) := by decide +kernel
theorem dX12_learnt_57 : decode cX12_learnt 57 = .ok (.goto 4, 3) := by decide +kernel
theorem dX12_learnt_60 : decode cX12_learnt 60 = .ok (.iconst 1, 1) := by decide +kernel
theorem dX12_learnt_61 : decode cX12_learnt 61 = .ok (.putfield 47, 3) := by decide +kernel
theorem dX12_learnt_64 : decode cX12_learnt 64 = .ok (.aload_n 0, 1) := by decide +kernel
theorem dX12_learnt_65 : decode cX12_learnt 65 = .ok (.getfield 47, 3) := by decide +kernel
theorem dX12_learnt_68 : decode cX12_learnt 68 = .ok (.ifCond .le 5, 3) := by decide +kernel
theorem dX12_learnt_71 : decode cX12_learnt 71 = .ok (.iconst 0, 1) := by decide +kernel
theorem dX12_learnt_72 : decode cX12_learnt 72 = .ok (.ireturn, 1) := by decide +kernel
theorem dX12_learnt_73 : decode cX12_learnt 73 = .ok (.iconst 0, 1) := by decide +kernel
theorem dX12_learnt_74 : decode cX12_learnt 74 = .ok (.istore_n 3, 1) := by decide +kernel
theorem dX12_learnt_75 : decode cX12_learnt 75 = .ok (.iconst 1, 1) := by decide +kernel
theorem dX12_learnt_76 : decode cX12_learnt 76 = .ok (.istore 4, 2) := by decide +kernel
theorem dX12_learnt_78 : decode cX12_learnt 78 = .ok (.iload 4, 2) := by decide +kernel
theorem dX12_learnt_80 : decode cX12_learnt 80 = .ok (.bipush 10, 2) := by decide +kernel
theorem dX12_learnt_82 : decode cX12_learnt 82 = .ok (.if_icmp .ge 106, 3) := by decide +kernel
theorem dX12_learnt_85 : decode cX12_learnt 85 = .ok (.iconst 1, 1) := by decide +kernel
theorem dX12_learnt_86 : decode cX12_learnt 86 = .ok (.istore 5, 2) := by decide +kernel
theorem dX12_learnt_88 : decode cX12_learnt 88 = .ok (.iconst 0, 1) := by decide +kernel
theorem dX12_learnt_89 : decode cX12_learnt 89 = .ok (.istore 6, 2) := by decide +kernel
theorem dX12_learnt_91 : decode cX12_learnt 91 = .ok (.iload 6, 2) := by decide +kernel
theorem dX12_learnt_93 : decode cX12_learnt 93 = .ok (.iload_n 1, 1) := by decide +kernel
theorem dX12_learnt_94 : decode cX12_learnt 94 = .ok (.if_icmp .ge 72, 3) := by decide +kernel
theorem dX12_learnt_97 : decode cX12_learnt 97 = .ok (.iload 5, 2) := by decide +kernel
theorem dX12_learnt_99 : decode cX12_learnt 99 = .ok (.ifCond .eq 67, 3) := by decide +kernel
theorem dX12_learnt_102 : decode cX12_learnt 102 = .ok (.aload_n 0, 1) := by decide +kernel
theorem dX12_learnt_103 : decode cX12_learnt 103 = .ok (.aload_n 0, 1) := by decide +kernel
theorem dX12_learnt_104 : decode cX12_learnt 104 = .ok (.getfield 22, 3) := by decide +kernel
theorem dX12_learnt_107 : decode cX12_learnt 107 = .ok (.iload 6, 2) := by decide +kernel
theorem dX12_learnt_109 : decode cX12_learnt 109 = .ok (.iaload, 1) := by decide +kernel
theorem dX12_learnt_110 : decode cX12_learnt 110 = .ok (.aload_n 0, 1) := by decide +kernel
theorem dX12_learnt_111 : decode cX12_learnt 111 = .ok (.getfield 22, 3) := by decide +kernel
theorem dX12_learnt_114 : decode cX12_learnt 114 = .ok (.iload 6, 2) := by decide +kernel
theorem dX12_learnt_116 : decode cX12_learnt 116 = .ok (.iconst 1, 1) := by decide +kernel
theorem dX12_learnt_117 : decode cX12_learnt 117 = .ok (.iadd, 1) := by decide +kernel
theorem dX12_learnt_118 : decode cX12_learnt 118 = .ok (.iaload, 1) := by decide +kernel
theorem dX12_learnt_119 : decode cX12_learnt 119 = .ok (.invokevirtual 249, 3) := by decide +kernel
theorem dX12_learnt_122 : decode cX12_learnt 122 = .ok (.iload 4, 2) := by decide +kernel
theorem dX12_learnt_124 : decode cX12_learnt 124 = .ok (.if_icmp .lt 7, 3) := by decide +kernel
theorem dX12_learnt_127 : decode cX12_learnt 127 = .ok (.iconst 1, 1) := by decide +kernel
theorem dX12_learnt_128 : decode cX12_learnt 128 = .ok (.goto 4, 3) := by decide +kernel
theorem dX12_learnt_131 : decode cX12_learnt 131 = .ok (.iconst 0, 1) := by decide +kernel
theorem dX12_learnt_132 : decode cX12_learnt 132 = .ok (.aload_n 0, 1) := by decide +kernel
theorem dX12_learnt_133 : decode cX12_learnt 133 = .ok (.getfield 22, 3) := by decide +kernel
theorem dX12_learnt_136 : decode cX12_learnt 136 = .ok (.iload 6, 2) := by decide +kernel
theorem dX12_learnt_138 : decode cX12_learnt 138 = .ok (.iconst 2, 1) := by decide +kernel
theorem dX12_learnt_139 : decode cX12_learnt 139 = .ok (.iadd, 1) := by decide +kernel
theorem dX12_learnt_140 : decode cX12_learnt 140 = .ok (.iaload, 1) := by decide +kernel
theorem dX12_learnt_141 : decode cX12_learnt 141 = .ok (.iconst 1, 1) := by decide +kernel
theorem dX12_learnt_142 : decode cX12_learnt 142 = .ok (.if_icmp .ne 7, 3) := by decide +kernel
theorem dX12_learnt_145 : decode cX12_learnt 145 = .ok (.iconst 1, 1) := by decide +kernel
theorem dX12_learnt_146 : decode cX12_learnt 146 = .ok (.goto 4, 3) := by decide +kernel
theorem dX12_learnt_149 : decode cX12_learnt 149 = .ok (.iconst 0, 1) := by decide +kernel
theorem dX12_learnt_150 : decode cX12_learnt 150 = .ok (.if_icmp .ne 7, 3) := by decide +kernel
theorem dX12_learnt_153 : decode cX12_learnt 153 = .ok (.iconst 1, 1) := by decide +kernel
theorem dX12_learnt_154 : decode cX12_learnt 154 = .ok (.goto 4, 3) := by decide +kernel
theorem dX12_learnt_157 : decode cX12_learnt 157 = .ok (.iconst 0, 1) := by decide +kernel
theorem dX12_learnt_158 : decode cX12_learnt 158 = .ok (.istore 5, 2) := by decide +kernel
theorem dX12_learnt_160 : decode cX12_learnt 160 = .ok (.iinc 6 3, 3) := by decide +kernel
theorem dX12_learnt_163 : decode cX12_learnt 163 = .ok (.goto (-72), 3) := by decide +kernel
theorem dX12_learnt_166 : decode cX12_learnt 166 = .ok (.iload_n 3, 1) := by decide +kernel
theorem dX12_learnt_167 : decode cX12_learnt 167 = .ok (.iload 5, 2) := by decide +kernel
theorem dX12_learnt_169 : decode cX12_learnt 169 = .ok (.ifCond .eq 10, 3) := by decide +kernel
theorem dX12_learnt_172 : decode cX12_learnt 172 = .ok (.iconst 1, 1) := by decide +kernel
theorem dX12_learnt_173 : decode cX12_learnt 173 = .ok (.iload 4, 2) := by decide +kernel
theorem dX12_learnt_175 : decode cX12_learnt 175 = .ok (.ishl, 1) := by decide +kernel
theorem dX12_learnt_176 : decode cX12_learnt 176 = .ok (.goto 4, 3) := by decide +kernel
theorem dX12_learnt_179 : decode cX12_learnt 179 = .ok (.iconst 0, 1) := by decide +kernel
theorem dX12_learnt_180 : decode cX12_learnt 180 = .ok (.ior, 1) := by decide +kernel
theorem dX12_learnt_181 : decode cX12_learnt 181 = .ok (.istore_n 3, 1) := by decide +kernel
theorem dX12_learnt_182 : decode cX12_learnt 182 = .ok (.iinc 4 1, 3) := by decide +kernel
theorem dX12_learnt_185 : decode cX12_learnt 185 = .ok (.goto (-107), 3) := by decide +kernel
theorem dX12_learnt_188 : decode cX12_learnt 188 = .ok (.iload_n 3, 1) := by decide +kernel
theorem dX12_learnt_189 : decode cX12_learnt 189 = .ok (.ireturn, 1) := by decide +kernel
theorem dX12_share_0 : decode cX12_share 0 = .ok (.aload_n 0, 1) := by decide +kernel
theorem dX12_share_1 : decode cX12_share 1 = .ok (.aload_n 0, 1) := by decide +kernel
theorem dX12_share_2 : decode cX12_share 2 = .ok (.iload_n 1, 1) := by decide +kernel
theorem dX12_share_3 : decode cX12_share 3 = .ok (.invokevirtual 286, 3) := by decide +kernel
theorem dX12_share_6 : decode cX12_share 6 = .ok (.ifCond .ne 7, 3) := by decide +kernel
theorem dX12_share_9 : decode cX12_share 9 = .ok (.iconst 1, 1) := by decide +kernel
theorem dX12_share_10 : decode cX12_share 10 = .ok (.goto 19, 3) := by decide +kernel
theorem dX12_share_13 : decode cX12_share 13 = .ok (.iload_n 2, 1) := by decide +kernel
theorem dX12_share_14 : decode cX12_share 14 = .ok (.iconst 0, 1) := by decide +kernel
theorem dX12_share_15 : decode cX12_share 15 = .ok (.sipush 999, 3) := by decide +kernel
theorem dX12_share_18 : decode cX12_share 18 = .ok (.invokestatic 50, 3) := by decide +kernel
theorem dX12_share_21 : decode cX12_share 21 = .ok (.ifCond .ne 7, 3) := by decide +kernel
theorem dX12_share_24 : decode cX12_share 24 = .ok (.iconst 2, 1) := by decide +kernel
theorem dX12_share_25 : decode cX12_share 25 = .ok (.goto 4, 3) := by decide +kernel
theorem dX12_share_28 : decode cX12_share 28 = .ok (.iconst 0, 1) := by decide +kernel
theorem dX12_share_29 : decode cX12_share 29 = .ok (.putfield 47, 3) := by decide +kernel
theorem dX12_share_32 : decode cX12_share 32 = .ok (.aload_n 0, 1) := by decide +kernel
theorem dX12_share_33 : decode cX12_share 33 = .ok (.getfield 47, 3) := by decide +kernel
theorem dX12_share_36 : decode cX12_share 36 = .ok (.ifCond .le 5, 3) := by decide +kernel
theorem dX12_share_39 : decode cX12_share 39 = .ok (.iconst 0, 1) := by decide +kernel
theorem dX12_share_40 : decode cX12_share 40 = .ok (.ireturn, 1) := by decide +kernel
theorem dX12_share_41 : decode cX12_share 41 = .ok (.aload_n 0, 1) := by decide +kernel
theorem dX12_share_42 : decode cX12_share 42 = .ok (.invokevirtual 175, 3) := by decide +kernel
theorem dX12_share_45 : decode cX12_share 45 = .ok (.iconst 0, 1) := by decide +kernel
theorem dX12_share_46 : decode cX12_share 46 = .ok (.istore_n 3, 1) := by decide +kernel
theorem dX12_share_47 : decode cX12_share 47 = .ok (.iload_n 3, 1) := by decide +kernel
theorem dX12_share_48 : decode cX12_share 48 = .ok (.iload_n 2, 1) := by decide +kernel
theorem dX12_share_49 : decode cX12_share 49 = .ok (.if_icmp .ge 74, 3) := by decide +kernel
theorem dX12_share_52 : decode cX12_share 52 = .ok (.iconst 0, 1) := by decide +kernel
theorem dX12_share_53 : decode cX12_share 53 = .ok (.istore 4, 2) := by decide +kernel
theorem dX12_share_55 : decode cX12_share 55 = .ok (.iconst 1, 1) := by decide +kernel
theorem dX12_share_56 : decode cX12_share 56 = .ok (.istore 5, 2) := by decide +kernel
theorem dX12_share_58 : decode cX12_share 58 = .ok (.iload 5, 2) := by decide +kernel
theorem dX12_share_60 : decode cX12_share 60 = .ok (.aload_n 0, 1) := by decide +kernel
theorem dX12_share_61 : decode cX12_share 61 = .ok (.getfield 7, 3) := by decide +kernel
theorem dX12_share_64 : decode cX12_share 64 = .ok (.iconst 3, 1) := by decide +kernel
theorem dX12_share_65 : decode cX12_share 65 = .ok (.iaload, 1) := by decide +kernel
theorem dX12_share_66 : decode cX12_share 66 = .ok (.if_icmp .ge 30, 3) := by decide +kernel
theorem dX12_share_69 : decode cX12_share 69 = .ok (.aload_n 0, 1) := by decide +kernel
theorem dX12_share_70 : decode cX12_share 70 = .ok (.iload 5, 2) := by decide +kernel
theorem dX12_share_72 : decode cX12_share 72 = .ok (.iconst 0, 1) := by decide +kernel
theorem dX12_share_73 : decode cX12_share 73 = .ok (.invokevirtual 128, 3) := by decide +kernel
theorem dX12_share_76 : decode cX12_share 76 = .ok (.aload_n 0, 1) := by decide +kernel
theorem dX12_share_77 : decode cX12_share 77 = .ok (.iload 4, 2) := by decide +kernel
theorem dX12_share_79 : decode cX12_share 79 = .ok (.iconst 0, 1) := by decide +kernel
theorem dX12_share_80 : decode cX12_share 80 = .ok (.invokevirtual 128, 3) := by decide +kernel
theorem dX12_share_83 : decode cX12_share 83 = .ok (.if_icmp .ge 7, 3) := by decide +kernel
theorem dX12_share_86 : decode cX12_share 86 = .ok (.iload 5, 2) := by decide +kernel
theorem dX12_share_88 : decode cX12_share 88 = .ok (.istore 4, 2) := by decide +kernel
theorem dX12_share_90 : decode cX12_share 90 = .ok (.iinc 5 1, 3) := by decide +kernel
theorem dX12_share_93 : decode cX12_share 93 = .ok (.goto (-35), 3) := by decide +kernel
theorem dX12_share_96 : decode cX12_share 96 = .ok (.aload_n 0, 1) := by decide +kernel
theorem dX12_share_97 : decode cX12_share 97 = .ok (.iload 4, 2) := by decide +kernel
theorem dX12_share_99 : decode cX12_share 99 = .ok (.iconst 0, 1) := by decide +kernel
theorem dX12_share_100 : decode cX12_share 100 = .ok (.bipush 99, 2) := by decide +kernel
theorem dX12_share_102 : decode cX12_share 102 = .ok (.aload_n 0, 1) := by decide +kernel
theorem dX12_share_103 : decode cX12_share 103 = .ok (.iload 4, 2) := by decide +kernel
theorem dX12_share_105 : decode cX12_share 105 = .ok (.iconst 0, 1) := by decide +kernel
theorem dX12_share_106 : decode cX12_share 106 = .ok (.invokevirtual 128, 3) := by decide +kernel
theorem dX12_share_109 : decode cX12_share 109 = .ok (.iconst 1, 1) := by decide +kernel
theorem dX12_share_110 : decode cX12_share 110 = .ok (.iadd, 1) := by decide +kernel
theorem dX12_share_111 : decode cX12_share 111 = .ok (.invokestatic 256, 3) := by decide +kernel
theorem dX12_share_114 : decode cX12_share 114 = .ok (.invokevirtual 112, 3) := by decide +kernel
theorem dX12_share_117 : decode cX12_share 117 = .ok (.iinc 3 1, 3) := by decide +kernel
theorem dX12_share_120 : decode cX12_share 120 = .ok (.goto (-73), 3) := by decide +kernel
theorem dX12_share_123 : decode cX12_share 123 = .ok (.aload_n 0, 1) := by decide +kernel
theorem dX12_share_124 : decode cX12_share 124 = .ok (.iload_n 1, 1) := by decide +kernel
theorem dX12_share_125 : decode cX12_share 125 = .ok (.iconst 0, 1) := by decide +kernel
theorem dX12_share_126 : decode cX12_share 126 = .ok (.invokevirtual 128, 3) := by decide +kernel
theorem dX12_share_129 : decode cX12_share 129 = .ok (.istore_n 3, 1) := by decide +kernel
theorem dX12_share_130 : decode cX12_share 130 = .ok (.aload_n 0, 1) := by decide +kernel
theorem dX12_share_131 : decode cX12_share 131 = .ok (.invokevirtual 185, 3) := by decide +kernel
theorem dX12_share_134 : decode cX12_share 134 = .ok (.iload_n 3, 1) := by decide +kernel
theorem dX12_share_135 : decode cX12_share 135 = .ok (.ireturn, 1) := by decide +kernel
theorem dX12_hasBy_0 : decode cX12_hasBy 0 = .ok (.iload_n 3, 1) := by decide +kernel
theorem dX12_hasBy_1 : decode cX12_hasBy 1 = .ok (.iconst 1, 1) := by decide +kernel
theorem dX12_hasBy_2 : decode cX12_hasBy 2 = .ok (.if_icmp .ne 14, 3) := by decide +kernel
theorem dX12_hasBy_5 : decode cX12_hasBy 5 = .ok (.iload 4, 2) := by decide +kernel
theorem dX12_hasBy_7 : decode cX12_hasBy 7 = .ok (.ifCond .ne 7, 3) := by decide +kernel
theorem dX12_hasBy_10 : decode cX12_hasBy 10 = .ok (.iconst 4, 1) := by decide +kernel
theorem dX12_hasBy_11 : decode cX12_hasBy 11 = .ok (.goto 4, 3) := by decide +kernel
theorem dX12_hasBy_14 : decode cX12_hasBy 14 = .ok (.iconst 0, 1) := by decide +kernel
theorem dX12_hasBy_15 : decode cX12_hasBy 15 = .ok (.ireturn, 1) := by decide +kernel
theorem dX12_hasBy_16 : decode cX12_hasBy 16 = .ok (.iload 4, 2) := by decide +kernel
theorem dX12_hasBy_18 : decode cX12_hasBy 18 = .ok (.ifCond .ne 14, 3) := by decide +kernel
theorem dX12_hasBy_21 : decode cX12_hasBy 21 = .ok (.aload_n 0, 1) := by decide +kernel
theorem dX12_hasBy_22 : decode cX12_hasBy 22 = .ok (.iload_n 1, 1) := by decide +kernel
theorem dX12_hasBy_23 : decode cX12_hasBy 23 = .ok (.iload_n 2, 1) := by decide +kernel
theorem dX12_hasBy_24 : decode cX12_hasBy 24 = .ok (.invokevirtual 240, 3) := by decide +kernel
theorem dX12_hasBy_27 : decode cX12_hasBy 27 = .ok (.iconst 3, 1) := by decide +kernel
theorem dX12_hasBy_28 : decode cX12_hasBy 28 = .ok (.isub, 1) := by decide +kernel
theorem dX12_hasBy_29 : decode cX12_hasBy 29 = .ok (.goto 5, 3) := by decide +kernel
theorem dX12_hasBy_32 : decode cX12_hasBy 32 = .ok (.bipush (-2), 2) := by decide +kernel
theorem dX12_hasBy_34 : decode cX12_hasBy 34 = .ok (.ireturn, 1) := by decide +kernel
theorem dX12_rests_0 : decode cX12_rests 0 = .ok (.aload_n 0, 1) := by decide +kernel
theorem dX12_rests_1 : decode cX12_rests 1 = .ok (.iload_n 1, 1) := by decide +kernel
theorem dX12_rests_2 : decode cX12_rests 2 = .ok (.iload_n 2, 1) := by decide +kernel
theorem dX12_rests_3 : decode cX12_rests 3 = .ok (.invokevirtual 308, 3) := by decide +kernel
theorem dX12_rests_6 : decode cX12_rests 6 = .ok (.aload_n 0, 1) := by decide +kernel
theorem dX12_rests_7 : decode cX12_rests 7 = .ok (.getfield 47, 3) := by decide +kernel
theorem dX12_rests_10 : decode cX12_rests 10 = .ok (.ifCond .le 5, 3) := by decide +kernel
theorem dX12_rests_13 : decode cX12_rests 13 = .ok (.iconst 0, 1) := by decide +kernel
theorem dX12_rests_14 : decode cX12_rests 14 = .ok (.ireturn, 1) := by decide +kernel
theorem dX12_rests_15 : decode cX12_rests 15 = .ok (.iconst 0, 1) := by decide +kernel
theorem dX12_rests_16 : decode cX12_rests 16 = .ok (.istore_n 3, 1) := by decide +kernel
theorem dX12_rests_17 : decode cX12_rests 17 = .ok (.iconst 0, 1) := by decide +kernel
theorem dX12_rests_18 : decode cX12_rests 18 = .ok (.istore 4, 2) := by decide +kernel
theorem dX12_rests_20 : decode cX12_rests 20 = .ok (.iload 4, 2) := by decide +kernel
theorem dX12_rests_22 : decode cX12_rests 22 = .ok (.iconst 4, 1) := by decide +kernel
theorem dX12_rests_23 : decode cX12_rests 23 = .ok (.if_icmp .ge 78, 3) := by decide +kernel
theorem dX12_rests_26 : decode cX12_rests 26 = .ok (.iload 4, 2) := by decide +kernel
theorem dX12_rests_28 : decode cX12_rests 28 = .ok (.iconst 2, 1) := by decide +kernel
theorem dX12_rests_29 : decode cX12_rests 29 = .ok (.idiv, 1) := by decide +kernel
theorem dX12_rests_30 : decode cX12_rests 30 = .ok (.istore 5, 2) := by decide +kernel
theorem dX12_rests_32 : decode cX12_rests 32 = .ok (.iload 4, 2) := by decide +kernel
theorem dX12_rests_34 : decode cX12_rests 34 = .ok (.iconst 2, 1) := by decide +kernel
theorem dX12_rests_35 : decode cX12_rests 35 = .ok (.irem, 1) := by decide +kernel
theorem dX12_rests_36 : decode cX12_rests 36 = .ok (.istore 6, 2) := by decide +kernel
theorem dX12_rests_38 : decode cX12_rests 38 = .ok (.aload_n 0, 1) := by decide +kernel
theorem dX12_rests_39 : decode cX12_rests 39 = .ok (.iload_n 1, 1) := by decide +kernel
theorem dX12_rests_40 : decode cX12_rests 40 = .ok (.iload_n 2, 1) := by decide +kernel
theorem dX12_rests_41 : decode cX12_rests 41 = .ok (.iconst 1, 1) := by decide +kernel
theorem dX12_rests_42 : decode cX12_rests 42 = .ok (.iload 5, 2) := by decide +kernel
theorem dX12_rests_44 : decode cX12_rests 44 = .ok (.isub, 1) := by decide +kernel
theorem dX12_rests_45 : decode cX12_rests 45 = .ok (.iload 6, 2) := by decide +kernel
theorem dX12_rests_47 : decode cX12_rests 47 = .ok (.invokevirtual 383, 3) := by decide +kernel
theorem dX12_rests_50 : decode cX12_rests 50 = .ok (.aload_n 0, 1) := by decide +kernel
theorem dX12_rests_51 : decode cX12_rests 51 = .ok (.iload_n 1, 1) := by decide +kernel
theorem dX12_rests_52 : decode cX12_rests 52 = .ok (.iload_n 2, 1) := by decide +kernel
theorem dX12_rests_53 : decode cX12_rests 53 = .ok (.iload 5, 2) := by decide +kernel
theorem dX12_rests_55 : decode cX12_rests 55 = .ok (.iload 6, 2) := by decide +kernel
theorem dX12_rests_57 : decode cX12_rests 57 = .ok (.invokevirtual 383, 3) := by decide +kernel
theorem dX12_rests_60 : decode cX12_rests 60 = .ok (.if_icmp .gt 35, 3) := by decide +kernel
theorem dX12_rests_63 : decode cX12_rests 63 = .ok (.aload_n 0, 1) := by decide +kernel
theorem dX12_rests_64 : decode cX12_rests 64 = .ok (.iload_n 2, 1) := by decide +kernel
theorem dX12_rests_65 : decode cX12_rests 65 = .ok (.iload_n 1, 1) := by decide +kernel
theorem dX12_rests_66 : decode cX12_rests 66 = .ok (.iconst 1, 1) := by decide +kernel
theorem dX12_rests_67 : decode cX12_rests 67 = .ok (.iload 6, 2) := by decide +kernel
theorem dX12_rests_69 : decode cX12_rests 69 = .ok (.isub, 1) := by decide +kernel
theorem dX12_rests_70 : decode cX12_rests 70 = .ok (.iload 5, 2) := by decide +kernel
theorem dX12_rests_72 : decode cX12_rests 72 = .ok (.invokevirtual 383, 3) := by decide +kernel
theorem dX12_rests_75 : decode cX12_rests 75 = .ok (.aload_n 0, 1) := by decide +kernel
theorem dX12_rests_76 : decode cX12_rests 76 = .ok (.iload_n 2, 1) := by decide +kernel
theorem dX12_rests_77 : decode cX12_rests 77 = .ok (.iload_n 1, 1) := by decide +kernel
theorem dX12_rests_78 : decode cX12_rests 78 = .ok (.iload 6, 2) := by decide +kernel
theorem dX12_rests_80 : decode cX12_rests 80 = .ok (.iload 5, 2) := by decide +kernel
theorem dX12_rests_82 : decode cX12_rests 82 = .ok (.invokevirtual 383, 3) := by decide +kernel
theorem dX12_rests_85 : decode cX12_rests 85 = .ok (.if_icmp .gt 10, 3) := by decide +kernel
theorem dX12_rests_88 : decode cX12_rests 88 = .ok (.iload_n 3, 1) := by decide +kernel
theorem dX12_rests_89 : decode cX12_rests 89 = .ok (.iconst 1, 1) := by decide +kernel
theorem dX12_rests_90 : decode cX12_rests 90 = .ok (.iload 4, 2) := by decide +kernel
theorem dX12_rests_92 : decode cX12_rests 92 = .ok (.ishl, 1) := by decide +kernel
theorem dX12_rests_93 : decode cX12_rests 93 = .ok (.ior, 1) := by decide +kernel
theorem dX12_rests_94 : decode cX12_rests 94 = .ok (.istore_n 3, 1) := by decide +kernel
theorem dX12_rests_95 : decode cX12_rests 95 = .ok (.iinc 4 1, 3) := by decide +kernel
theorem dX12_rests_98 : decode cX12_rests 98 = .ok (.goto (-78), 3) := by decide +kernel
theorem dX12_rests_101 : decode cX12_rests 101 = .ok (.iload_n 3, 1) := by decide +kernel
theorem dX12_rests_102 : decode cX12_rests 102 = .ok (.ireturn, 1) := by decide +kernel
theorem dX12_odds_0 : decode cX12_odds 0 = .ok (.aload_n 0, 1) := by decide +kernel
theorem dX12_odds_1 : decode cX12_odds 1 = .ok (.iload_n 1, 1) := by decide +kernel
theorem dX12_odds_2 : decode cX12_odds 2 = .ok (.iconst 0, 1) := by decide +kernel
theorem dX12_odds_3 : decode cX12_odds 3 = .ok (.bipush 6, 2) := by decide +kernel
theorem dX12_odds_5 : decode cX12_odds 5 = .ok (.invokestatic 50, 3) := by decide +kernel
theorem dX12_odds_8 : decode cX12_odds 8 = .ok (.ifCond .eq 13, 3) := by decide +kernel
theorem dX12_odds_11 : decode cX12_odds 11 = .ok (.iload_n 2, 1) := by decide +kernel
theorem dX12_odds_12 : decode cX12_odds 12 = .ok (.iconst 0, 1) := by decide +kernel
theorem dX12_odds_13 : decode cX12_odds 13 = .ok (.bipush 6, 2) := by decide +kernel
theorem dX12_odds_15 : decode cX12_odds 15 = .ok (.invokestatic 50, 3) := by decide +kernel
theorem dX12_odds_18 : decode cX12_odds 18 = .ok (.ifCond .ne 7, 3) := by decide +kernel
theorem dX12_odds_21 : decode cX12_odds 21 = .ok (.iconst 1, 1) := by decide +kernel
theorem dX12_odds_22 : decode cX12_odds 22 = .ok (.goto 4, 3) := by decide +kernel
theorem dX12_odds_25 : decode cX12_odds 25 = .ok (.iconst 0, 1) := by decide +kernel
theorem dX12_odds_26 : decode cX12_odds 26 = .ok (.putfield 47, 3) := by decide +kernel
theorem dX12_odds_29 : decode cX12_odds 29 = .ok (.aload_n 0, 1) := by decide +kernel
theorem dX12_odds_30 : decode cX12_odds 30 = .ok (.getfield 47, 3) := by decide +kernel
theorem dX12_odds_33 : decode cX12_odds 33 = .ok (.ifCond .le 5, 3) := by decide +kernel
theorem dX12_odds_36 : decode cX12_odds 36 = .ok (.iconst 0, 1) := by decide +kernel
theorem dX12_odds_37 : decode cX12_odds 37 = .ok (.ireturn, 1) := by decide +kernel
theorem dX12_odds_38 : decode cX12_odds 38 = .ok (.lconst 0, 1) := by decide +kernel
theorem dX12_odds_39 : decode cX12_odds 39 = .ok (.lstore_n 3, 1) := by decide +kernel
theorem dX12_odds_40 : decode cX12_odds 40 = .ok (.lconst 1, 1) := by decide +kernel
theorem dX12_odds_41 : decode cX12_odds 41 = .ok (.lstore 5, 2) := by decide +kernel
theorem dX12_odds_43 : decode cX12_odds 43 = .ok (.iconst 0, 1) := by decide +kernel
theorem dX12_odds_44 : decode cX12_odds 44 = .ok (.istore 7, 2) := by decide +kernel
theorem dX12_odds_46 : decode cX12_odds 46 = .ok (.iload 7, 2) := by decide +kernel
theorem dX12_odds_48 : decode cX12_odds 48 = .ok (.iload_n 1, 1) := by decide +kernel
theorem dX12_odds_49 : decode cX12_odds 49 = .ok (.if_icmp .ge 17, 3) := by decide +kernel
theorem dX12_odds_52 : decode cX12_odds 52 = .ok (.lload 5, 2) := by decide +kernel
theorem dX12_odds_54 : decode cX12_odds 54 = .ok (.ldc2_w 387, 3) := by decide +kernel
theorem dX12_odds_57 : decode cX12_odds 57 = .ok (.lmul, 1) := by decide +kernel
theorem dX12_odds_58 : decode cX12_odds 58 = .ok (.lstore 5, 2) := by decide +kernel
theorem dX12_odds_60 : decode cX12_odds 60 = .ok (.iinc 7 1, 3) := by decide +kernel
theorem dX12_odds_63 : decode cX12_odds 63 = .ok (.goto (-17), 3) := by decide +kernel
theorem dX12_odds_66 : decode cX12_odds 66 = .ok (.iconst 0, 1) := by decide +kernel
theorem dX12_odds_67 : decode cX12_odds 67 = .ok (.istore 7, 2) := by decide +kernel
theorem dX12_odds_69 : decode cX12_odds 69 = .ok (.iload 7, 2) := by decide +kernel
theorem dX12_odds_71 : decode cX12_odds 71 = .ok (.iconst 1, 1) := by decide +kernel
theorem dX12_odds_72 : decode cX12_odds 72 = .ok (.iload_n 1, 1) := by decide +kernel
theorem dX12_odds_73 : decode cX12_odds 73 = .ok (.ishl, 1) := by decide +kernel
theorem dX12_odds_74 : decode cX12_odds 74 = .ok (.if_icmp .ge 82, 3) := by decide +kernel
theorem dX12_odds_77 : decode cX12_odds 77 = .ok (.iload 7, 2) := by decide +kernel
theorem dX12_odds_79 : decode cX12_odds 79 = .ok (.invokestatic 341, 3) := by decide +kernel
theorem dX12_odds_82 : decode cX12_odds 82 = .ok (.iload_n 2, 1) := by decide +kernel
theorem dX12_odds_83 : decode cX12_odds 83 = .ok (.if_icmp .ge 7, 3) := by decide +kernel
theorem dX12_odds_86 : decode cX12_odds 86 = .ok (.lconst 0, 1) := by decide +kernel
theorem dX12_odds_87 : decode cX12_odds 87 = .ok (.goto 4, 3) := by decide +kernel
theorem dX12_odds_90 : decode cX12_odds 90 = .ok (.lconst 1, 1) := by decide +kernel
theorem dX12_odds_91 : decode cX12_odds 91 = .ok (.lstore 8, 2) := by decide +kernel
theorem dX12_odds_93 : decode cX12_odds 93 = .ok (.iconst 0, 1) := by decide +kernel
theorem dX12_odds_94 : decode cX12_odds 94 = .ok (.istore 10, 2) := by decide +kernel
theorem dX12_odds_96 : decode cX12_odds 96 = .ok (.iload 10, 2) := by decide +kernel
theorem dX12_odds_98 : decode cX12_odds 98 = .ok (.iload_n 1, 1) := by decide +kernel
theorem dX12_odds_99 : decode cX12_odds 99 = .ok (.if_icmp .ge 46, 3) := by decide +kernel
theorem dX12_odds_102 : decode cX12_odds 102 = .ok (.lload 8, 2) := by decide +kernel
theorem dX12_odds_104 : decode cX12_odds 104 = .ok (.iload 7, 2) := by decide +kernel
theorem dX12_odds_106 : decode cX12_odds 106 = .ok (.iload 10, 2) := by decide +kernel
theorem dX12_odds_108 : decode cX12_odds 108 = .ok (.invokestatic 54, 3) := by decide +kernel
theorem dX12_odds_111 : decode cX12_odds 111 = .ok (.ifCond .eq 14, 3) := by decide +kernel
theorem dX12_odds_114 : decode cX12_odds 114 = .ok (.aload_n 0, 1) := by decide +kernel
theorem dX12_odds_115 : decode cX12_odds 115 = .ok (.getfield 7, 3) := by decide +kernel
theorem dX12_odds_118 : decode cX12_odds 118 = .ok (.bipush 7, 2) := by decide +kernel
theorem dX12_odds_120 : decode cX12_odds 120 = .ok (.iaload, 1) := by decide +kernel
theorem dX12_odds_121 : decode cX12_odds 121 = .ok (.i2l, 1) := by decide +kernel
theorem dX12_odds_122 : decode cX12_odds 122 = .ok (.goto 14, 3) := by decide +kernel
theorem dX12_odds_125 : decode cX12_odds 125 = .ok (.bipush 100, 2) := by decide +kernel
theorem dX12_odds_127 : decode cX12_odds 127 = .ok (.aload_n 0, 1) := by decide +kernel
theorem dX12_odds_128 : decode cX12_odds 128 = .ok (.getfield 7, 3) := by decide +kernel
theorem dX12_odds_131 : decode cX12_odds 131 = .ok (.bipush 7, 2) := by decide +kernel
theorem dX12_odds_133 : decode cX12_odds 133 = .ok (.iaload, 1) := by decide +kernel
theorem dX12_odds_134 : decode cX12_odds 134 = .ok (.isub, 1) := by decide +kernel
theorem dX12_odds_135 : decode cX12_odds 135 = .ok (.i2l, 1) := by decide +kernel
theorem dX12_odds_136 : decode cX12_odds 136 = .ok (.lmul, 1) := by decide +kernel
theorem dX12_odds_137 : decode cX12_odds 137 = .ok (.lstore 8, 2) := by decide +kernel
theorem dX12_odds_139 : decode cX12_odds 139 = .ok (.iinc 10 1, 3) := by decide +kernel
theorem dX12_odds_142 : decode cX12_odds 142 = .ok (.goto (-46), 3) := by decide +kernel
theorem dX12_odds_145 : decode cX12_odds 145 = .ok (.lload_n 3, 1) := by decide +kernel
theorem dX12_odds_146 : decode cX12_odds 146 = .ok (.lload 8, 2) := by decide +kernel
theorem dX12_odds_148 : decode cX12_odds 148 = .ok (.ladd, 1) := by decide +kernel
theorem dX12_odds_149 : decode cX12_odds 149 = .ok (.lstore_n 3, 1) := by decide +kernel
theorem dX12_odds_150 : decode cX12_odds 150 = .ok (.iinc 7 1, 3) := by decide +kernel
theorem dX12_odds_153 : decode cX12_odds 153 = .ok (.goto (-84), 3) := by decide +kernel
theorem dX12_odds_156 : decode cX12_odds 156 = .ok (.ldc2_w 389, 3) := by decide +kernel
theorem dX12_odds_159 : decode cX12_odds 159 = .ok (.lload_n 3, 1) := by decide +kernel
theorem dX12_odds_160 : decode cX12_odds 160 = .ok (.lmul, 1) := by decide +kernel
theorem dX12_odds_161 : decode cX12_odds 161 = .ok (.lload 5, 2) := by decide +kernel
theorem dX12_odds_163 : decode cX12_odds 163 = .ok (.ldiv, 1) := by decide +kernel
theorem dX12_odds_164 : decode cX12_odds 164 = .ok (.l2i, 1) := by decide +kernel
theorem dX12_odds_165 : decode cX12_odds 165 = .ok (.ireturn, 1) := by decide +kernel
theorem dX12_bright_0 : decode cX12_bright 0 = .ok (.aload_n 0, 1) := by decide +kernel
theorem dX12_bright_1 : decode cX12_bright 1 = .ok (.iconst 0, 1) := by decide +kernel
theorem dX12_bright_2 : decode cX12_bright 2 = .ok (.putfield 47, 3) := by decide +kernel
theorem dX12_bright_5 : decode cX12_bright 5 = .ok (.aload_n 0, 1) := by decide +kernel
theorem dX12_bright_6 : decode cX12_bright 6 = .ok (.invokevirtual 324, 3) := by decide +kernel
theorem dX12_bright_9 : decode cX12_bright 9 = .ok (.ireturn, 1) := by decide +kernel
theorem dX12_gloom_0 : decode cX12_gloom 0 = .ok (.aload_n 0, 1) := by decide +kernel
theorem dX12_gloom_1 : decode cX12_gloom 1 = .ok (.iconst 0, 1) := by decide +kernel
theorem dX12_gloom_2 : decode cX12_gloom 2 = .ok (.putfield 47, 3) := by decide +kernel
theorem dX12_gloom_5 : decode cX12_gloom 5 = .ok (.iconst (-1), 1) := by decide +kernel
theorem dX12_gloom_6 : decode cX12_gloom 6 = .ok (.istore_n 1, 1) := by decide +kernel
theorem dX12_gloom_7 : decode cX12_gloom 7 = .ok (.iconst 0, 1) := by decide +kernel
theorem dX12_gloom_8 : decode cX12_gloom 8 = .ok (.istore_n 2, 1) := by decide +kernel
theorem dX12_gloom_9 : decode cX12_gloom 9 = .ok (.iload_n 2, 1) := by decide +kernel
theorem dX12_gloom_10 : decode cX12_gloom 10 = .ok (.aload_n 0, 1) := by decide +kernel
theorem dX12_gloom_11 : decode cX12_gloom 11 = .ok (.getfield 7, 3) := by decide +kernel
theorem dX12_gloom_14 : decode cX12_gloom 14 = .ok (.iconst 3, 1) := by decide +kernel
theorem dX12_gloom_15 : decode cX12_gloom 15 = .ok (.iaload, 1) := by decide +kernel
theorem dX12_gloom_16 : decode cX12_gloom 16 = .ok (.if_icmp .ge 31, 3) := by decide +kernel
theorem dX12_gloom_19 : decode cX12_gloom 19 = .ok (.iload_n 1, 1) := by decide +kernel
theorem dX12_gloom_20 : decode cX12_gloom 20 = .ok (.iconst (-1), 1) := by decide +kernel
theorem dX12_gloom_21 : decode cX12_gloom 21 = .ok (.if_icmp .eq 18, 3) := by decide +kernel
theorem dX12_gloom_24 : decode cX12_gloom 24 = .ok (.aload_n 0, 1) := by decide +kernel
theorem dX12_gloom_25 : decode cX12_gloom 25 = .ok (.iload_n 2, 1) := by decide +kernel
theorem dX12_gloom_26 : decode cX12_gloom 26 = .ok (.iconst 3, 1) := by decide +kernel
theorem dX12_gloom_27 : decode cX12_gloom 27 = .ok (.invokevirtual 128, 3) := by decide +kernel
theorem dX12_gloom_30 : decode cX12_gloom 30 = .ok (.aload_n 0, 1) := by decide +kernel
theorem dX12_gloom_31 : decode cX12_gloom 31 = .ok (.iload_n 1, 1) := by decide +kernel
theorem dX12_gloom_32 : decode cX12_gloom 32 = .ok (.iconst 3, 1) := by decide +kernel
theorem dX12_gloom_33 : decode cX12_gloom 33 = .ok (.invokevirtual 128, 3) := by decide +kernel
theorem dX12_gloom_36 : decode cX12_gloom 36 = .ok (.if_icmp .le 5, 3) := by decide +kernel
theorem dX12_gloom_39 : decode cX12_gloom 39 = .ok (.iload_n 2, 1) := by decide +kernel
theorem dX12_gloom_40 : decode cX12_gloom 40 = .ok (.istore_n 1, 1) := by decide +kernel
theorem dX12_gloom_41 : decode cX12_gloom 41 = .ok (.iinc 2 1, 3) := by decide +kernel
theorem dX12_gloom_44 : decode cX12_gloom 44 = .ok (.goto (-35), 3) := by decide +kernel
theorem dX12_gloom_47 : decode cX12_gloom 47 = .ok (.iload_n 1, 1) := by decide +kernel
theorem dX12_gloom_48 : decode cX12_gloom 48 = .ok (.ireturn, 1) := by decide +kernel
theorem dX12_lamplighter_0 : decode cX12_lamplighter 0 = .ok (.aload_n 0, 1) := by decide +kernel
theorem dX12_lamplighter_1 : decode cX12_lamplighter 1 = .ok (.iconst 0, 1) := by decide +kernel
theorem dX12_lamplighter_2 : decode cX12_lamplighter 2 = .ok (.putfield 47, 3) := by decide +kernel
theorem dX12_lamplighter_5 : decode cX12_lamplighter 5 = .ok (.iconst (-1), 1) := by decide +kernel
theorem dX12_lamplighter_6 : decode cX12_lamplighter 6 = .ok (.istore_n 1, 1) := by decide +kernel
theorem dX12_lamplighter_7 : decode cX12_lamplighter 7 = .ok (.iconst 0, 1) := by decide +kernel
theorem dX12_lamplighter_8 : decode cX12_lamplighter 8 = .ok (.istore_n 2, 1) := by decide +kernel
theorem dX12_lamplighter_9 : decode cX12_lamplighter 9 = .ok (.iload_n 2, 1) := by decide +kernel
theorem dX12_lamplighter_10 : decode cX12_lamplighter 10 = .ok (.aload_n 0, 1) := by decide +kernel
theorem dX12_lamplighter_11 : decode cX12_lamplighter 11 = .ok (.getfield 7, 3) := by decide +kernel
theorem dX12_lamplighter_14 : decode cX12_lamplighter 14 = .ok (.iconst 4, 1) := by decide +kernel
theorem dX12_lamplighter_15 : decode cX12_lamplighter 15 = .ok (.iaload, 1) := by decide +kernel
theorem dX12_lamplighter_16 : decode cX12_lamplighter 16 = .ok (.if_icmp .ge 35, 3) := by decide +kernel
theorem dX12_lamplighter_19 : decode cX12_lamplighter 19 = .ok (.aload_n 0, 1) := by decide +kernel
theorem dX12_lamplighter_20 : decode cX12_lamplighter 20 = .ok (.iload_n 2, 1) := by decide +kernel
theorem dX12_lamplighter_21 : decode cX12_lamplighter 21 = .ok (.iconst 3, 1) := by decide +kernel
theorem dX12_lamplighter_22 : decode cX12_lamplighter 22 = .ok (.invokevirtual 243, 3) := by decide +kernel
theorem dX12_lamplighter_25 : decode cX12_lamplighter 25 = .ok (.iload_n 1, 1) := by decide +kernel
theorem dX12_lamplighter_26 : decode cX12_lamplighter 26 = .ok (.iconst (-1), 1) := by decide +kernel
theorem dX12_lamplighter_27 : decode cX12_lamplighter 27 = .ok (.if_icmp .ne 7, 3) := by decide +kernel
theorem dX12_lamplighter_30 : decode cX12_lamplighter 30 = .ok (.iconst 0, 1) := by decide +kernel
theorem dX12_lamplighter_31 : decode cX12_lamplighter 31 = .ok (.goto 9, 3) := by decide +kernel
theorem dX12_lamplighter_34 : decode cX12_lamplighter 34 = .ok (.aload_n 0, 1) := by decide +kernel
theorem dX12_lamplighter_35 : decode cX12_lamplighter 35 = .ok (.iload_n 1, 1) := by decide +kernel
theorem dX12_lamplighter_36 : decode cX12_lamplighter 36 = .ok (.iconst 3, 1) := by decide +kernel
theorem dX12_lamplighter_37 : decode cX12_lamplighter 37 = .ok (.invokevirtual 243, 3) := by decide +kernel
theorem dX12_lamplighter_40 : decode cX12_lamplighter 40 = .ok (.if_icmp .le 5, 3) := by decide +kernel
theorem dX12_lamplighter_43 : decode cX12_lamplighter 43 = .ok (.iload_n 2, 1) := by decide +kernel
theorem dX12_lamplighter_44 : decode cX12_lamplighter 44 = .ok (.istore_n 1, 1) := by decide +kernel
theorem dX12_lamplighter_45 : decode cX12_lamplighter 45 = .ok (.iinc 2 1, 3) := by decide +kernel
theorem dX12_lamplighter_48 : decode cX12_lamplighter 48 = .ok (.goto (-39), 3) := by decide +kernel
theorem dX12_lamplighter_51 : decode cX12_lamplighter 51 = .ok (.iload_n 1, 1) := by decide +kernel
theorem dX12_lamplighter_52 : decode cX12_lamplighter 52 = .ok (.ireturn, 1) := by decide +kernel
theorem dX12_spent_0 : decode cX12_spent 0 = .ok (.aload_n 0, 1) := by decide +kernel
theorem dX12_spent_1 : decode cX12_spent 1 = .ok (.iconst 0, 1) := by decide +kernel
theorem dX12_spent_2 : decode cX12_spent 2 = .ok (.putfield 47, 3) := by decide +kernel
theorem dX12_spent_5 : decode cX12_spent 5 = .ok (.iconst 0, 1) := by decide +kernel
theorem dX12_spent_6 : decode cX12_spent 6 = .ok (.istore_n 1, 1) := by decide +kernel
theorem dX12_spent_7 : decode cX12_spent 7 = .ok (.iconst 0, 1) := by decide +kernel
theorem dX12_spent_8 : decode cX12_spent 8 = .ok (.istore_n 2, 1) := by decide +kernel
theorem dX12_spent_9 : decode cX12_spent 9 = .ok (.iload_n 2, 1) := by decide +kernel
theorem dX12_spent_10 : decode cX12_spent 10 = .ok (.aload_n 0, 1) := by decide +kernel
theorem dX12_spent_11 : decode cX12_spent 11 = .ok (.getfield 7, 3) := by decide +kernel
theorem dX12_spent_14 : decode cX12_spent 14 = .ok (.iconst 4, 1) := by decide +kernel
theorem dX12_spent_15 : decode cX12_spent 15 = .ok (.iaload, 1) := by decide +kernel
theorem dX12_spent_16 : decode cX12_spent 16 = .ok (.if_icmp .ge 28, 3) := by decide +kernel
theorem dX12_spent_19 : decode cX12_spent 19 = .ok (.iload_n 1, 1) := by decide +kernel
theorem dX12_spent_20 : decode cX12_spent 20 = .ok (.aload_n 0, 1) := by decide +kernel
theorem dX12_spent_21 : decode cX12_spent 21 = .ok (.iload_n 2, 1) := by decide +kernel
theorem dX12_spent_22 : decode cX12_spent 22 = .ok (.iconst 1, 1) := by decide +kernel
theorem dX12_spent_23 : decode cX12_spent 23 = .ok (.invokevirtual 243, 3) := by decide +kernel
theorem dX12_spent_26 : decode cX12_spent 26 = .ok (.ifCond .ne 9, 3) := by decide +kernel
theorem dX12_spent_29 : decode cX12_spent 29 = .ok (.iconst 1, 1) := by decide +kernel
theorem dX12_spent_30 : decode cX12_spent 30 = .ok (.iload_n 2, 1) := by decide +kernel
theorem dX12_spent_31 : decode cX12_spent 31 = .ok (.ishl, 1) := by decide +kernel
theorem dX12_spent_32 : decode cX12_spent 32 = .ok (.goto 4, 3) := by decide +kernel
theorem dX12_spent_35 : decode cX12_spent 35 = .ok (.iconst 0, 1) := by decide +kernel
theorem dX12_spent_36 : decode cX12_spent 36 = .ok (.ior, 1) := by decide +kernel
theorem dX12_spent_37 : decode cX12_spent 37 = .ok (.istore_n 1, 1) := by decide +kernel
theorem dX12_spent_38 : decode cX12_spent 38 = .ok (.iinc 2 1, 3) := by decide +kernel
theorem dX12_spent_41 : decode cX12_spent 41 = .ok (.goto (-32), 3) := by decide +kernel
theorem dX12_spent_44 : decode cX12_spent 44 = .ok (.iload_n 1, 1) := by decide +kernel
theorem dX12_spent_45 : decode cX12_spent 45 = .ok (.ireturn, 1) := by decide +kernel
theorem dX12_crowdAt_0 : decode cX12_crowdAt 0 = .ok (.iconst 0, 1) := by decide +kernel
theorem dX12_crowdAt_1 : decode cX12_crowdAt 1 = .ok (.istore_n 2, 1) := by decide +kernel
theorem dX12_crowdAt_2 : decode cX12_crowdAt 2 = .ok (.iconst 0, 1) := by decide +kernel
theorem dX12_crowdAt_3 : decode cX12_crowdAt 3 = .ok (.istore_n 3, 1) := by decide +kernel
theorem dX12_crowdAt_4 : decode cX12_crowdAt 4 = .ok (.iload_n 3, 1) := by decide +kernel
theorem dX12_crowdAt_5 : decode cX12_crowdAt 5 = .ok (.aload_n 0, 1) := by decide +kernel
theorem dX12_crowdAt_6 : decode cX12_crowdAt 6 = .ok (.getfield 7, 3) := by decide +kernel
theorem dX12_crowdAt_9 : decode cX12_crowdAt 9 = .ok (.iconst 4, 1) := by decide +kernel
theorem dX12_crowdAt_10 : decode cX12_crowdAt 10 = .ok (.iaload, 1) := by decide +kernel
theorem dX12_crowdAt_11 : decode cX12_crowdAt 11 = .ok (.if_icmp .ge 27, 3) := by decide +kernel
theorem dX12_crowdAt_14 : decode cX12_crowdAt 14 = .ok (.iload_n 2, 1) := by decide +kernel
theorem dX12_crowdAt_15 : decode cX12_crowdAt 15 = .ok (.aload_n 0, 1) := by decide +kernel
theorem dX12_crowdAt_16 : decode cX12_crowdAt 16 = .ok (.iload_n 3, 1) := by decide +kernel
theorem dX12_crowdAt_17 : decode cX12_crowdAt 17 = .ok (.iconst 0, 1) := by decide +kernel
theorem dX12_crowdAt_18 : decode cX12_crowdAt 18 = .ok (.invokevirtual 243, 3) := by decide +kernel
theorem dX12_crowdAt_21 : decode cX12_crowdAt 21 = .ok (.iload_n 1, 1) := by decide +kernel
theorem dX12_crowdAt_22 : decode cX12_crowdAt 22 = .ok (.if_icmp .ne 7, 3) := by decide +kernel
theorem dX12_crowdAt_25 : decode cX12_crowdAt 25 = .ok (.iconst 1, 1) := by decide +kernel
theorem dX12_crowdAt_26 : decode cX12_crowdAt 26 = .ok (.goto 4, 3) := by decide +kernel
theorem dX12_crowdAt_29 : decode cX12_crowdAt 29 = .ok (.iconst 0, 1) := by decide +kernel
theorem dX12_crowdAt_30 : decode cX12_crowdAt 30 = .ok (.iadd, 1) := by decide +kernel
theorem dX12_crowdAt_31 : decode cX12_crowdAt 31 = .ok (.istore_n 2, 1) := by decide +kernel
theorem dX12_crowdAt_32 : decode cX12_crowdAt 32 = .ok (.iinc 3 1, 3) := by decide +kernel
theorem dX12_crowdAt_35 : decode cX12_crowdAt 35 = .ok (.goto (-31), 3) := by decide +kernel
theorem dX12_crowdAt_38 : decode cX12_crowdAt 38 = .ok (.iload_n 2, 1) := by decide +kernel
theorem dX12_crowdAt_39 : decode cX12_crowdAt 39 = .ok (.ireturn, 1) := by decide +kernel
theorem dX12_crowd_0 : decode cX12_crowd 0 = .ok (.aload_n 0, 1) := by decide +kernel
theorem dX12_crowd_1 : decode cX12_crowd 1 = .ok (.iconst 0, 1) := by decide +kernel
theorem dX12_crowd_2 : decode cX12_crowd 2 = .ok (.putfield 47, 3) := by decide +kernel
theorem dX12_crowd_5 : decode cX12_crowd 5 = .ok (.iconst (-1), 1) := by decide +kernel
theorem dX12_crowd_6 : decode cX12_crowd 6 = .ok (.istore_n 1, 1) := by decide +kernel
theorem dX12_crowd_7 : decode cX12_crowd 7 = .ok (.iconst 0, 1) := by decide +kernel
theorem dX12_crowd_8 : decode cX12_crowd 8 = .ok (.istore_n 2, 1) := by decide +kernel
theorem dX12_crowd_9 : decode cX12_crowd 9 = .ok (.iload_n 2, 1) := by decide +kernel
theorem dX12_crowd_10 : decode cX12_crowd 10 = .ok (.aload_n 0, 1) := by decide +kernel
theorem dX12_crowd_11 : decode cX12_crowd 11 = .ok (.getfield 7, 3) := by decide +kernel
theorem dX12_crowd_14 : decode cX12_crowd 14 = .ok (.iconst 3, 1) := by decide +kernel
theorem dX12_crowd_15 : decode cX12_crowd 15 = .ok (.iaload, 1) := by decide +kernel
theorem dX12_crowd_16 : decode cX12_crowd 16 = .ok (.if_icmp .ge 38, 3) := by decide +kernel
theorem dX12_crowd_19 : decode cX12_crowd 19 = .ok (.aload_n 0, 1) := by decide +kernel
theorem dX12_crowd_20 : decode cX12_crowd 20 = .ok (.getfield 7, 3) := by decide +kernel
theorem dX12_crowd_23 : decode cX12_crowd 23 = .ok (.iconst 4, 1) := by decide +kernel
theorem dX12_crowd_24 : decode cX12_crowd 24 = .ok (.iaload, 1) := by decide +kernel
theorem dX12_crowd_25 : decode cX12_crowd 25 = .ok (.ifCond .le 29, 3) := by decide +kernel
theorem dX12_crowd_28 : decode cX12_crowd 28 = .ok (.iload_n 1, 1) := by decide +kernel
theorem dX12_crowd_29 : decode cX12_crowd 29 = .ok (.iconst (-1), 1) := by decide +kernel
theorem dX12_crowd_30 : decode cX12_crowd 30 = .ok (.if_icmp .eq 16, 3) := by decide +kernel
theorem dX12_crowd_33 : decode cX12_crowd 33 = .ok (.aload_n 0, 1) := by decide +kernel
theorem dX12_crowd_34 : decode cX12_crowd 34 = .ok (.iload_n 2, 1) := by decide +kernel
theorem dX12_crowd_35 : decode cX12_crowd 35 = .ok (.invokevirtual 391, 3) := by decide +kernel
theorem dX12_crowd_38 : decode cX12_crowd 38 = .ok (.aload_n 0, 1) := by decide +kernel
theorem dX12_crowd_39 : decode cX12_crowd 39 = .ok (.iload_n 1, 1) := by decide +kernel
theorem dX12_crowd_40 : decode cX12_crowd 40 = .ok (.invokevirtual 391, 3) := by decide +kernel
theorem dX12_crowd_43 : decode cX12_crowd 43 = .ok (.if_icmp .le 5, 3) := by decide +kernel
theorem dX12_crowd_46 : decode cX12_crowd 46 = .ok (.iload_n 2, 1) := by decide +kernel
theorem dX12_crowd_47 : decode cX12_crowd 47 = .ok (.istore_n 1, 1) := by decide +kernel
theorem dX12_crowd_48 : decode cX12_crowd 48 = .ok (.iinc 2 1, 3) := by decide +kernel
theorem dX12_crowd_51 : decode cX12_crowd 51 = .ok (.goto (-42), 3) := by decide +kernel
theorem dX12_crowd_54 : decode cX12_crowd 54 = .ok (.iload_n 1, 1) := by decide +kernel
theorem dX12_crowd_55 : decode cX12_crowd 55 = .ok (.ireturn, 1) := by decide +kernel
theorem dX12_alike_0 : decode cX12_alike 0 = .ok (.aload_n 0, 1) := by decide +kernel
theorem dX12_alike_1 : decode cX12_alike 1 = .ok (.iconst 0, 1) := by decide +kernel
theorem dX12_alike_2 : decode cX12_alike 2 = .ok (.putfield 47, 3) := by decide +kernel
theorem dX12_alike_5 : decode cX12_alike 5 = .ok (.iconst 0, 1) := by decide +kernel
theorem dX12_alike_6 : decode cX12_alike 6 = .ok (.istore_n 1, 1) := by decide +kernel
theorem dX12_alike_7 : decode cX12_alike 7 = .ok (.iconst 0, 1) := by decide +kernel
theorem dX12_alike_8 : decode cX12_alike 8 = .ok (.istore_n 2, 1) := by decide +kernel
theorem dX12_alike_9 : decode cX12_alike 9 = .ok (.iload_n 2, 1) := by decide +kernel
theorem dX12_alike_10 : decode cX12_alike 10 = .ok (.aload_n 0, 1) := by decide +kernel
theorem dX12_alike_11 : decode cX12_alike 11 = .ok (.getfield 7, 3) := by decide +kernel
theorem dX12_alike_14 : decode cX12_alike 14 = .ok (.iconst 4, 1) := by decide +kernel
theorem dX12_alike_15 : decode cX12_alike 15 = .ok (.iaload, 1) := by decide +kernel
theorem dX12_alike_16 : decode cX12_alike 16 = .ok (.if_icmp .ge 67, 3) := by decide +kernel
theorem dX12_alike_19 : decode cX12_alike 19 = .ok (.iload_n 2, 1) := by decide +kernel
theorem dX12_alike_20 : decode cX12_alike 20 = .ok (.iconst 1, 1) := by decide +kernel
theorem dX12_alike_21 : decode cX12_alike 21 = .ok (.iadd, 1) := by decide +kernel
theorem dX12_alike_22 : decode cX12_alike 22 = .ok (.istore_n 3, 1) := by decide +kernel
theorem dX12_alike_23 : decode cX12_alike 23 = .ok (.iload_n 3, 1) := by decide +kernel
theorem dX12_alike_24 : decode cX12_alike 24 = .ok (.aload_n 0, 1) := by decide +kernel
theorem dX12_alike_25 : decode cX12_alike 25 = .ok (.getfield 7, 3) := by decide +kernel
theorem dX12_alike_28 : decode cX12_alike 28 = .ok (.iconst 4, 1) := by decide +kernel
theorem dX12_alike_29 : decode cX12_alike 29 = .ok (.iaload, 1) := by decide +kernel
theorem dX12_alike_30 : decode cX12_alike 30 = .ok (.if_icmp .ge 47, 3) := by decide +kernel
theorem dX12_alike_33 : decode cX12_alike 33 = .ok (.iload_n 1, 1) := by decide +kernel
theorem dX12_alike_34 : decode cX12_alike 34 = .ok (.aload_n 0, 1) := by decide +kernel
theorem dX12_alike_35 : decode cX12_alike 35 = .ok (.iload_n 2, 1) := by decide +kernel
theorem dX12_alike_36 : decode cX12_alike 36 = .ok (.iconst 1, 1) := by decide +kernel
theorem dX12_alike_37 : decode cX12_alike 37 = .ok (.invokevirtual 243, 3) := by decide +kernel
theorem dX12_alike_40 : decode cX12_alike 40 = .ok (.aload_n 0, 1) := by decide +kernel
theorem dX12_alike_41 : decode cX12_alike 41 = .ok (.iload_n 3, 1) := by decide +kernel
theorem dX12_alike_42 : decode cX12_alike 42 = .ok (.iconst 1, 1) := by decide +kernel
theorem dX12_alike_43 : decode cX12_alike 43 = .ok (.invokevirtual 243, 3) := by decide +kernel
theorem dX12_alike_46 : decode cX12_alike 46 = .ok (.if_icmp .ne 22, 3) := by decide +kernel
theorem dX12_alike_49 : decode cX12_alike 49 = .ok (.aload_n 0, 1) := by decide +kernel
theorem dX12_alike_50 : decode cX12_alike 50 = .ok (.iload_n 2, 1) := by decide +kernel
theorem dX12_alike_51 : decode cX12_alike 51 = .ok (.iconst 0, 1) := by decide +kernel
theorem dX12_alike_52 : decode cX12_alike 52 = .ok (.invokevirtual 243, 3) := by decide +kernel
theorem dX12_alike_55 : decode cX12_alike 55 = .ok (.aload_n 0, 1) := by decide +kernel
theorem dX12_alike_56 : decode cX12_alike 56 = .ok (.iload_n 3, 1) := by decide +kernel
theorem dX12_alike_57 : decode cX12_alike 57 = .ok (.iconst 0, 1) := by decide +kernel
theorem dX12_alike_58 : decode cX12_alike 58 = .ok (.invokevirtual 243, 3) := by decide +kernel
theorem dX12_alike_61 : decode cX12_alike 61 = .ok (.if_icmp .ne 7, 3) := by decide +kernel
theorem dX12_alike_64 : decode cX12_alike 64 = .ok (.iconst 1, 1) := by decide +kernel
theorem dX12_alike_65 : decode cX12_alike 65 = .ok (.goto 4, 3) := by decide +kernel
theorem dX12_alike_68 : decode cX12_alike 68 = .ok (.iconst 0, 1) := by decide +kernel
theorem dX12_alike_69 : decode cX12_alike 69 = .ok (.iadd, 1) := by decide +kernel
theorem dX12_alike_70 : decode cX12_alike 70 = .ok (.istore_n 1, 1) := by decide +kernel
theorem dX12_alike_71 : decode cX12_alike 71 = .ok (.iinc 3 1, 3) := by decide +kernel
theorem dX12_alike_74 : decode cX12_alike 74 = .ok (.goto (-51), 3) := by decide +kernel
theorem dX12_alike_77 : decode cX12_alike 77 = .ok (.iinc 2 1, 3) := by decide +kernel
theorem dX12_alike_80 : decode cX12_alike 80 = .ok (.goto (-71), 3) := by decide +kernel
theorem dX12_alike_83 : decode cX12_alike 83 = .ok (.iload_n 1, 1) := by decide +kernel
theorem dX12_alike_84 : decode cX12_alike 84 = .ok (.ireturn, 1) := by decide +kernel
theorem dX12_ahead_0 : decode cX12_ahead 0 = .ok (.aload_n 0, 1) := by decide +kernel
theorem dX12_ahead_1 : decode cX12_ahead 1 = .ok (.aload_n 0, 1) := by decide +kernel
theorem dX12_ahead_2 : decode cX12_ahead 2 = .ok (.iload_n 1, 1) := by decide +kernel
theorem dX12_ahead_3 : decode cX12_ahead 3 = .ok (.invokevirtual 286, 3) := by decide +kernel
theorem dX12_ahead_6 : decode cX12_ahead 6 = .ok (.ifCond .ne 7, 3) := by decide +kernel
theorem dX12_ahead_9 : decode cX12_ahead 9 = .ok (.iconst 1, 1) := by decide +kernel
theorem dX12_ahead_10 : decode cX12_ahead 10 = .ok (.goto 31, 3) := by decide +kernel
theorem dX12_ahead_13 : decode cX12_ahead 13 = .ok (.iload_n 2, 1) := by decide +kernel
theorem dX12_ahead_14 : decode cX12_ahead 14 = .ok (.iconst 0, 1) := by decide +kernel
theorem dX12_ahead_15 : decode cX12_ahead 15 = .ok (.bipush 60, 2) := by decide +kernel
theorem dX12_ahead_17 : decode cX12_ahead 17 = .ok (.invokestatic 50, 3) := by decide +kernel
theorem dX12_ahead_20 : decode cX12_ahead 20 = .ok (.ifCond .ne 7, 3) := by decide +kernel
theorem dX12_ahead_23 : decode cX12_ahead 23 = .ok (.iconst 2, 1) := by decide +kernel
theorem dX12_ahead_24 : decode cX12_ahead 24 = .ok (.goto 17, 3) := by decide +kernel
theorem dX12_ahead_27 : decode cX12_ahead 27 = .ok (.iload_n 3, 1) := by decide +kernel
theorem dX12_ahead_28 : decode cX12_ahead 28 = .ok (.iconst 0, 1) := by decide +kernel
theorem dX12_ahead_29 : decode cX12_ahead 29 = .ok (.iconst 2, 1) := by decide +kernel
theorem dX12_ahead_30 : decode cX12_ahead 30 = .ok (.invokestatic 50, 3) := by decide +kernel
theorem dX12_ahead_33 : decode cX12_ahead 33 = .ok (.ifCond .ne 7, 3) := by decide +kernel
theorem dX12_ahead_36 : decode cX12_ahead 36 = .ok (.iconst 3, 1) := by decide +kernel
theorem dX12_ahead_37 : decode cX12_ahead 37 = .ok (.goto 4, 3) := by decide +kernel
theorem dX12_ahead_40 : decode cX12_ahead 40 = .ok (.iconst 0, 1) := by decide +kernel
theorem dX12_ahead_41 : decode cX12_ahead 41 = .ok (.putfield 47, 3) := by decide +kernel
theorem dX12_ahead_44 : decode cX12_ahead 44 = .ok (.aload_n 0, 1) := by decide +kernel
theorem dX12_ahead_45 : decode cX12_ahead 45 = .ok (.getfield 47, 3) := by decide +kernel
theorem dX12_ahead_48 : decode cX12_ahead 48 = .ok (.ifCond .le 5, 3) := by decide +kernel
theorem dX12_ahead_51 : decode cX12_ahead 51 = .ok (.iconst 0, 1) := by decide +kernel
theorem dX12_ahead_52 : decode cX12_ahead 52 = .ok (.ireturn, 1) := by decide +kernel
theorem dX12_ahead_53 : decode cX12_ahead 53 = .ok (.aload_n 0, 1) := by decide +kernel
theorem dX12_ahead_54 : decode cX12_ahead 54 = .ok (.invokevirtual 175, 3) := by decide +kernel
theorem dX12_ahead_57 : decode cX12_ahead 57 = .ok (.aload_n 0, 1) := by decide +kernel
theorem dX12_ahead_58 : decode cX12_ahead 58 = .ok (.iload_n 2, 1) := by decide +kernel
theorem dX12_ahead_59 : decode cX12_ahead 59 = .ok (.iconst 0, 1) := by decide +kernel
theorem dX12_ahead_60 : decode cX12_ahead 60 = .ok (.invokevirtual 318, 3) := by decide +kernel
theorem dX12_ahead_63 : decode cX12_ahead 63 = .ok (.istore 4, 2) := by decide +kernel
theorem dX12_ahead_65 : decode cX12_ahead 65 = .ok (.aload_n 0, 1) := by decide +kernel
theorem dX12_ahead_66 : decode cX12_ahead 66 = .ok (.iload_n 1, 1) := by decide +kernel
theorem dX12_ahead_67 : decode cX12_ahead 67 = .ok (.iload_n 3, 1) := by decide +kernel
theorem dX12_ahead_68 : decode cX12_ahead 68 = .ok (.ifCond .ne 7, 3) := by decide +kernel
theorem dX12_ahead_71 : decode cX12_ahead 71 = .ok (.iconst 0, 1) := by decide +kernel
theorem dX12_ahead_72 : decode cX12_ahead 72 = .ok (.goto 13, 3) := by decide +kernel
theorem dX12_ahead_75 : decode cX12_ahead 75 = .ok (.iload_n 3, 1) := by decide +kernel
theorem dX12_ahead_76 : decode cX12_ahead 76 = .ok (.iconst 1, 1) := by decide +kernel
theorem dX12_ahead_77 : decode cX12_ahead 77 = .ok (.if_icmp .ne 7, 3) := by decide +kernel
theorem dX12_ahead_80 : decode cX12_ahead 80 = .ok (.iconst 1, 1) := by decide +kernel
theorem dX12_ahead_81 : decode cX12_ahead 81 = .ok (.goto 4, 3) := by decide +kernel
theorem dX12_ahead_84 : decode cX12_ahead 84 = .ok (.iconst 3, 1) := by decide +kernel
theorem dX12_ahead_85 : decode cX12_ahead 85 = .ok (.invokevirtual 128, 3) := by decide +kernel
theorem dX12_ahead_88 : decode cX12_ahead 88 = .ok (.istore 5, 2) := by decide +kernel
theorem dX12_ahead_90 : decode cX12_ahead 90 = .ok (.aload_n 0, 1) := by decide +kernel
theorem dX12_ahead_91 : decode cX12_ahead 91 = .ok (.invokevirtual 185, 3) := by decide +kernel
theorem dX12_ahead_94 : decode cX12_ahead 94 = .ok (.iload 5, 2) := by decide +kernel
theorem dX12_ahead_96 : decode cX12_ahead 96 = .ok (.ireturn, 1) := by decide +kernel
theorem dX12_trial_0 : decode cX12_trial 0 = .ok (.aload_n 0, 1) := by decide +kernel
theorem dX12_trial_1 : decode cX12_trial 1 = .ok (.iload_n 1, 1) := by decide +kernel
theorem dX12_trial_2 : decode cX12_trial 2 = .ok (.iconst 0, 1) := by decide +kernel
theorem dX12_trial_3 : decode cX12_trial 3 = .ok (.bipush 60, 2) := by decide +kernel
theorem dX12_trial_5 : decode cX12_trial 5 = .ok (.invokestatic 50, 3) := by decide +kernel
theorem dX12_trial_8 : decode cX12_trial 8 = .ok (.ifCond .ne 7, 3) := by decide +kernel
theorem dX12_trial_11 : decode cX12_trial 11 = .ok (.iconst 1, 1) := by decide +kernel
theorem dX12_trial_12 : decode cX12_trial 12 = .ok (.goto 4, 3) := by decide +kernel
theorem dX12_trial_15 : decode cX12_trial 15 = .ok (.iconst 0, 1) := by decide +kernel
theorem dX12_trial_16 : decode cX12_trial 16 = .ok (.putfield 47, 3) := by decide +kernel
theorem dX12_trial_19 : decode cX12_trial 19 = .ok (.aload_n 0, 1) := by decide +kernel
theorem dX12_trial_20 : decode cX12_trial 20 = .ok (.getfield 47, 3) := by decide +kernel
theorem dX12_trial_23 : decode cX12_trial 23 = .ok (.ifCond .le 5, 3) := by decide +kernel
theorem dX12_trial_26 : decode cX12_trial 26 = .ok (.iconst 0, 1) := by decide +kernel
theorem dX12_trial_27 : decode cX12_trial 27 = .ok (.ireturn, 1) := by decide +kernel
theorem dX12_trial_28 : decode cX12_trial 28 = .ok (.aload_n 0, 1) := by decide +kernel
theorem dX12_trial_29 : decode cX12_trial 29 = .ok (.invokevirtual 175, 3) := by decide +kernel
theorem dX12_trial_32 : decode cX12_trial 32 = .ok (.aload_n 0, 1) := by decide +kernel
theorem dX12_trial_33 : decode cX12_trial 33 = .ok (.iload_n 1, 1) := by decide +kernel
theorem dX12_trial_34 : decode cX12_trial 34 = .ok (.iconst 1, 1) := by decide +kernel
theorem dX12_trial_35 : decode cX12_trial 35 = .ok (.invokevirtual 318, 3) := by decide +kernel
theorem dX12_trial_38 : decode cX12_trial 38 = .ok (.istore_n 3, 1) := by decide +kernel
theorem dX12_trial_39 : decode cX12_trial 39 = .ok (.iload_n 2, 1) := by decide +kernel
theorem dX12_trial_40 : decode cX12_trial 40 = .ok (.ifCond .eq 10, 3) := by decide +kernel
theorem dX12_trial_43 : decode cX12_trial 43 = .ok (.aload_n 0, 1) := by decide +kernel
theorem dX12_trial_44 : decode cX12_trial 44 = .ok (.invokevirtual 394, 3) := by decide +kernel
theorem dX12_trial_47 : decode cX12_trial 47 = .ok (.goto 7, 3) := by decide +kernel
theorem dX12_trial_50 : decode cX12_trial 50 = .ok (.aload_n 0, 1) := by decide +kernel
theorem dX12_trial_51 : decode cX12_trial 51 = .ok (.invokevirtual 324, 3) := by decide +kernel
theorem dX12_trial_54 : decode cX12_trial 54 = .ok (.istore 4, 2) := by decide +kernel
theorem dX12_trial_56 : decode cX12_trial 56 = .ok (.aload_n 0, 1) := by decide +kernel
theorem dX12_trial_57 : decode cX12_trial 57 = .ok (.invokevirtual 185, 3) := by decide +kernel
theorem dX12_trial_60 : decode cX12_trial 60 = .ok (.iload 4, 2) := by decide +kernel
theorem dX12_trial_62 : decode cX12_trial 62 = .ok (.ireturn, 1) := by decide +kernel
theorem dX12_span_0 : decode cX12_span 0 = .ok (.aload_n 0, 1) := by decide +kernel
theorem dX12_span_1 : decode cX12_span 1 = .ok (.iload_n 1, 1) := by decide +kernel
theorem dX12_span_2 : decode cX12_span 2 = .ok (.iconst 0, 1) := by decide +kernel
theorem dX12_span_3 : decode cX12_span 3 = .ok (.bipush 60, 2) := by decide +kernel
theorem dX12_span_5 : decode cX12_span 5 = .ok (.invokestatic 50, 3) := by decide +kernel
theorem dX12_span_8 : decode cX12_span 8 = .ok (.ifCond .ne 7, 3) := by decide +kernel
theorem dX12_span_11 : decode cX12_span 11 = .ok (.iconst 1, 1) := by decide +kernel
theorem dX12_span_12 : decode cX12_span 12 = .ok (.goto 4, 3) := by decide +kernel
theorem dX12_span_15 : decode cX12_span 15 = .ok (.iconst 0, 1) := by decide +kernel
theorem dX12_span_16 : decode cX12_span 16 = .ok (.putfield 47, 3) := by decide +kernel
theorem dX12_span_19 : decode cX12_span 19 = .ok (.aload_n 0, 1) := by decide +kernel
theorem dX12_span_20 : decode cX12_span 20 = .ok (.getfield 47, 3) := by decide +kernel
theorem dX12_span_23 : decode cX12_span 23 = .ok (.ifCond .le 5, 3) := by decide +kernel
theorem dX12_span_26 : decode cX12_span 26 = .ok (.iconst 0, 1) := by decide +kernel
theorem dX12_span_27 : decode cX12_span 27 = .ok (.ireturn, 1) := by decide +kernel
theorem dX12_span_28 : decode cX12_span 28 = .ok (.aload_n 0, 1) := by decide +kernel
theorem dX12_span_29 : decode cX12_span 29 = .ok (.invokevirtual 175, 3) := by decide +kernel
theorem dX12_span_32 : decode cX12_span 32 = .ok (.iconst (-1), 1) := by decide +kernel
theorem dX12_span_33 : decode cX12_span 33 = .ok (.istore_n 3, 1) := by decide +kernel
theorem dX12_span_34 : decode cX12_span 34 = .ok (.iconst 1, 1) := by decide +kernel
theorem dX12_span_35 : decode cX12_span 35 = .ok (.istore 4, 2) := by decide +kernel
theorem dX12_span_37 : decode cX12_span 37 = .ok (.iload 4, 2) := by decide +kernel
theorem dX12_span_39 : decode cX12_span 39 = .ok (.bipush 6, 2) := by decide +kernel
theorem dX12_span_41 : decode cX12_span 41 = .ok (.if_icmp .gt 69, 3) := by decide +kernel
theorem dX12_span_44 : decode cX12_span 44 = .ok (.aload_n 0, 1) := by decide +kernel
theorem dX12_span_45 : decode cX12_span 45 = .ok (.getfield 7, 3) := by decide +kernel
theorem dX12_span_48 : decode cX12_span 48 = .ok (.bipush 10, 2) := by decide +kernel
theorem dX12_span_50 : decode cX12_span 50 = .ok (.iload 4, 2) := by decide +kernel
theorem dX12_span_52 : decode cX12_span 52 = .ok (.iastore, 1) := by decide +kernel
theorem dX12_span_53 : decode cX12_span 53 = .ok (.aload_n 0, 1) := by decide +kernel
theorem dX12_span_54 : decode cX12_span 54 = .ok (.iload_n 1, 1) := by decide +kernel
theorem dX12_span_55 : decode cX12_span 55 = .ok (.iconst 1, 1) := by decide +kernel
theorem dX12_span_56 : decode cX12_span 56 = .ok (.invokevirtual 318, 3) := by decide +kernel
theorem dX12_span_59 : decode cX12_span 59 = .ok (.istore 5, 2) := by decide +kernel
theorem dX12_span_61 : decode cX12_span 61 = .ok (.aload_n 0, 1) := by decide +kernel
theorem dX12_span_62 : decode cX12_span 62 = .ok (.invokevirtual 324, 3) := by decide +kernel
theorem dX12_span_65 : decode cX12_span 65 = .ok (.invokestatic 341, 3) := by decide +kernel
theorem dX12_span_68 : decode cX12_span 68 = .ok (.istore 6, 2) := by decide +kernel
theorem dX12_span_70 : decode cX12_span 70 = .ok (.aload_n 0, 1) := by decide +kernel
theorem dX12_span_71 : decode cX12_span 71 = .ok (.invokevirtual 185, 3) := by decide +kernel
theorem dX12_span_74 : decode cX12_span 74 = .ok (.iload_n 3, 1) := by decide +kernel
theorem dX12_span_75 : decode cX12_span 75 = .ok (.iconst (-1), 1) := by decide +kernel
theorem dX12_span_76 : decode cX12_span 76 = .ok (.if_icmp .ne 8, 3) := by decide +kernel
theorem dX12_span_79 : decode cX12_span 79 = .ok (.iload 6, 2) := by decide +kernel
theorem dX12_span_81 : decode cX12_span 81 = .ok (.goto 22, 3) := by decide +kernel
theorem dX12_span_84 : decode cX12_span 84 = .ok (.iload_n 2, 1) := by decide +kernel
theorem dX12_span_85 : decode cX12_span 85 = .ok (.ifCond .eq 12, 3) := by decide +kernel
theorem dX12_span_88 : decode cX12_span 88 = .ok (.iload_n 3, 1) := by decide +kernel
theorem dX12_span_89 : decode cX12_span 89 = .ok (.iload 6, 2) := by decide +kernel
theorem dX12_span_91 : decode cX12_span 91 = .ok (.invokestatic 265, 3) := by decide +kernel
theorem dX12_span_94 : decode cX12_span 94 = .ok (.goto 9, 3) := by decide +kernel
theorem dX12_span_97 : decode cX12_span 97 = .ok (.iload_n 3, 1) := by decide +kernel
theorem dX12_span_98 : decode cX12_span 98 = .ok (.iload 6, 2) := by decide +kernel
theorem dX12_span_100 : decode cX12_span 100 = .ok (.invokestatic 256, 3) := by decide +kernel
theorem dX12_span_103 : decode cX12_span 103 = .ok (.istore_n 3, 1) := by decide +kernel
theorem dX12_span_104 : decode cX12_span 104 = .ok (.iinc 4 1, 3) := by decide +kernel
theorem dX12_span_107 : decode cX12_span 107 = .ok (.goto (-70), 3) := by decide +kernel
theorem dX12_span_110 : decode cX12_span 110 = .ok (.iload_n 3, 1) := by decide +kernel
theorem dX12_span_111 : decode cX12_span 111 = .ok (.ireturn, 1) := by decide +kernel
theorem dX12_logged_0 : decode cX12_logged 0 = .ok (.aload_n 0, 1) := by decide +kernel
theorem dX12_logged_1 : decode cX12_logged 1 = .ok (.getfield 7, 3) := by decide +kernel
theorem dX12_logged_4 : decode cX12_logged 4 = .ok (.sipush 188, 3) := by decide +kernel
theorem dX12_logged_7 : decode cX12_logged 7 = .ok (.iconst 5, 1) := by decide +kernel
theorem dX12_logged_8 : decode cX12_logged 8 = .ok (.iload_n 1, 1) := by decide +kernel
theorem dX12_logged_9 : decode cX12_logged 9 = .ok (.imul, 1) := by decide +kernel
theorem dX12_logged_10 : decode cX12_logged 10 = .ok (.iadd, 1) := by decide +kernel
theorem dX12_logged_11 : decode cX12_logged 11 = .ok (.iload_n 2, 1) := by decide +kernel
theorem dX12_logged_12 : decode cX12_logged 12 = .ok (.iadd, 1) := by decide +kernel
theorem dX12_logged_13 : decode cX12_logged 13 = .ok (.iaload, 1) := by decide +kernel
theorem dX12_logged_14 : decode cX12_logged 14 = .ok (.ireturn, 1) := by decide +kernel
theorem dX12_led_0 : decode cX12_led 0 = .ok (.aload_n 0, 1) := by decide +kernel
theorem dX12_led_1 : decode cX12_led 1 = .ok (.aload_n 0, 1) := by decide +kernel
theorem dX12_led_2 : decode cX12_led 2 = .ok (.iload_n 1, 1) := by decide +kernel
theorem dX12_led_3 : decode cX12_led 3 = .ok (.invokevirtual 286, 3) := by decide +kernel
theorem dX12_led_6 : decode cX12_led 6 = .ok (.ifCond .ne 7, 3) := by decide +kernel
theorem dX12_led_9 : decode cX12_led 9 = .ok (.iconst 1, 1) := by decide +kernel
theorem dX12_led_10 : decode cX12_led 10 = .ok (.goto 4, 3) := by decide +kernel
theorem dX12_led_13 : decode cX12_led 13 = .ok (.iconst 0, 1) := by decide +kernel
theorem dX12_led_14 : decode cX12_led 14 = .ok (.putfield 47, 3) := by decide +kernel
theorem dX12_led_17 : decode cX12_led 17 = .ok (.aload_n 0, 1) := by decide +kernel
theorem dX12_led_18 : decode cX12_led 18 = .ok (.getfield 47, 3) := by decide +kernel
theorem dX12_led_21 : decode cX12_led 21 = .ok (.ifCond .le 5, 3) := by decide +kernel
theorem dX12_led_24 : decode cX12_led 24 = .ok (.iconst 0, 1) := by decide +kernel
theorem dX12_led_25 : decode cX12_led 25 = .ok (.ireturn, 1) := by decide +kernel
theorem dX12_led_26 : decode cX12_led 26 = .ok (.iconst 0, 1) := by decide +kernel
theorem dX12_led_27 : decode cX12_led 27 = .ok (.istore_n 3, 1) := by decide +kernel
theorem dX12_led_28 : decode cX12_led 28 = .ok (.iconst (-1), 1) := by decide +kernel
theorem dX12_led_29 : decode cX12_led 29 = .ok (.istore 4, 2) := by decide +kernel
theorem dX12_led_31 : decode cX12_led 31 = .ok (.aload_n 0, 1) := by decide +kernel
theorem dX12_led_32 : decode cX12_led 32 = .ok (.getfield 7, 3) := by decide +kernel
theorem dX12_led_35 : decode cX12_led 35 = .ok (.bipush 9, 2) := by decide +kernel
theorem dX12_led_37 : decode cX12_led 37 = .ok (.iaload, 1) := by decide +kernel
theorem dX12_led_38 : decode cX12_led 38 = .ok (.iconst 1, 1) := by decide +kernel
theorem dX12_led_39 : decode cX12_led 39 = .ok (.isub, 1) := by decide +kernel
theorem dX12_led_40 : decode cX12_led 40 = .ok (.istore 5, 2) := by decide +kernel
theorem dX12_led_42 : decode cX12_led 42 = .ok (.iload 5, 2) := by decide +kernel
theorem dX12_led_44 : decode cX12_led 44 = .ok (.ifCond .lt 35, 3) := by decide +kernel
theorem dX12_led_47 : decode cX12_led 47 = .ok (.aload_n 0, 1) := by decide +kernel
theorem dX12_led_48 : decode cX12_led 48 = .ok (.iload 5, 2) := by decide +kernel
theorem dX12_led_50 : decode cX12_led 50 = .ok (.iconst 3, 1) := by decide +kernel
theorem dX12_led_51 : decode cX12_led 51 = .ok (.invokevirtual 397, 3) := by decide +kernel
theorem dX12_led_54 : decode cX12_led 54 = .ok (.iload_n 1, 1) := by decide +kernel
theorem dX12_led_55 : decode cX12_led 55 = .ok (.if_icmp .eq 6, 3) := by decide +kernel
theorem dX12_led_58 : decode cX12_led 58 = .ok (.goto 15, 3) := by decide +kernel
theorem dX12_led_61 : decode cX12_led 61 = .ok (.iinc 3 1, 3) := by decide +kernel
theorem dX12_led_64 : decode cX12_led 64 = .ok (.aload_n 0, 1) := by decide +kernel
theorem dX12_led_65 : decode cX12_led 65 = .ok (.iload 5, 2) := by decide +kernel
theorem dX12_led_67 : decode cX12_led 67 = .ok (.iconst 0, 1) := by decide +kernel
theorem dX12_led_68 : decode cX12_led 68 = .ok (.invokevirtual 397, 3) := by decide +kernel
theorem dX12_led_71 : decode cX12_led 71 = .ok (.istore 4, 2) := by decide +kernel
theorem dX12_led_73 : decode cX12_led 73 = .ok (.iinc 5 (-1), 3) := by decide +kernel
theorem dX12_led_76 : decode cX12_led 76 = .ok (.goto (-34), 3) := by decide +kernel
theorem dX12_led_79 : decode cX12_led 79 = .ok (.iload_n 2, 1) := by decide +kernel
theorem dX12_led_80 : decode cX12_led 80 = .ok (.ifCond .eq 8, 3) := by decide +kernel
theorem dX12_led_83 : decode cX12_led 83 = .ok (.iload 4, 2) := by decide +kernel
theorem dX12_led_85 : decode cX12_led 85 = .ok (.goto 4, 3) := by decide +kernel
theorem dX12_led_88 : decode cX12_led 88 = .ok (.iload_n 3, 1) := by decide +kernel
theorem dX12_led_89 : decode cX12_led 89 = .ok (.ireturn, 1) := by decide +kernel
theorem dX12_log_0 : decode cX12_log 0 = .ok (.aload_n 0, 1) := by decide +kernel
theorem dX12_log_1 : decode cX12_log 1 = .ok (.iload_n 2, 1) := by decide +kernel
theorem dX12_log_2 : decode cX12_log 2 = .ok (.iconst 0, 1) := by decide +kernel
theorem dX12_log_3 : decode cX12_log 3 = .ok (.iconst 4, 1) := by decide +kernel
theorem dX12_log_4 : decode cX12_log 4 = .ok (.invokestatic 50, 3) := by decide +kernel
theorem dX12_log_7 : decode cX12_log 7 = .ok (.ifCond .ne 7, 3) := by decide +kernel
theorem dX12_log_10 : decode cX12_log 10 = .ok (.iconst 1, 1) := by decide +kernel
theorem dX12_log_11 : decode cX12_log 11 = .ok (.goto 4, 3) := by decide +kernel
theorem dX12_log_14 : decode cX12_log 14 = .ok (.iconst 0, 1) := by decide +kernel
theorem dX12_log_15 : decode cX12_log 15 = .ok (.putfield 47, 3) := by decide +kernel
theorem dX12_log_18 : decode cX12_log 18 = .ok (.aload_n 0, 1) := by decide +kernel
theorem dX12_log_19 : decode cX12_log 19 = .ok (.getfield 47, 3) := by decide +kernel
theorem dX12_log_22 : decode cX12_log 22 = .ok (.ifCond .le 5, 3) := by decide +kernel
theorem dX12_log_25 : decode cX12_log 25 = .ok (.iconst 0, 1) := by decide +kernel
theorem dX12_log_26 : decode cX12_log 26 = .ok (.ireturn, 1) := by decide +kernel
theorem dX12_log_27 : decode cX12_log 27 = .ok (.iload_n 1, 1) := by decide +kernel
theorem dX12_log_28 : decode cX12_log 28 = .ok (.iconst 0, 1) := by decide +kernel
theorem dX12_log_29 : decode cX12_log 29 = .ok (.aload_n 0, 1) := by decide +kernel
theorem dX12_log_30 : decode cX12_log 30 = .ok (.getfield 7, 3) := by decide +kernel
theorem dX12_log_33 : decode cX12_log 33 = .ok (.bipush 9, 2) := by decide +kernel
theorem dX12_log_35 : decode cX12_log 35 = .ok (.iaload, 1) := by decide +kernel
theorem dX12_log_36 : decode cX12_log 36 = .ok (.iconst 1, 1) := by decide +kernel
theorem dX12_log_37 : decode cX12_log 37 = .ok (.isub, 1) := by decide +kernel
theorem dX12_log_38 : decode cX12_log 38 = .ok (.invokestatic 50, 3) := by decide +kernel
theorem dX12_log_41 : decode cX12_log 41 = .ok (.ifCond .eq 12, 3) := by decide +kernel
theorem dX12_log_44 : decode cX12_log 44 = .ok (.aload_n 0, 1) := by decide +kernel
theorem dX12_log_45 : decode cX12_log 45 = .ok (.iload_n 1, 1) := by decide +kernel
theorem dX12_log_46 : decode cX12_log 46 = .ok (.iload_n 2, 1) := by decide +kernel
theorem dX12_log_47 : decode cX12_log 47 = .ok (.invokevirtual 397, 3) := by decide +kernel
theorem dX12_log_50 : decode cX12_log 50 = .ok (.goto 5, 3) := by decide +kernel
theorem dX12_log_53 : decode cX12_log 53 = .ok (.bipush (-2), 2) := by decide +kernel
theorem dX12_log_55 : decode cX12_log 55 = .ok (.ireturn, 1) := by decide +kernel
theorem dX12_seed_0 : decode cX12_seed 0 = .ok (.aload_n 0, 1) := by decide +kernel
theorem dX12_seed_1 : decode cX12_seed 1 = .ok (.iconst 0, 1) := by decide +kernel
theorem dX12_seed_2 : decode cX12_seed 2 = .ok (.putfield 47, 3) := by decide +kernel
theorem dX12_seed_5 : decode cX12_seed 5 = .ok (.aload_n 0, 1) := by decide +kernel
theorem dX12_seed_6 : decode cX12_seed 6 = .ok (.getfield 7, 3) := by decide +kernel
theorem dX12_seed_9 : decode cX12_seed 9 = .ok (.bipush 10, 2) := by decide +kernel
theorem dX12_seed_11 : decode cX12_seed 11 = .ok (.iaload, 1) := by decide +kernel
theorem dX12_seed_12 : decode cX12_seed 12 = .ok (.istore_n 2, 1) := by decide +kernel
theorem dX12_seed_13 : decode cX12_seed 13 = .ok (.aload_n 0, 1) := by decide +kernel
theorem dX12_seed_14 : decode cX12_seed 14 = .ok (.getfield 7, 3) := by decide +kernel
theorem dX12_seed_17 : decode cX12_seed 17 = .ok (.bipush 10, 2) := by decide +kernel
theorem dX12_seed_19 : decode cX12_seed 19 = .ok (.iload_n 1, 1) := by decide +kernel
theorem dX12_seed_20 : decode cX12_seed 20 = .ok (.iastore, 1) := by decide +kernel
theorem dX12_seed_21 : decode cX12_seed 21 = .ok (.iload_n 2, 1) := by decide +kernel
theorem dX12_seed_22 : decode cX12_seed 22 = .ok (.ireturn, 1) := by decide +kernel
theorem dX12_undo_0 : decode cX12_undo 0 = .ok (.aload_n 0, 1) := by decide +kernel
theorem dX12_undo_1 : decode cX12_undo 1 = .ok (.iconst 0, 1) := by decide +kernel
theorem dX12_undo_2 : decode cX12_undo 2 = .ok (.putfield 47, 3) := by decide +kernel
theorem dX12_undo_5 : decode cX12_undo 5 = .ok (.aload_n 0, 1) := by decide +kernel
theorem dX12_undo_6 : decode cX12_undo 6 = .ok (.getfield 188, 3) := by decide +kernel
theorem dX12_undo_9 : decode cX12_undo 9 = .ok (.ifCond .ne 5, 3) := by decide +kernel
theorem dX12_undo_12 : decode cX12_undo 12 = .ok (.iconst 0, 1) := by decide +kernel
theorem dX12_undo_13 : decode cX12_undo 13 = .ok (.ireturn, 1) := by decide +kernel
theorem dX12_undo_14 : decode cX12_undo 14 = .ok (.aload_n 0, 1) := by decide +kernel
theorem dX12_undo_15 : decode cX12_undo 15 = .ok (.dup, 1) := by decide +kernel
theorem dX12_undo_16 : decode cX12_undo 16 = .ok (.getfield 188, 3) := by decide +kernel
theorem dX12_undo_19 : decode cX12_undo 19 = .ok (.iconst 1, 1) := by decide +kernel
theorem dX12_undo_20 : decode cX12_undo 20 = .ok (.isub, 1) := by decide +kernel
theorem dX12_undo_21 : decode cX12_undo 21 = .ok (.putfield 188, 3) := by decide +kernel
theorem dX12_undo_24 : decode cX12_undo 24 = .ok (.iconst 0, 1) := by decide +kernel
theorem dX12_undo_25 : decode cX12_undo 25 = .ok (.istore_n 1, 1) := by decide +kernel
theorem dX12_undo_26 : decode cX12_undo 26 = .ok (.iload_n 1, 1) := by decide +kernel
theorem dX12_undo_27 : decode cX12_undo 27 = .ok (.sipush 488, 3) := by decide +kernel
theorem dX12_undo_30 : decode cX12_undo 30 = .ok (.if_icmp .ge 30, 3) := by decide +kernel
theorem dX12_undo_33 : decode cX12_undo 33 = .ok (.aload_n 0, 1) := by decide +kernel
theorem dX12_undo_34 : decode cX12_undo 34 = .ok (.getfield 7, 3) := by decide +kernel
theorem dX12_undo_37 : decode cX12_undo 37 = .ok (.iload_n 1, 1) := by decide +kernel
theorem dX12_undo_38 : decode cX12_undo 38 = .ok (.aload_n 0, 1) := by decide +kernel
theorem dX12_undo_39 : decode cX12_undo 39 = .ok (.getfield 19, 3) := by decide +kernel
theorem dX12_undo_42 : decode cX12_undo 42 = .ok (.sipush 488, 3) := by decide +kernel
theorem dX12_undo_45 : decode cX12_undo 45 = .ok (.aload_n 0, 1) := by decide +kernel
theorem dX12_undo_46 : decode cX12_undo 46 = .ok (.getfield 188, 3) := by decide +kernel
theorem dX12_undo_49 : decode cX12_undo 49 = .ok (.imul, 1) := by decide +kernel
theorem dX12_undo_50 : decode cX12_undo 50 = .ok (.iload_n 1, 1) := by decide +kernel
theorem dX12_undo_51 : decode cX12_undo 51 = .ok (.iadd, 1) := by decide +kernel
theorem dX12_undo_52 : decode cX12_undo 52 = .ok (.iaload, 1) := by decide +kernel
theorem dX12_undo_53 : decode cX12_undo 53 = .ok (.iastore, 1) := by decide +kernel
theorem dX12_undo_54 : decode cX12_undo 54 = .ok (.iinc 1 1, 3) := by decide +kernel
theorem dX12_undo_57 : decode cX12_undo 57 = .ok (.goto (-31), 3) := by decide +kernel
theorem dX12_undo_60 : decode cX12_undo 60 = .ok (.iconst 1, 1) := by decide +kernel
theorem dX12_undo_61 : decode cX12_undo 61 = .ok (.ireturn, 1) := by decide +kernel
theorem dX12_image_0 : decode cX12_image 0 = .ok (.aload_n 0, 1) := by decide +kernel
theorem dX12_image_1 : decode cX12_image 1 = .ok (.iconst 0, 1) := by decide +kernel
theorem dX12_image_2 : decode cX12_image 2 = .ok (.putfield 47, 3) := by decide +kernel
theorem dX12_image_5 : decode cX12_image 5 = .ok (.iconst 0, 1) := by decide +kernel
theorem dX12_image_6 : decode cX12_image 6 = .ok (.istore_n 1, 1) := by decide +kernel
theorem dX12_image_7 : decode cX12_image 7 = .ok (.iload_n 1, 1) := by decide +kernel
theorem dX12_image_8 : decode cX12_image 8 = .ok (.sipush 888, 3) := by decide +kernel
theorem dX12_image_11 : decode cX12_image 11 = .ok (.if_icmp .ge 21, 3) := by decide +kernel
theorem dX12_image_14 : decode cX12_image 14 = .ok (.aload_n 0, 1) := by decide +kernel
theorem dX12_image_15 : decode cX12_image 15 = .ok (.getfield 13, 3) := by decide +kernel
theorem dX12_image_18 : decode cX12_image 18 = .ok (.iload_n 1, 1) := by decide +kernel
theorem dX12_image_19 : decode cX12_image 19 = .ok (.aload_n 0, 1) := by decide +kernel
theorem dX12_image_20 : decode cX12_image 20 = .ok (.getfield 7, 3) := by decide +kernel
theorem dX12_image_23 : decode cX12_image 23 = .ok (.iload_n 1, 1) := by decide +kernel
theorem dX12_image_24 : decode cX12_image 24 = .ok (.iaload, 1) := by decide +kernel
theorem dX12_image_25 : decode cX12_image 25 = .ok (.iastore, 1) := by decide +kernel
theorem dX12_image_26 : decode cX12_image 26 = .ok (.iinc 1 1, 3) := by decide +kernel
theorem dX12_image_29 : decode cX12_image 29 = .ok (.goto (-22), 3) := by decide +kernel
theorem dX12_image_32 : decode cX12_image 32 = .ok (.aload_n 0, 1) := by decide +kernel
theorem dX12_image_33 : decode cX12_image 33 = .ok (.iconst 1, 1) := by decide +kernel
theorem dX12_image_34 : decode cX12_image 34 = .ok (.putfield 400, 3) := by decide +kernel
theorem dX12_image_37 : decode cX12_image 37 = .ok (.return_, 1) := by decide +kernel
theorem dX12_back_0 : decode cX12_back 0 = .ok (.aload_n 0, 1) := by decide +kernel
theorem dX12_back_1 : decode cX12_back 1 = .ok (.iconst 0, 1) := by decide +kernel
theorem dX12_back_2 : decode cX12_back 2 = .ok (.putfield 47, 3) := by decide +kernel
theorem dX12_back_5 : decode cX12_back 5 = .ok (.aload_n 0, 1) := by decide +kernel
theorem dX12_back_6 : decode cX12_back 6 = .ok (.getfield 400, 3) := by decide +kernel
theorem dX12_back_9 : decode cX12_back 9 = .ok (.ifCond .ne 5, 3) := by decide +kernel
theorem dX12_back_12 : decode cX12_back 12 = .ok (.iconst 0, 1) := by decide +kernel
theorem dX12_back_13 : decode cX12_back 13 = .ok (.ireturn, 1) := by decide +kernel
theorem dX12_back_14 : decode cX12_back 14 = .ok (.iconst 0, 1) := by decide +kernel
theorem dX12_back_15 : decode cX12_back 15 = .ok (.istore_n 1, 1) := by decide +kernel
theorem dX12_back_16 : decode cX12_back 16 = .ok (.iload_n 1, 1) := by decide +kernel
theorem dX12_back_17 : decode cX12_back 17 = .ok (.sipush 888, 3) := by decide +kernel
theorem dX12_back_20 : decode cX12_back 20 = .ok (.if_icmp .ge 21, 3) := by decide +kernel
theorem dX12_back_23 : decode cX12_back 23 = .ok (.aload_n 0, 1) := by decide +kernel
theorem dX12_back_24 : decode cX12_back 24 = .ok (.getfield 7, 3) := by decide +kernel
theorem dX12_back_27 : decode cX12_back 27 = .ok (.iload_n 1, 1) := by decide +kernel
theorem dX12_back_28 : decode cX12_back 28 = .ok (.aload_n 0, 1) := by decide +kernel
theorem dX12_back_29 : decode cX12_back 29 = .ok (.getfield 13, 3) := by decide +kernel
theorem dX12_back_32 : decode cX12_back 32 = .ok (.iload_n 1, 1) := by decide +kernel
theorem dX12_back_33 : decode cX12_back 33 = .ok (.iaload, 1) := by decide +kernel
theorem dX12_back_34 : decode cX12_back 34 = .ok (.iastore, 1) := by decide +kernel
theorem dX12_back_35 : decode cX12_back 35 = .ok (.iinc 1 1, 3) := by decide +kernel
theorem dX12_back_38 : decode cX12_back 38 = .ok (.goto (-22), 3) := by decide +kernel
theorem dX12_back_41 : decode cX12_back 41 = .ok (.aload_n 0, 1) := by decide +kernel
theorem dX12_back_42 : decode cX12_back 42 = .ok (.iconst 0, 1) := by decide +kernel
theorem dX12_back_43 : decode cX12_back 43 = .ok (.putfield 188, 3) := by decide +kernel
theorem dX12_back_46 : decode cX12_back 46 = .ok (.iconst 1, 1) := by decide +kernel
theorem dX12_back_47 : decode cX12_back 47 = .ok (.ireturn, 1) := by decide +kernel
theorem dX12_waysOf_0 : decode cX12_waysOf 0 = .ok (.iconst 0, 1) := by decide +kernel
theorem dX12_waysOf_1 : decode cX12_waysOf 1 = .ok (.istore_n 1, 1) := by decide +kernel
theorem dX12_waysOf_2 : decode cX12_waysOf 2 = .ok (.iconst 0, 1) := by decide +kernel
theorem dX12_waysOf_3 : decode cX12_waysOf 3 = .ok (.istore_n 2, 1) := by decide +kernel
theorem dX12_waysOf_4 : decode cX12_waysOf 4 = .ok (.iload_n 2, 1) := by decide +kernel
theorem dX12_waysOf_5 : decode cX12_waysOf 5 = .ok (.aload_n 0, 1) := by decide +kernel
theorem dX12_waysOf_6 : decode cX12_waysOf 6 = .ok (.getfield 7, 3) := by decide +kernel
theorem dX12_waysOf_9 : decode cX12_waysOf 9 = .ok (.iconst 3, 1) := by decide +kernel
theorem dX12_waysOf_10 : decode cX12_waysOf 10 = .ok (.iaload, 1) := by decide +kernel
theorem dX12_waysOf_11 : decode cX12_waysOf 11 = .ok (.if_icmp .ge 39, 3) := by decide +kernel
theorem dX12_waysOf_14 : decode cX12_waysOf 14 = .ok (.iconst 0, 1) := by decide +kernel
theorem dX12_waysOf_15 : decode cX12_waysOf 15 = .ok (.istore_n 3, 1) := by decide +kernel
theorem dX12_waysOf_16 : decode cX12_waysOf 16 = .ok (.iload_n 3, 1) := by decide +kernel
theorem dX12_waysOf_17 : decode cX12_waysOf 17 = .ok (.iload_n 2, 1) := by decide +kernel
theorem dX12_waysOf_18 : decode cX12_waysOf 18 = .ok (.if_icmp .ge 26, 3) := by decide +kernel
theorem dX12_waysOf_21 : decode cX12_waysOf 21 = .ok (.iload_n 1, 1) := by decide +kernel
theorem dX12_waysOf_22 : decode cX12_waysOf 22 = .ok (.aload_n 0, 1) := by decide +kernel
theorem dX12_waysOf_23 : decode cX12_waysOf 23 = .ok (.iload_n 2, 1) := by decide +kernel
theorem dX12_waysOf_24 : decode cX12_waysOf 24 = .ok (.iload_n 3, 1) := by decide +kernel
theorem dX12_waysOf_25 : decode cX12_waysOf 25 = .ok (.invokevirtual 58, 3) := by decide +kernel
theorem dX12_waysOf_28 : decode cX12_waysOf 28 = .ok (.ifCond .eq 7, 3) := by decide +kernel
theorem dX12_waysOf_31 : decode cX12_waysOf 31 = .ok (.iconst 1, 1) := by decide +kernel
theorem dX12_waysOf_32 : decode cX12_waysOf 32 = .ok (.goto 4, 3) := by decide +kernel
theorem dX12_waysOf_35 : decode cX12_waysOf 35 = .ok (.iconst 0, 1) := by decide +kernel
theorem dX12_waysOf_36 : decode cX12_waysOf 36 = .ok (.iadd, 1) := by decide +kernel
theorem dX12_waysOf_37 : decode cX12_waysOf 37 = .ok (.istore_n 1, 1) := by decide +kernel
theorem dX12_waysOf_38 : decode cX12_waysOf 38 = .ok (.iinc 3 1, 3) := by decide +kernel
theorem dX12_waysOf_41 : decode cX12_waysOf 41 = .ok (.goto (-25), 3) := by decide +kernel
theorem dX12_waysOf_44 : decode cX12_waysOf 44 = .ok (.iinc 2 1, 3) := by decide +kernel
theorem dX12_waysOf_47 : decode cX12_waysOf 47 = .ok (.goto (-43), 3) := by decide +kernel
theorem dX12_waysOf_50 : decode cX12_waysOf 50 = .ok (.iload_n 1, 1) := by decide +kernel
theorem dX12_waysOf_51 : decode cX12_waysOf 51 = .ok (.ireturn, 1) := by decide +kernel
theorem dX12_count_0 : decode cX12_count 0 = .ok (.aload_n 0, 1) := by decide +kernel
theorem dX12_count_1 : decode cX12_count 1 = .ok (.iconst 0, 1) := by decide +kernel
theorem dX12_count_2 : decode cX12_count 2 = .ok (.putfield 47, 3) := by decide +kernel
theorem dX12_count_5 : decode cX12_count 5 = .ok (.iload_n 1, 1) := by decide +kernel
theorem dX12_count_6 : decode cX12_count 6 = .ok (.ifCond .ne 10, 3) := by decide +kernel
theorem dX12_count_9 : decode cX12_count 9 = .ok (.aload_n 0, 1) := by decide +kernel
theorem dX12_count_10 : decode cX12_count 10 = .ok (.getfield 7, 3) := by decide +kernel
theorem dX12_count_13 : decode cX12_count 13 = .ok (.iconst 3, 1) := by decide +kernel
theorem dX12_count_14 : decode cX12_count 14 = .ok (.iaload, 1) := by decide +kernel
theorem dX12_count_15 : decode cX12_count 15 = .ok (.ireturn, 1) := by decide +kernel
theorem dX12_count_16 : decode cX12_count 16 = .ok (.iload_n 1, 1) := by decide +kernel
theorem dX12_count_17 : decode cX12_count 17 = .ok (.iconst 1, 1) := by decide +kernel
theorem dX12_count_18 : decode cX12_count 18 = .ok (.if_icmp .ne 10, 3) := by decide +kernel
theorem dX12_count_21 : decode cX12_count 21 = .ok (.aload_n 0, 1) := by decide +kernel
theorem dX12_count_22 : decode cX12_count 22 = .ok (.getfield 7, 3) := by decide +kernel
theorem dX12_count_25 : decode cX12_count 25 = .ok (.iconst 4, 1) := by decide +kernel
theorem dX12_count_26 : decode cX12_count 26 = .ok (.iaload, 1) := by decide +kernel
theorem dX12_count_27 : decode cX12_count 27 = .ok (.ireturn, 1) := by decide +kernel
theorem dX12_count_28 : decode cX12_count 28 = .ok (.iload_n 1, 1) := by decide +kernel
theorem dX12_count_29 : decode cX12_count 29 = .ok (.iconst 2, 1) := by decide +kernel
theorem dX12_count_30 : decode cX12_count 30 = .ok (.if_icmp .ne 10, 3) := by decide +kernel
theorem dX12_count_33 : decode cX12_count 33 = .ok (.aload_n 0, 1) := by decide +kernel
theorem dX12_count_34 : decode cX12_count 34 = .ok (.getfield 7, 3) := by decide +kernel
theorem dX12_count_37 : decode cX12_count 37 = .ok (.iconst 0, 1) := by decide +kernel
theorem dX12_count_38 : decode cX12_count 38 = .ok (.iaload, 1) := by decide +kernel
theorem dX12_count_39 : decode cX12_count 39 = .ok (.ireturn, 1) := by decide +kernel
theorem dX12_count_40 : decode cX12_count 40 = .ok (.iload_n 1, 1) := by decide +kernel
theorem dX12_count_41 : decode cX12_count 41 = .ok (.iconst 3, 1) := by decide +kernel
theorem dX12_count_42 : decode cX12_count 42 = .ok (.if_icmp .ne 10, 3) := by decide +kernel
theorem dX12_count_45 : decode cX12_count 45 = .ok (.aload_n 0, 1) := by decide +kernel
theorem dX12_count_46 : decode cX12_count 46 = .ok (.getfield 7, 3) := by decide +kernel
theorem dX12_count_49 : decode cX12_count 49 = .ok (.iconst 1, 1) := by decide +kernel
theorem dX12_count_50 : decode cX12_count 50 = .ok (.iaload, 1) := by decide +kernel
theorem dX12_count_51 : decode cX12_count 51 = .ok (.ireturn, 1) := by decide +kernel
theorem dX12_count_52 : decode cX12_count 52 = .ok (.iload_n 1, 1) := by decide +kernel
theorem dX12_count_53 : decode cX12_count 53 = .ok (.iconst 4, 1) := by decide +kernel
theorem dX12_count_54 : decode cX12_count 54 = .ok (.bipush 7, 2) := by decide +kernel
theorem dX12_count_56 : decode cX12_count 56 = .ok (.invokestatic 50, 3) := by decide +kernel
theorem dX12_count_59 : decode cX12_count 59 = .ok (.ifCond .eq 14, 3) := by decide +kernel
theorem dX12_count_62 : decode cX12_count 62 = .ok (.aload_n 0, 1) := by decide +kernel
theorem dX12_count_63 : decode cX12_count 63 = .ok (.getfield 7, 3) := by decide +kernel
theorem dX12_count_66 : decode cX12_count 66 = .ok (.iconst 5, 1) := by decide +kernel
theorem dX12_count_67 : decode cX12_count 67 = .ok (.iload_n 1, 1) := by decide +kernel
theorem dX12_count_68 : decode cX12_count 68 = .ok (.iadd, 1) := by decide +kernel
theorem dX12_count_69 : decode cX12_count 69 = .ok (.iconst 4, 1) := by decide +kernel
theorem dX12_count_70 : decode cX12_count 70 = .ok (.isub, 1) := by decide +kernel
theorem dX12_count_71 : decode cX12_count 71 = .ok (.iaload, 1) := by decide +kernel
theorem dX12_count_72 : decode cX12_count 72 = .ok (.ireturn, 1) := by decide +kernel
theorem dX12_count_73 : decode cX12_count 73 = .ok (.iload_n 1, 1) := by decide +kernel
theorem dX12_count_74 : decode cX12_count 74 = .ok (.bipush 8, 2) := by decide +kernel
theorem dX12_count_76 : decode cX12_count 76 = .ok (.if_icmp .ne 8, 3) := by decide +kernel
theorem dX12_count_79 : decode cX12_count 79 = .ok (.aload_n 0, 1) := by decide +kernel
theorem dX12_count_80 : decode cX12_count 80 = .ok (.invokevirtual 394, 3) := by decide +kernel
theorem dX12_count_83 : decode cX12_count 83 = .ok (.ireturn, 1) := by decide +kernel
theorem dX12_count_84 : decode cX12_count 84 = .ok (.iload_n 1, 1) := by decide +kernel
theorem dX12_count_85 : decode cX12_count 85 = .ok (.bipush 9, 2) := by decide +kernel
theorem dX12_count_87 : decode cX12_count 87 = .ok (.if_icmp .ne 8, 3) := by decide +kernel
theorem dX12_count_90 : decode cX12_count 90 = .ok (.aload_n 0, 1) := by decide +kernel
theorem dX12_count_91 : decode cX12_count 91 = .ok (.invokevirtual 305, 3) := by decide +kernel
theorem dX12_count_94 : decode cX12_count 94 = .ok (.ireturn, 1) := by decide +kernel
theorem dX12_count_95 : decode cX12_count 95 = .ok (.iload_n 1, 1) := by decide +kernel
theorem dX12_count_96 : decode cX12_count 96 = .ok (.bipush 10, 2) := by decide +kernel
theorem dX12_count_98 : decode cX12_count 98 = .ok (.if_icmp .ne 8, 3) := by decide +kernel
theorem dX12_count_101 : decode cX12_count 101 = .ok (.aload_n 0, 1) := by decide +kernel
theorem dX12_count_102 : decode cX12_count 102 = .ok (.invokevirtual 403, 3) := by decide +kernel
theorem dX12_count_105 : decode cX12_count 105 = .ok (.ireturn, 1) := by decide +kernel
theorem dX12_count_106 : decode cX12_count 106 = .ok (.iload_n 1, 1) := by decide +kernel
theorem dX12_count_107 : decode cX12_count 107 = .ok (.bipush 11, 2) := by decide +kernel
theorem dX12_count_109 : decode cX12_count 109 = .ok (.if_icmp .ne 11, 3) := by decide +kernel
theorem dX12_count_112 : decode cX12_count 112 = .ok (.aload_n 0, 1) := by decide +kernel
theorem dX12_count_113 : decode cX12_count 113 = .ok (.getfield 7, 3) := by decide +kernel
theorem dX12_count_116 : decode cX12_count 116 = .ok (.bipush 9, 2) := by decide +kernel
theorem dX12_count_118 : decode cX12_count 118 = .ok (.iaload, 1) := by decide +kernel
theorem dX12_count_119 : decode cX12_count 119 = .ok (.ireturn, 1) := by decide +kernel
theorem dX12_count_120 : decode cX12_count 120 = .ok (.iload_n 1, 1) := by decide +kernel
theorem dX12_count_121 : decode cX12_count 121 = .ok (.bipush 12, 2) := by decide +kernel
theorem dX12_count_123 : decode cX12_count 123 = .ok (.if_icmp .ne 10, 3) := by decide +kernel
theorem dX12_count_126 : decode cX12_count 126 = .ok (.aload_n 0, 1) := by decide +kernel
theorem dX12_count_127 : decode cX12_count 127 = .ok (.getfield 188, 3) := by decide +kernel
theorem dX12_count_130 : decode cX12_count 130 = .ok (.goto 4, 3) := by decide +kernel
theorem dX12_count_133 : decode cX12_count 133 = .ok (.iconst (-1), 1) := by decide +kernel
theorem dX12_count_134 : decode cX12_count 134 = .ok (.ireturn, 1) := by decide +kernel
