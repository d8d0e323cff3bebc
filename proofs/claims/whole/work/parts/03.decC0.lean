theorem dX0_init_0 : decode cX0_init 0 = .ok (.aload_n 0, 1) := by decide +kernel
theorem dX0_init_1 : decode cX0_init 1 = .ok (.invokespecial 3, 3) := by decide +kernel
theorem dX0_init_4 : decode cX0_init 4 = .ok (.aload_n 0, 1) := by decide +kernel
theorem dX0_init_5 : decode cX0_init 5 = .ok (.new 9, 3) := by decide +kernel
theorem dX0_init_8 : decode cX0_init 8 = .ok (.dup, 1) := by decide +kernel
theorem dX0_init_9 : decode cX0_init 9 = .ok (.invokespecial 11, 3) := by decide +kernel
theorem dX0_init_12 : decode cX0_init 12 = .ok (.putfield 12, 3) := by decide +kernel
theorem dX0_init_15 : decode cX0_init 15 = .ok (.return_, 1) := by decide +kernel
theorem dX0_tick_0 : decode cX0_tick 0 = .ok (.aload_n 1, 1) := by decide +kernel
theorem dX0_tick_1 : decode cX0_tick 1 = .ok (.iload_n 3, 1) := by decide +kernel
theorem dX0_tick_2 : decode cX0_tick 2 = .ok (.ifCond .eq 21, 3) := by decide +kernel
theorem dX0_tick_5 : decode cX0_tick 5 = .ok (.aload_n 1, 1) := by decide +kernel
theorem dX0_tick_6 : decode cX0_tick 6 = .ok (.invokevirtual 18, 3) := by decide +kernel
theorem dX0_tick_9 : decode cX0_tick 9 = .ok (.bipush 100, 2) := by decide +kernel
theorem dX0_tick_11 : decode cX0_tick 11 = .ok (.irem, 1) := by decide +kernel
theorem dX0_tick_12 : decode cX0_tick 12 = .ok (.aload_n 1, 1) := by decide +kernel
theorem dX0_tick_13 : decode cX0_tick 13 = .ok (.getfield 22, 3) := by decide +kernel
theorem dX0_tick_16 : decode cX0_tick 16 = .ok (.if_icmp .ge 7, 3) := by decide +kernel
theorem dX0_tick_19 : decode cX0_tick 19 = .ok (.iconst 1, 1) := by decide +kernel
theorem dX0_tick_20 : decode cX0_tick 20 = .ok (.goto 4, 3) := by decide +kernel
theorem dX0_tick_23 : decode cX0_tick 23 = .ok (.iconst 0, 1) := by decide +kernel
theorem dX0_tick_24 : decode cX0_tick 24 = .ok (.putfield 26, 3) := by decide +kernel
theorem dX0_tick_27 : decode cX0_tick 27 = .ok (.aload_n 1, 1) := by decide +kernel
theorem dX0_tick_28 : decode cX0_tick 28 = .ok (.getfield 26, 3) := by decide +kernel
theorem dX0_tick_31 : decode cX0_tick 31 = .ok (.ifCond .ne 8, 3) := by decide +kernel
theorem dX0_tick_34 : decode cX0_tick 34 = .ok (.aload_n 0, 1) := by decide +kernel
theorem dX0_tick_35 : decode cX0_tick 35 = .ok (.aload_n 1, 1) := by decide +kernel
theorem dX0_tick_36 : decode cX0_tick 36 = .ok (.invokevirtual 30, 3) := by decide +kernel
theorem dX0_tick_39 : decode cX0_tick 39 = .ok (.aload_n 0, 1) := by decide +kernel
theorem dX0_tick_40 : decode cX0_tick 40 = .ok (.aload_n 1, 1) := by decide +kernel
theorem dX0_tick_41 : decode cX0_tick 41 = .ok (.aload_n 2, 1) := by decide +kernel
theorem dX0_tick_42 : decode cX0_tick 42 = .ok (.invokevirtual 34, 3) := by decide +kernel
theorem dX0_tick_45 : decode cX0_tick 45 = .ok (.istore 4, 2) := by decide +kernel
theorem dX0_tick_47 : decode cX0_tick 47 = .ok (.iconst 0, 1) := by decide +kernel
theorem dX0_tick_48 : decode cX0_tick 48 = .ok (.istore 5, 2) := by decide +kernel
theorem dX0_tick_50 : decode cX0_tick 50 = .ok (.iload 5, 2) := by decide +kernel
theorem dX0_tick_52 : decode cX0_tick 52 = .ok (.aload_n 1, 1) := by decide +kernel
theorem dX0_tick_53 : decode cX0_tick 53 = .ok (.getfield 38, 3) := by decide +kernel
theorem dX0_tick_56 : decode cX0_tick 56 = .ok (.if_icmp .ge 15, 3) := by decide +kernel
theorem dX0_tick_59 : decode cX0_tick 59 = .ok (.aload_n 1, 1) := by decide +kernel
theorem dX0_tick_60 : decode cX0_tick 60 = .ok (.iload 5, 2) := by decide +kernel
theorem dX0_tick_62 : decode cX0_tick 62 = .ok (.invokevirtual 41, 3) := by decide +kernel
theorem dX0_tick_65 : decode cX0_tick 65 = .ok (.iinc 5 1, 3) := by decide +kernel
theorem dX0_tick_68 : decode cX0_tick 68 = .ok (.goto (-18), 3) := by decide +kernel
theorem dX0_tick_71 : decode cX0_tick 71 = .ok (.aload_n 1, 1) := by decide +kernel
theorem dX0_tick_72 : decode cX0_tick 72 = .ok (.invokevirtual 45, 3) := by decide +kernel
theorem dX0_tick_75 : decode cX0_tick 75 = .ok (.iload 4, 2) := by decide +kernel
theorem dX0_tick_77 : decode cX0_tick 77 = .ok (.ireturn, 1) := by decide +kernel
theorem dX0_walkOn_0 : decode cX0_walkOn 0 = .ok (.iconst 0, 1) := by decide +kernel
theorem dX0_walkOn_1 : decode cX0_walkOn 1 = .ok (.istore_n 2, 1) := by decide +kernel
theorem dX0_walkOn_2 : decode cX0_walkOn 2 = .ok (.iload_n 2, 1) := by decide +kernel
theorem dX0_walkOn_3 : decode cX0_walkOn 3 = .ok (.aload_n 1, 1) := by decide +kernel
theorem dX0_walkOn_4 : decode cX0_walkOn 4 = .ok (.getfield 48, 3) := by decide +kernel
theorem dX0_walkOn_7 : decode cX0_walkOn 7 = .ok (.if_icmp .ge 67, 3) := by decide +kernel
theorem dX0_walkOn_10 : decode cX0_walkOn 10 = .ok (.aload_n 1, 1) := by decide +kernel
theorem dX0_walkOn_11 : decode cX0_walkOn 11 = .ok (.getfield 51, 3) := by decide +kernel
theorem dX0_walkOn_14 : decode cX0_walkOn 14 = .ok (.iload_n 2, 1) := by decide +kernel
theorem dX0_walkOn_15 : decode cX0_walkOn 15 = .ok (.invokevirtual 55, 3) := by decide +kernel
theorem dX0_walkOn_18 : decode cX0_walkOn 18 = .ok (.istore_n 3, 1) := by decide +kernel
theorem dX0_walkOn_19 : decode cX0_walkOn 19 = .ok (.iload_n 3, 1) := by decide +kernel
theorem dX0_walkOn_20 : decode cX0_walkOn 20 = .ok (.iconst (-1), 1) := by decide +kernel
theorem dX0_walkOn_21 : decode cX0_walkOn 21 = .ok (.if_icmp .eq 47, 3) := by decide +kernel
theorem dX0_walkOn_24 : decode cX0_walkOn 24 = .ok (.aload_n 1, 1) := by decide +kernel
theorem dX0_walkOn_25 : decode cX0_walkOn 25 = .ok (.aload_n 1, 1) := by decide +kernel
theorem dX0_walkOn_26 : decode cX0_walkOn 26 = .ok (.getfield 61, 3) := by decide +kernel
theorem dX0_walkOn_29 : decode cX0_walkOn 29 = .ok (.iload_n 2, 1) := by decide +kernel
theorem dX0_walkOn_30 : decode cX0_walkOn 30 = .ok (.invokevirtual 55, 3) := by decide +kernel
theorem dX0_walkOn_33 : decode cX0_walkOn 33 = .ok (.iload_n 3, 1) := by decide +kernel
theorem dX0_walkOn_34 : decode cX0_walkOn 34 = .ok (.invokevirtual 64, 3) := by decide +kernel
theorem dX0_walkOn_37 : decode cX0_walkOn 37 = .ok (.istore 4, 2) := by decide +kernel
theorem dX0_walkOn_39 : decode cX0_walkOn 39 = .ok (.aload_n 1, 1) := by decide +kernel
theorem dX0_walkOn_40 : decode cX0_walkOn 40 = .ok (.getfield 61, 3) := by decide +kernel
theorem dX0_walkOn_43 : decode cX0_walkOn 43 = .ok (.iload_n 2, 1) := by decide +kernel
theorem dX0_walkOn_44 : decode cX0_walkOn 44 = .ok (.iload 4, 2) := by decide +kernel
theorem dX0_walkOn_46 : decode cX0_walkOn 46 = .ok (.invokevirtual 68, 3) := by decide +kernel
theorem dX0_walkOn_49 : decode cX0_walkOn 49 = .ok (.aload_n 1, 1) := by decide +kernel
theorem dX0_walkOn_50 : decode cX0_walkOn 50 = .ok (.getfield 51, 3) := by decide +kernel
theorem dX0_walkOn_53 : decode cX0_walkOn 53 = .ok (.iload_n 2, 1) := by decide +kernel
theorem dX0_walkOn_54 : decode cX0_walkOn 54 = .ok (.iload 4, 2) := by decide +kernel
theorem dX0_walkOn_56 : decode cX0_walkOn 56 = .ok (.iload_n 3, 1) := by decide +kernel
theorem dX0_walkOn_57 : decode cX0_walkOn 57 = .ok (.if_icmp .ne 7, 3) := by decide +kernel
theorem dX0_walkOn_60 : decode cX0_walkOn 60 = .ok (.iconst (-1), 1) := by decide +kernel
theorem dX0_walkOn_61 : decode cX0_walkOn 61 = .ok (.goto 4, 3) := by decide +kernel
theorem dX0_walkOn_64 : decode cX0_walkOn 64 = .ok (.iload_n 3, 1) := by decide +kernel
theorem dX0_walkOn_65 : decode cX0_walkOn 65 = .ok (.invokevirtual 68, 3) := by decide +kernel
theorem dX0_walkOn_68 : decode cX0_walkOn 68 = .ok (.iinc 2 1, 3) := by decide +kernel
theorem dX0_walkOn_71 : decode cX0_walkOn 71 = .ok (.goto (-69), 3) := by decide +kernel
theorem dX0_walkOn_74 : decode cX0_walkOn 74 = .ok (.return_, 1) := by decide +kernel
theorem dX0_lightLamps_0 : decode cX0_lightLamps 0 = .ok (.iconst 0, 1) := by decide +kernel
theorem dX0_lightLamps_1 : decode cX0_lightLamps 1 = .ok (.istore_n 3, 1) := by decide +kernel
theorem dX0_lightLamps_2 : decode cX0_lightLamps 2 = .ok (.iconst 0, 1) := by decide +kernel
theorem dX0_lightLamps_3 : decode cX0_lightLamps 3 = .ok (.istore 4, 2) := by decide +kernel
theorem dX0_lightLamps_5 : decode cX0_lightLamps 5 = .ok (.iload 4, 2) := by decide +kernel
theorem dX0_lightLamps_7 : decode cX0_lightLamps 7 = .ok (.aload_n 1, 1) := by decide +kernel
theorem dX0_lightLamps_8 : decode cX0_lightLamps 8 = .ok (.getfield 48, 3) := by decide +kernel
theorem dX0_lightLamps_11 : decode cX0_lightLamps 11 = .ok (.if_icmp .ge 65, 3) := by decide +kernel
theorem dX0_lightLamps_14 : decode cX0_lightLamps 14 = .ok (.aload_n 1, 1) := by decide +kernel
theorem dX0_lightLamps_15 : decode cX0_lightLamps 15 = .ok (.getfield 61, 3) := by decide +kernel
theorem dX0_lightLamps_18 : decode cX0_lightLamps 18 = .ok (.iload 4, 2) := by decide +kernel
theorem dX0_lightLamps_20 : decode cX0_lightLamps 20 = .ok (.invokevirtual 55, 3) := by decide +kernel
theorem dX0_lightLamps_23 : decode cX0_lightLamps 23 = .ok (.istore 5, 2) := by decide +kernel
theorem dX0_lightLamps_25 : decode cX0_lightLamps 25 = .ok (.aload_n 1, 1) := by decide +kernel
theorem dX0_lightLamps_26 : decode cX0_lightLamps 26 = .ok (.iload 4, 2) := by decide +kernel
theorem dX0_lightLamps_28 : decode cX0_lightLamps 28 = .ok (.iload 5, 2) := by decide +kernel
theorem dX0_lightLamps_30 : decode cX0_lightLamps 30 = .ok (.invokevirtual 72, 3) := by decide +kernel
theorem dX0_lightLamps_33 : decode cX0_lightLamps 33 = .ok (.istore 6, 2) := by decide +kernel
theorem dX0_lightLamps_35 : decode cX0_lightLamps 35 = .ok (.aload_n 2, 1) := by decide +kernel
theorem dX0_lightLamps_36 : decode cX0_lightLamps 36 = .ok (.aload_n 1, 1) := by decide +kernel
theorem dX0_lightLamps_37 : decode cX0_lightLamps 37 = .ok (.iload 4, 2) := by decide +kernel
theorem dX0_lightLamps_39 : decode cX0_lightLamps 39 = .ok (.iload 5, 2) := by decide +kernel
theorem dX0_lightLamps_41 : decode cX0_lightLamps 41 = .ok (.iload 6, 2) := by decide +kernel
theorem dX0_lightLamps_43 : decode cX0_lightLamps 43 = .ok (.aload_n 1, 1) := by decide +kernel
theorem dX0_lightLamps_44 : decode cX0_lightLamps 44 = .ok (.getfield 75, 3) := by decide +kernel
theorem dX0_lightLamps_47 : decode cX0_lightLamps 47 = .ok (.iload 4, 2) := by decide +kernel
theorem dX0_lightLamps_49 : decode cX0_lightLamps 49 = .ok (.invokevirtual 55, 3) := by decide +kernel
theorem dX0_lightLamps_52 : decode cX0_lightLamps 52 = .ok (.invokevirtual 78, 3) := by decide +kernel
theorem dX0_lightLamps_55 : decode cX0_lightLamps 55 = .ok (.ifCond .eq 15, 3) := by decide +kernel
theorem dX0_lightLamps_58 : decode cX0_lightLamps 58 = .ok (.aload_n 1, 1) := by decide +kernel
theorem dX0_lightLamps_59 : decode cX0_lightLamps 59 = .ok (.iload 4, 2) := by decide +kernel
theorem dX0_lightLamps_61 : decode cX0_lightLamps 61 = .ok (.iload 5, 2) := by decide +kernel
theorem dX0_lightLamps_63 : decode cX0_lightLamps 63 = .ok (.iconst 0, 1) := by decide +kernel
theorem dX0_lightLamps_64 : decode cX0_lightLamps 64 = .ok (.invokevirtual 84, 3) := by decide +kernel
theorem dX0_lightLamps_67 : decode cX0_lightLamps 67 = .ok (.iinc 3 1, 3) := by decide +kernel
theorem dX0_lightLamps_70 : decode cX0_lightLamps 70 = .ok (.iinc 4 1, 3) := by decide +kernel
theorem dX0_lightLamps_73 : decode cX0_lightLamps 73 = .ok (.goto (-68), 3) := by decide +kernel
theorem dX0_lightLamps_76 : decode cX0_lightLamps 76 = .ok (.iload_n 3, 1) := by decide +kernel
theorem dX0_lightLamps_77 : decode cX0_lightLamps 77 = .ok (.ireturn, 1) := by decide +kernel
theorem dX0_after_0 : decode cX0_after 0 = .ok (.aload_n 0, 1) := by decide +kernel
theorem dX0_after_1 : decode cX0_after 1 = .ok (.getfield 12, 3) := by decide +kernel
theorem dX0_after_4 : decode cX0_after 4 = .ok (.aload_n 1, 1) := by decide +kernel
theorem dX0_after_5 : decode cX0_after 5 = .ok (.invokevirtual 88, 3) := by decide +kernel
theorem dX0_after_8 : decode cX0_after 8 = .ok (.aload_n 0, 1) := by decide +kernel
theorem dX0_after_9 : decode cX0_after 9 = .ok (.getfield 12, 3) := by decide +kernel
theorem dX0_after_12 : decode cX0_after 12 = .ok (.iload 5, 2) := by decide +kernel
theorem dX0_after_14 : decode cX0_after 14 = .ok (.putfield 91, 3) := by decide +kernel
theorem dX0_after_17 : decode cX0_after 17 = .ok (.iconst 0, 1) := by decide +kernel
theorem dX0_after_18 : decode cX0_after 18 = .ok (.istore 6, 2) := by decide +kernel
theorem dX0_after_20 : decode cX0_after 20 = .ok (.iload 6, 2) := by decide +kernel
theorem dX0_after_22 : decode cX0_after 22 = .ok (.iload_n 3, 1) := by decide +kernel
theorem dX0_after_23 : decode cX0_after 23 = .ok (.if_icmp .ge 21, 3) := by decide +kernel
theorem dX0_after_26 : decode cX0_after 26 = .ok (.aload_n 0, 1) := by decide +kernel
theorem dX0_after_27 : decode cX0_after 27 = .ok (.aload_n 0, 1) := by decide +kernel
theorem dX0_after_28 : decode cX0_after 28 = .ok (.getfield 12, 3) := by decide +kernel
theorem dX0_after_31 : decode cX0_after 31 = .ok (.aload_n 2, 1) := by decide +kernel
theorem dX0_after_32 : decode cX0_after 32 = .ok (.iload 4, 2) := by decide +kernel
theorem dX0_after_34 : decode cX0_after 34 = .ok (.invokevirtual 94, 3) := by decide +kernel
theorem dX0_after_37 : decode cX0_after 37 = .ok (.pop, 1) := by decide +kernel
theorem dX0_after_38 : decode cX0_after 38 = .ok (.iinc 6 1, 3) := by decide +kernel
theorem dX0_after_41 : decode cX0_after 41 = .ok (.goto (-21), 3) := by decide +kernel
theorem dX0_after_44 : decode cX0_after 44 = .ok (.aload_n 0, 1) := by decide +kernel
theorem dX0_after_45 : decode cX0_after 45 = .ok (.getfield 12, 3) := by decide +kernel
theorem dX0_after_48 : decode cX0_after 48 = .ok (.areturn, 1) := by decide +kernel
theorem dX0_firstBurning_0 : decode cX0_firstBurning 0 = .ok (.aload_n 0, 1) := by decide +kernel
theorem dX0_firstBurning_1 : decode cX0_firstBurning 1 = .ok (.getfield 12, 3) := by decide +kernel
theorem dX0_firstBurning_4 : decode cX0_firstBurning 4 = .ok (.aload_n 1, 1) := by decide +kernel
theorem dX0_firstBurning_5 : decode cX0_firstBurning 5 = .ok (.invokevirtual 88, 3) := by decide +kernel
theorem dX0_firstBurning_8 : decode cX0_firstBurning 8 = .ok (.iconst 0, 1) := by decide +kernel
theorem dX0_firstBurning_9 : decode cX0_firstBurning 9 = .ok (.istore 4, 2) := by decide +kernel
theorem dX0_firstBurning_11 : decode cX0_firstBurning 11 = .ok (.iload 4, 2) := by decide +kernel
theorem dX0_firstBurning_13 : decode cX0_firstBurning 13 = .ok (.bipush 60, 2) := by decide +kernel
theorem dX0_firstBurning_15 : decode cX0_firstBurning 15 = .ok (.if_icmp .gt 34, 3) := by decide +kernel
theorem dX0_firstBurning_18 : decode cX0_firstBurning 18 = .ok (.aload_n 0, 1) := by decide +kernel
theorem dX0_firstBurning_19 : decode cX0_firstBurning 19 = .ok (.getfield 12, 3) := by decide +kernel
theorem dX0_firstBurning_22 : decode cX0_firstBurning 22 = .ok (.iload_n 3, 1) := by decide +kernel
theorem dX0_firstBurning_23 : decode cX0_firstBurning 23 = .ok (.invokevirtual 98, 3) := by decide +kernel
theorem dX0_firstBurning_26 : decode cX0_firstBurning 26 = .ok (.ifCond .eq 6, 3) := by decide +kernel
theorem dX0_firstBurning_29 : decode cX0_firstBurning 29 = .ok (.iload 4, 2) := by decide +kernel
theorem dX0_firstBurning_31 : decode cX0_firstBurning 31 = .ok (.ireturn, 1) := by decide +kernel
theorem dX0_firstBurning_32 : decode cX0_firstBurning 32 = .ok (.aload_n 0, 1) := by decide +kernel
theorem dX0_firstBurning_33 : decode cX0_firstBurning 33 = .ok (.aload_n 0, 1) := by decide +kernel
theorem dX0_firstBurning_34 : decode cX0_firstBurning 34 = .ok (.getfield 12, 3) := by decide +kernel
theorem dX0_firstBurning_37 : decode cX0_firstBurning 37 = .ok (.aload_n 2, 1) := by decide +kernel
theorem dX0_firstBurning_38 : decode cX0_firstBurning 38 = .ok (.iconst 0, 1) := by decide +kernel
theorem dX0_firstBurning_39 : decode cX0_firstBurning 39 = .ok (.invokevirtual 94, 3) := by decide +kernel
theorem dX0_firstBurning_42 : decode cX0_firstBurning 42 = .ok (.pop, 1) := by decide +kernel
theorem dX0_firstBurning_43 : decode cX0_firstBurning 43 = .ok (.iinc 4 1, 3) := by decide +kernel
theorem dX0_firstBurning_46 : decode cX0_firstBurning 46 = .ok (.goto (-35), 3) := by decide +kernel
theorem dX0_firstBurning_49 : decode cX0_firstBurning 49 = .ok (.iconst (-1), 1) := by decide +kernel
theorem dX0_firstBurning_50 : decode cX0_firstBurning 50 = .ok (.ireturn, 1) := by decide +kernel
theorem dX0_firstAllDark_0 : decode cX0_firstAllDark 0 = .ok (.aload_n 0, 1) := by decide +kernel
theorem dX0_firstAllDark_1 : decode cX0_firstAllDark 1 = .ok (.getfield 12, 3) := by decide +kernel
theorem dX0_firstAllDark_4 : decode cX0_firstAllDark 4 = .ok (.aload_n 1, 1) := by decide +kernel
theorem dX0_firstAllDark_5 : decode cX0_firstAllDark 5 = .ok (.invokevirtual 88, 3) := by decide +kernel
theorem dX0_firstAllDark_8 : decode cX0_firstAllDark 8 = .ok (.iconst 0, 1) := by decide +kernel
theorem dX0_firstAllDark_9 : decode cX0_firstAllDark 9 = .ok (.istore_n 3, 1) := by decide +kernel
theorem dX0_firstAllDark_10 : decode cX0_firstAllDark 10 = .ok (.iload_n 3, 1) := by decide +kernel
theorem dX0_firstAllDark_11 : decode cX0_firstAllDark 11 = .ok (.bipush 60, 2) := by decide +kernel
theorem dX0_firstAllDark_13 : decode cX0_firstAllDark 13 = .ok (.if_icmp .gt 32, 3) := by decide +kernel
theorem dX0_firstAllDark_16 : decode cX0_firstAllDark 16 = .ok (.aload_n 0, 1) := by decide +kernel
theorem dX0_firstAllDark_17 : decode cX0_firstAllDark 17 = .ok (.getfield 12, 3) := by decide +kernel
theorem dX0_firstAllDark_20 : decode cX0_firstAllDark 20 = .ok (.getfield 102, 3) := by decide +kernel
theorem dX0_firstAllDark_23 : decode cX0_firstAllDark 23 = .ok (.ifCond .ne 5, 3) := by decide +kernel
theorem dX0_firstAllDark_26 : decode cX0_firstAllDark 26 = .ok (.iload_n 3, 1) := by decide +kernel
theorem dX0_firstAllDark_27 : decode cX0_firstAllDark 27 = .ok (.ireturn, 1) := by decide +kernel
theorem dX0_firstAllDark_28 : decode cX0_firstAllDark 28 = .ok (.aload_n 0, 1) := by decide +kernel
theorem dX0_firstAllDark_29 : decode cX0_firstAllDark 29 = .ok (.aload_n 0, 1) := by decide +kernel
theorem dX0_firstAllDark_30 : decode cX0_firstAllDark 30 = .ok (.getfield 12, 3) := by decide +kernel
theorem dX0_firstAllDark_33 : decode cX0_firstAllDark 33 = .ok (.aload_n 2, 1) := by decide +kernel
theorem dX0_firstAllDark_34 : decode cX0_firstAllDark 34 = .ok (.iconst 0, 1) := by decide +kernel
theorem dX0_firstAllDark_35 : decode cX0_firstAllDark 35 = .ok (.invokevirtual 94, 3) := by decide +kernel
theorem dX0_firstAllDark_38 : decode cX0_firstAllDark 38 = .ok (.pop, 1) := by decide +kernel
theorem dX0_firstAllDark_39 : decode cX0_firstAllDark 39 = .ok (.iinc 3 1, 3) := by decide +kernel
theorem dX0_firstAllDark_42 : decode cX0_firstAllDark 42 = .ok (.goto (-32), 3) := by decide +kernel
theorem dX0_firstAllDark_45 : decode cX0_firstAllDark 45 = .ok (.iconst (-1), 1) := by decide +kernel
theorem dX0_firstAllDark_46 : decode cX0_firstAllDark 46 = .ok (.ireturn, 1) := by decide +kernel
theorem dX0_firstSpoon_0 : decode cX0_firstSpoon 0 = .ok (.aload_n 0, 1) := by decide +kernel
theorem dX0_firstSpoon_1 : decode cX0_firstSpoon 1 = .ok (.getfield 12, 3) := by decide +kernel
theorem dX0_firstSpoon_4 : decode cX0_firstSpoon 4 = .ok (.aload_n 1, 1) := by decide +kernel
theorem dX0_firstSpoon_5 : decode cX0_firstSpoon 5 = .ok (.invokevirtual 88, 3) := by decide +kernel
theorem dX0_firstSpoon_8 : decode cX0_firstSpoon 8 = .ok (.iconst 0, 1) := by decide +kernel
theorem dX0_firstSpoon_9 : decode cX0_firstSpoon 9 = .ok (.istore_n 3, 1) := by decide +kernel
theorem dX0_firstSpoon_10 : decode cX0_firstSpoon 10 = .ok (.iload_n 3, 1) := by decide +kernel
theorem dX0_firstSpoon_11 : decode cX0_firstSpoon 11 = .ok (.bipush 60, 2) := by decide +kernel
theorem dX0_firstSpoon_13 : decode cX0_firstSpoon 13 = .ok (.if_icmp .gt 76, 3) := by decide +kernel
theorem dX0_firstSpoon_16 : decode cX0_firstSpoon 16 = .ok (.iconst 0, 1) := by decide +kernel
theorem dX0_firstSpoon_17 : decode cX0_firstSpoon 17 = .ok (.istore 4, 2) := by decide +kernel
theorem dX0_firstSpoon_19 : decode cX0_firstSpoon 19 = .ok (.iload 4, 2) := by decide +kernel
theorem dX0_firstSpoon_21 : decode cX0_firstSpoon 21 = .ok (.aload_n 0, 1) := by decide +kernel
theorem dX0_firstSpoon_22 : decode cX0_firstSpoon 22 = .ok (.getfield 12, 3) := by decide +kernel
theorem dX0_firstSpoon_25 : decode cX0_firstSpoon 25 = .ok (.getfield 38, 3) := by decide +kernel
theorem dX0_firstSpoon_28 : decode cX0_firstSpoon 28 = .ok (.if_icmp .ge 44, 3) := by decide +kernel
theorem dX0_firstSpoon_31 : decode cX0_firstSpoon 31 = .ok (.aload_n 0, 1) := by decide +kernel
theorem dX0_firstSpoon_32 : decode cX0_firstSpoon 32 = .ok (.getfield 12, 3) := by decide +kernel
theorem dX0_firstSpoon_35 : decode cX0_firstSpoon 35 = .ok (.getfield 105, 3) := by decide +kernel
theorem dX0_firstSpoon_38 : decode cX0_firstSpoon 38 = .ok (.iload 4, 2) := by decide +kernel
theorem dX0_firstSpoon_40 : decode cX0_firstSpoon 40 = .ok (.invokevirtual 55, 3) := by decide +kernel
theorem dX0_firstSpoon_43 : decode cX0_firstSpoon 43 = .ok (.iconst (-1), 1) := by decide +kernel
theorem dX0_firstSpoon_44 : decode cX0_firstSpoon 44 = .ok (.if_icmp .eq 22, 3) := by decide +kernel
theorem dX0_firstSpoon_47 : decode cX0_firstSpoon 47 = .ok (.aload_n 0, 1) := by decide +kernel
theorem dX0_firstSpoon_48 : decode cX0_firstSpoon 48 = .ok (.getfield 12, 3) := by decide +kernel
theorem dX0_firstSpoon_51 : decode cX0_firstSpoon 51 = .ok (.getfield 108, 3) := by decide +kernel
theorem dX0_firstSpoon_54 : decode cX0_firstSpoon 54 = .ok (.iload 4, 2) := by decide +kernel
theorem dX0_firstSpoon_56 : decode cX0_firstSpoon 56 = .ok (.invokevirtual 55, 3) := by decide +kernel
theorem dX0_firstSpoon_59 : decode cX0_firstSpoon 59 = .ok (.iconst 3, 1) := by decide +kernel
theorem dX0_firstSpoon_60 : decode cX0_firstSpoon 60 = .ok (.if_icmp .lt 6, 3) := by decide +kernel
theorem dX0_firstSpoon_63 : decode cX0_firstSpoon 63 = .ok (.iload 4, 2) := by decide +kernel
theorem dX0_firstSpoon_65 : decode cX0_firstSpoon 65 = .ok (.ireturn, 1) := by decide +kernel
theorem dX0_firstSpoon_66 : decode cX0_firstSpoon 66 = .ok (.iinc 4 1, 3) := by decide +kernel
theorem dX0_firstSpoon_69 : decode cX0_firstSpoon 69 = .ok (.goto (-50), 3) := by decide +kernel
theorem dX0_firstSpoon_72 : decode cX0_firstSpoon 72 = .ok (.aload_n 0, 1) := by decide +kernel
theorem dX0_firstSpoon_73 : decode cX0_firstSpoon 73 = .ok (.aload_n 0, 1) := by decide +kernel
theorem dX0_firstSpoon_74 : decode cX0_firstSpoon 74 = .ok (.getfield 12, 3) := by decide +kernel
theorem dX0_firstSpoon_77 : decode cX0_firstSpoon 77 = .ok (.aload_n 2, 1) := by decide +kernel
theorem dX0_firstSpoon_78 : decode cX0_firstSpoon 78 = .ok (.iconst 0, 1) := by decide +kernel
theorem dX0_firstSpoon_79 : decode cX0_firstSpoon 79 = .ok (.invokevirtual 94, 3) := by decide +kernel
theorem dX0_firstSpoon_82 : decode cX0_firstSpoon 82 = .ok (.pop, 1) := by decide +kernel
theorem dX0_firstSpoon_83 : decode cX0_firstSpoon 83 = .ok (.iinc 3 1, 3) := by decide +kernel
theorem dX0_firstSpoon_86 : decode cX0_firstSpoon 86 = .ok (.goto (-76), 3) := by decide +kernel
theorem dX0_firstSpoon_89 : decode cX0_firstSpoon 89 = .ok (.iconst (-1), 1) := by decide +kernel
theorem dX0_firstSpoon_90 : decode cX0_firstSpoon 90 = .ok (.ireturn, 1) := by decide +kernel
theorem dX0_mistOdds_0 : decode cX0_mistOdds 0 = .ok (.lconst 0, 1) := by decide +kernel
theorem dX0_mistOdds_1 : decode cX0_mistOdds 1 = .ok (.lstore 4, 2) := by decide +kernel
theorem dX0_mistOdds_3 : decode cX0_mistOdds 3 = .ok (.iload_n 3, 1) := by decide +kernel
theorem dX0_mistOdds_4 : decode cX0_mistOdds 4 = .ok (.istore 6, 2) := by decide +kernel
theorem dX0_mistOdds_6 : decode cX0_mistOdds 6 = .ok (.iload 6, 2) := by decide +kernel
theorem dX0_mistOdds_8 : decode cX0_mistOdds 8 = .ok (.iload_n 2, 1) := by decide +kernel
theorem dX0_mistOdds_9 : decode cX0_mistOdds 9 = .ok (.if_icmp .gt 70, 3) := by decide +kernel
theorem dX0_mistOdds_12 : decode cX0_mistOdds 12 = .ok (.lconst 1, 1) := by decide +kernel
theorem dX0_mistOdds_13 : decode cX0_mistOdds 13 = .ok (.lstore 7, 2) := by decide +kernel
theorem dX0_mistOdds_15 : decode cX0_mistOdds 15 = .ok (.iconst 0, 1) := by decide +kernel
theorem dX0_mistOdds_16 : decode cX0_mistOdds 16 = .ok (.istore 9, 2) := by decide +kernel
theorem dX0_mistOdds_18 : decode cX0_mistOdds 18 = .ok (.iload 9, 2) := by decide +kernel
theorem dX0_mistOdds_20 : decode cX0_mistOdds 20 = .ok (.iload 6, 2) := by decide +kernel
theorem dX0_mistOdds_22 : decode cX0_mistOdds 22 = .ok (.if_icmp .ge 25, 3) := by decide +kernel
theorem dX0_mistOdds_25 : decode cX0_mistOdds 25 = .ok (.lload 7, 2) := by decide +kernel
theorem dX0_mistOdds_27 : decode cX0_mistOdds 27 = .ok (.iload_n 2, 1) := by decide +kernel
theorem dX0_mistOdds_28 : decode cX0_mistOdds 28 = .ok (.iload 9, 2) := by decide +kernel
theorem dX0_mistOdds_30 : decode cX0_mistOdds 30 = .ok (.isub, 1) := by decide +kernel
theorem dX0_mistOdds_31 : decode cX0_mistOdds 31 = .ok (.i2l, 1) := by decide +kernel
theorem dX0_mistOdds_32 : decode cX0_mistOdds 32 = .ok (.lmul, 1) := by decide +kernel
theorem dX0_mistOdds_33 : decode cX0_mistOdds 33 = .ok (.iload 9, 2) := by decide +kernel
theorem dX0_mistOdds_35 : decode cX0_mistOdds 35 = .ok (.iconst 1, 1) := by decide +kernel
theorem dX0_mistOdds_36 : decode cX0_mistOdds 36 = .ok (.iadd, 1) := by decide +kernel
theorem dX0_mistOdds_37 : decode cX0_mistOdds 37 = .ok (.i2l, 1) := by decide +kernel
theorem dX0_mistOdds_38 : decode cX0_mistOdds 38 = .ok (.ldiv, 1) := by decide +kernel
theorem dX0_mistOdds_39 : decode cX0_mistOdds 39 = .ok (.lstore 7, 2) := by decide +kernel
theorem dX0_mistOdds_41 : decode cX0_mistOdds 41 = .ok (.iinc 9 1, 3) := by decide +kernel
theorem dX0_mistOdds_44 : decode cX0_mistOdds 44 = .ok (.goto (-26), 3) := by decide +kernel
theorem dX0_mistOdds_47 : decode cX0_mistOdds 47 = .ok (.lload 4, 2) := by decide +kernel
theorem dX0_mistOdds_49 : decode cX0_mistOdds 49 = .ok (.lload 7, 2) := by decide +kernel
theorem dX0_mistOdds_51 : decode cX0_mistOdds 51 = .ok (.iload_n 1, 1) := by decide +kernel
theorem dX0_mistOdds_52 : decode cX0_mistOdds 52 = .ok (.iload 6, 2) := by decide +kernel
theorem dX0_mistOdds_54 : decode cX0_mistOdds 54 = .ok (.invokestatic 111, 3) := by decide +kernel
theorem dX0_mistOdds_57 : decode cX0_mistOdds 57 = .ok (.lmul, 1) := by decide +kernel
theorem dX0_mistOdds_58 : decode cX0_mistOdds 58 = .ok (.bipush 100, 2) := by decide +kernel
theorem dX0_mistOdds_60 : decode cX0_mistOdds 60 = .ok (.iload_n 1, 1) := by decide +kernel
theorem dX0_mistOdds_61 : decode cX0_mistOdds 61 = .ok (.isub, 1) := by decide +kernel
theorem dX0_mistOdds_62 : decode cX0_mistOdds 62 = .ok (.iload_n 2, 1) := by decide +kernel
theorem dX0_mistOdds_63 : decode cX0_mistOdds 63 = .ok (.iload 6, 2) := by decide +kernel
theorem dX0_mistOdds_65 : decode cX0_mistOdds 65 = .ok (.isub, 1) := by decide +kernel
theorem dX0_mistOdds_66 : decode cX0_mistOdds 66 = .ok (.invokestatic 111, 3) := by decide +kernel
theorem dX0_mistOdds_69 : decode cX0_mistOdds 69 = .ok (.lmul, 1) := by decide +kernel
theorem dX0_mistOdds_70 : decode cX0_mistOdds 70 = .ok (.ladd, 1) := by decide +kernel
theorem dX0_mistOdds_71 : decode cX0_mistOdds 71 = .ok (.lstore 4, 2) := by decide +kernel
theorem dX0_mistOdds_73 : decode cX0_mistOdds 73 = .ok (.iinc 6 1, 3) := by decide +kernel
theorem dX0_mistOdds_76 : decode cX0_mistOdds 76 = .ok (.goto (-70), 3) := by decide +kernel
theorem dX0_mistOdds_79 : decode cX0_mistOdds 79 = .ok (.bipush 100, 2) := by decide +kernel
theorem dX0_mistOdds_81 : decode cX0_mistOdds 81 = .ok (.iload_n 2, 1) := by decide +kernel
theorem dX0_mistOdds_82 : decode cX0_mistOdds 82 = .ok (.invokestatic 111, 3) := by decide +kernel
theorem dX0_mistOdds_85 : decode cX0_mistOdds 85 = .ok (.lstore 6, 2) := by decide +kernel
theorem dX0_mistOdds_87 : decode cX0_mistOdds 87 = .ok (.lload 6, 2) := by decide +kernel
theorem dX0_mistOdds_89 : decode cX0_mistOdds 89 = .ok (.lconst 0, 1) := by decide +kernel
theorem dX0_mistOdds_90 : decode cX0_mistOdds 90 = .ok (.lcmp, 1) := by decide +kernel
theorem dX0_mistOdds_91 : decode cX0_mistOdds 91 = .ok (.ifCond .gt 7, 3) := by decide +kernel
theorem dX0_mistOdds_94 : decode cX0_mistOdds 94 = .ok (.iconst 0, 1) := by decide +kernel
theorem dX0_mistOdds_95 : decode cX0_mistOdds 95 = .ok (.goto 13, 3) := by decide +kernel
theorem dX0_mistOdds_98 : decode cX0_mistOdds 98 = .ok (.lload 4, 2) := by decide +kernel
theorem dX0_mistOdds_100 : decode cX0_mistOdds 100 = .ok (.ldc2_w 115, 3) := by decide +kernel
theorem dX0_mistOdds_103 : decode cX0_mistOdds 103 = .ok (.lmul, 1) := by decide +kernel
theorem dX0_mistOdds_104 : decode cX0_mistOdds 104 = .ok (.lload 6, 2) := by decide +kernel
theorem dX0_mistOdds_106 : decode cX0_mistOdds 106 = .ok (.ldiv, 1) := by decide +kernel
theorem dX0_mistOdds_107 : decode cX0_mistOdds 107 = .ok (.l2i, 1) := by decide +kernel
theorem dX0_mistOdds_108 : decode cX0_mistOdds 108 = .ok (.ireturn, 1) := by decide +kernel
theorem dX0_power_0 : decode cX0_power 0 = .ok (.lconst 1, 1) := by decide +kernel
theorem dX0_power_1 : decode cX0_power 1 = .ok (.lstore_n 2, 1) := by decide +kernel
theorem dX0_power_2 : decode cX0_power 2 = .ok (.iconst 0, 1) := by decide +kernel
theorem dX0_power_3 : decode cX0_power 3 = .ok (.istore 4, 2) := by decide +kernel
theorem dX0_power_5 : decode cX0_power 5 = .ok (.iload 4, 2) := by decide +kernel
theorem dX0_power_7 : decode cX0_power 7 = .ok (.iload_n 1, 1) := by decide +kernel
theorem dX0_power_8 : decode cX0_power 8 = .ok (.if_icmp .ge 14, 3) := by decide +kernel
theorem dX0_power_11 : decode cX0_power 11 = .ok (.lload_n 2, 1) := by decide +kernel
theorem dX0_power_12 : decode cX0_power 12 = .ok (.iload_n 0, 1) := by decide +kernel
theorem dX0_power_13 : decode cX0_power 13 = .ok (.i2l, 1) := by decide +kernel
theorem dX0_power_14 : decode cX0_power 14 = .ok (.lmul, 1) := by decide +kernel
theorem dX0_power_15 : decode cX0_power 15 = .ok (.lstore_n 2, 1) := by decide +kernel
theorem dX0_power_16 : decode cX0_power 16 = .ok (.iinc 4 1, 3) := by decide +kernel
theorem dX0_power_19 : decode cX0_power 19 = .ok (.goto (-14), 3) := by decide +kernel
theorem dX0_power_22 : decode cX0_power 22 = .ok (.lload_n 2, 1) := by decide +kernel
theorem dX0_power_23 : decode cX0_power 23 = .ok (.lreturn, 1) := by decide +kernel
theorem dX1_init_0 : decode cX1_init 0 = .ok (.aload_n 0, 1) := by decide +kernel
theorem dX1_init_1 : decode cX1_init 1 = .ok (.invokespecial 3, 3) := by decide +kernel
theorem dX1_init_4 : decode cX1_init 4 = .ok (.aload_n 0, 1) := by decide +kernel
theorem dX1_init_5 : decode cX1_init 5 = .ok (.new 9, 3) := by decide +kernel
theorem dX1_init_8 : decode cX1_init 8 = .ok (.dup, 1) := by decide +kernel
theorem dX1_init_9 : decode cX1_init 9 = .ok (.bipush 64, 2) := by decide +kernel
theorem dX1_init_11 : decode cX1_init 11 = .ok (.invokespecial 11, 3) := by decide +kernel
theorem dX1_init_14 : decode cX1_init 14 = .ok (.putfield 14, 3) := by decide +kernel
theorem dX1_init_17 : decode cX1_init 17 = .ok (.return_, 1) := by decide +kernel
theorem dX1_canLight_0 : decode cX1_canLight 0 = .ok (.iconst 0, 1) := by decide +kernel
theorem dX1_canLight_1 : decode cX1_canLight 1 = .ok (.istore 4, 2) := by decide +kernel
theorem dX1_canLight_3 : decode cX1_canLight 3 = .ok (.iconst 0, 1) := by decide +kernel
theorem dX1_canLight_4 : decode cX1_canLight 4 = .ok (.istore 5, 2) := by decide +kernel
theorem dX1_canLight_6 : decode cX1_canLight 6 = .ok (.iload 5, 2) := by decide +kernel
theorem dX1_canLight_8 : decode cX1_canLight 8 = .ok (.aload_n 1, 1) := by decide +kernel
theorem dX1_canLight_9 : decode cX1_canLight 9 = .ok (.getfield 20, 3) := by decide +kernel
theorem dX1_canLight_12 : decode cX1_canLight 12 = .ok (.if_icmp .ge 50, 3) := by decide +kernel
theorem dX1_canLight_15 : decode cX1_canLight 15 = .ok (.aload_n 1, 1) := by decide +kernel
theorem dX1_canLight_16 : decode cX1_canLight 16 = .ok (.iload 5, 2) := by decide +kernel
theorem dX1_canLight_18 : decode cX1_canLight 18 = .ok (.iload_n 3, 1) := by decide +kernel
theorem dX1_canLight_19 : decode cX1_canLight 19 = .ok (.invokevirtual 26, 3) := by decide +kernel
theorem dX1_canLight_22 : decode cX1_canLight 22 = .ok (.istore 6, 2) := by decide +kernel
theorem dX1_canLight_24 : decode cX1_canLight 24 = .ok (.aload_n 2, 1) := by decide +kernel
theorem dX1_canLight_25 : decode cX1_canLight 25 = .ok (.aload_n 1, 1) := by decide +kernel
theorem dX1_canLight_26 : decode cX1_canLight 26 = .ok (.iload 5, 2) := by decide +kernel
theorem dX1_canLight_28 : decode cX1_canLight 28 = .ok (.iload_n 3, 1) := by decide +kernel
theorem dX1_canLight_29 : decode cX1_canLight 29 = .ok (.iload 6, 2) := by decide +kernel
theorem dX1_canLight_31 : decode cX1_canLight 31 = .ok (.aload_n 1, 1) := by decide +kernel
theorem dX1_canLight_32 : decode cX1_canLight 32 = .ok (.getfield 30, 3) := by decide +kernel
theorem dX1_canLight_35 : decode cX1_canLight 35 = .ok (.iload 5, 2) := by decide +kernel
theorem dX1_canLight_37 : decode cX1_canLight 37 = .ok (.invokevirtual 33, 3) := by decide +kernel
theorem dX1_canLight_40 : decode cX1_canLight 40 = .ok (.invokevirtual 37, 3) := by decide +kernel
theorem dX1_canLight_43 : decode cX1_canLight 43 = .ok (.ifCond .eq 13, 3) := by decide +kernel
theorem dX1_canLight_46 : decode cX1_canLight 46 = .ok (.iload 4, 2) := by decide +kernel
theorem dX1_canLight_48 : decode cX1_canLight 48 = .ok (.iload 5, 2) := by decide +kernel
theorem dX1_canLight_50 : decode cX1_canLight 50 = .ok (.invokestatic 43, 3) := by decide +kernel
theorem dX1_canLight_53 : decode cX1_canLight 53 = .ok (.ior, 1) := by decide +kernel
theorem dX1_canLight_54 : decode cX1_canLight 54 = .ok (.istore 4, 2) := by decide +kernel
theorem dX1_canLight_56 : decode cX1_canLight 56 = .ok (.iinc 5 1, 3) := by decide +kernel
theorem dX1_canLight_59 : decode cX1_canLight 59 = .ok (.goto (-53), 3) := by decide +kernel
theorem dX1_canLight_62 : decode cX1_canLight 62 = .ok (.iload 4, 2) := by decide +kernel
theorem dX1_canLight_64 : decode cX1_canLight 64 = .ok (.ireturn, 1) := by decide +kernel
theorem dX1_whyDark_0 : decode cX1_whyDark 0 = .ok (.aload_n 1, 1) := by decide +kernel
theorem dX1_whyDark_1 : decode cX1_whyDark 1 = .ok (.iload_n 3, 1) := by decide +kernel
theorem dX1_whyDark_2 : decode cX1_whyDark 2 = .ok (.invokevirtual 46, 3) := by decide +kernel
theorem dX1_whyDark_5 : decode cX1_whyDark 5 = .ok (.ifCond .ne 15, 3) := by decide +kernel
theorem dX1_whyDark_8 : decode cX1_whyDark 8 = .ok (.aload_n 1, 1) := by decide +kernel
theorem dX1_whyDark_9 : decode cX1_whyDark 9 = .ok (.getfield 50, 3) := by decide +kernel
theorem dX1_whyDark_12 : decode cX1_whyDark 12 = .ok (.iload_n 3, 1) := by decide +kernel
theorem dX1_whyDark_13 : decode cX1_whyDark 13 = .ok (.invokevirtual 33, 3) := by decide +kernel
theorem dX1_whyDark_16 : decode cX1_whyDark 16 = .ok (.iconst (-1), 1) := by decide +kernel
theorem dX1_whyDark_17 : decode cX1_whyDark 17 = .ok (.if_icmp .ne 5, 3) := by decide +kernel
theorem dX1_whyDark_20 : decode cX1_whyDark 20 = .ok (.iconst 0, 1) := by decide +kernel
theorem dX1_whyDark_21 : decode cX1_whyDark 21 = .ok (.ireturn, 1) := by decide +kernel
theorem dX1_whyDark_22 : decode cX1_whyDark 22 = .ok (.aload_n 0, 1) := by decide +kernel
theorem dX1_whyDark_23 : decode cX1_whyDark 23 = .ok (.aload_n 1, 1) := by decide +kernel
theorem dX1_whyDark_24 : decode cX1_whyDark 24 = .ok (.aload_n 2, 1) := by decide +kernel
theorem dX1_whyDark_25 : decode cX1_whyDark 25 = .ok (.iload_n 3, 1) := by decide +kernel
theorem dX1_whyDark_26 : decode cX1_whyDark 26 = .ok (.invokevirtual 53, 3) := by decide +kernel
theorem dX1_whyDark_29 : decode cX1_whyDark 29 = .ok (.istore 4, 2) := by decide +kernel
theorem dX1_whyDark_31 : decode cX1_whyDark 31 = .ok (.iconst 0, 1) := by decide +kernel
theorem dX1_whyDark_32 : decode cX1_whyDark 32 = .ok (.istore 5, 2) := by decide +kernel
theorem dX1_whyDark_34 : decode cX1_whyDark 34 = .ok (.iload 5, 2) := by decide +kernel
theorem dX1_whyDark_36 : decode cX1_whyDark 36 = .ok (.aload_n 1, 1) := by decide +kernel
theorem dX1_whyDark_37 : decode cX1_whyDark 37 = .ok (.getfield 20, 3) := by decide +kernel
theorem dX1_whyDark_40 : decode cX1_whyDark 40 = .ok (.if_icmp .ge 41, 3) := by decide +kernel
theorem dX1_whyDark_43 : decode cX1_whyDark 43 = .ok (.aload_n 2, 1) := by decide +kernel
theorem dX1_whyDark_44 : decode cX1_whyDark 44 = .ok (.aload_n 1, 1) := by decide +kernel
theorem dX1_whyDark_45 : decode cX1_whyDark 45 = .ok (.iload 5, 2) := by decide +kernel
theorem dX1_whyDark_47 : decode cX1_whyDark 47 = .ok (.iload_n 3, 1) := by decide +kernel
theorem dX1_whyDark_48 : decode cX1_whyDark 48 = .ok (.bipush 9, 2) := by decide +kernel
theorem dX1_whyDark_50 : decode cX1_whyDark 50 = .ok (.aload_n 1, 1) := by decide +kernel
theorem dX1_whyDark_51 : decode cX1_whyDark 51 = .ok (.getfield 30, 3) := by decide +kernel
theorem dX1_whyDark_54 : decode cX1_whyDark 54 = .ok (.iload 5, 2) := by decide +kernel
theorem dX1_whyDark_56 : decode cX1_whyDark 56 = .ok (.invokevirtual 33, 3) := by decide +kernel
theorem dX1_whyDark_59 : decode cX1_whyDark 59 = .ok (.invokevirtual 37, 3) := by decide +kernel
theorem dX1_whyDark_62 : decode cX1_whyDark 62 = .ok (.ifCond .eq 13, 3) := by decide +kernel
theorem dX1_whyDark_65 : decode cX1_whyDark 65 = .ok (.iload 4, 2) := by decide +kernel
theorem dX1_whyDark_67 : decode cX1_whyDark 67 = .ok (.iload 5, 2) := by decide +kernel
theorem dX1_whyDark_69 : decode cX1_whyDark 69 = .ok (.invokestatic 43, 3) := by decide +kernel
theorem dX1_whyDark_72 : decode cX1_whyDark 72 = .ok (.ior, 1) := by decide +kernel
theorem dX1_whyDark_73 : decode cX1_whyDark 73 = .ok (.istore 4, 2) := by decide +kernel
theorem dX1_whyDark_75 : decode cX1_whyDark 75 = .ok (.iinc 5 1, 3) := by decide +kernel
theorem dX1_whyDark_78 : decode cX1_whyDark 78 = .ok (.goto (-44), 3) := by decide +kernel
theorem dX1_whyDark_81 : decode cX1_whyDark 81 = .ok (.iload 4, 2) := by decide +kernel
theorem dX1_whyDark_83 : decode cX1_whyDark 83 = .ok (.ireturn, 1) := by decide +kernel
theorem dX1_neverLit_0 : decode cX1_neverLit 0 = .ok (.iconst 0, 1) := by decide +kernel
theorem dX1_neverLit_1 : decode cX1_neverLit 1 = .ok (.istore_n 3, 1) := by decide +kernel
theorem dX1_neverLit_2 : decode cX1_neverLit 2 = .ok (.iconst 0, 1) := by decide +kernel
theorem dX1_neverLit_3 : decode cX1_neverLit 3 = .ok (.istore 4, 2) := by decide +kernel
theorem dX1_neverLit_5 : decode cX1_neverLit 5 = .ok (.iload 4, 2) := by decide +kernel
theorem dX1_neverLit_7 : decode cX1_neverLit 7 = .ok (.aload_n 1, 1) := by decide +kernel
theorem dX1_neverLit_8 : decode cX1_neverLit 8 = .ok (.getfield 57, 3) := by decide +kernel
theorem dX1_neverLit_11 : decode cX1_neverLit 11 = .ok (.if_icmp .ge 37, 3) := by decide +kernel
theorem dX1_neverLit_14 : decode cX1_neverLit 14 = .ok (.aload_n 1, 1) := by decide +kernel
theorem dX1_neverLit_15 : decode cX1_neverLit 15 = .ok (.iload 4, 2) := by decide +kernel
theorem dX1_neverLit_17 : decode cX1_neverLit 17 = .ok (.invokevirtual 46, 3) := by decide +kernel
theorem dX1_neverLit_20 : decode cX1_neverLit 20 = .ok (.ifCond .ne 22, 3) := by decide +kernel
theorem dX1_neverLit_23 : decode cX1_neverLit 23 = .ok (.aload_n 0, 1) := by decide +kernel
theorem dX1_neverLit_24 : decode cX1_neverLit 24 = .ok (.aload_n 1, 1) := by decide +kernel
theorem dX1_neverLit_25 : decode cX1_neverLit 25 = .ok (.aload_n 2, 1) := by decide +kernel
theorem dX1_neverLit_26 : decode cX1_neverLit 26 = .ok (.iload 4, 2) := by decide +kernel
theorem dX1_neverLit_28 : decode cX1_neverLit 28 = .ok (.invokevirtual 53, 3) := by decide +kernel
theorem dX1_neverLit_31 : decode cX1_neverLit 31 = .ok (.ifCond .ne 11, 3) := by decide +kernel
theorem dX1_neverLit_34 : decode cX1_neverLit 34 = .ok (.iload_n 3, 1) := by decide +kernel
theorem dX1_neverLit_35 : decode cX1_neverLit 35 = .ok (.iload 4, 2) := by decide +kernel
theorem dX1_neverLit_37 : decode cX1_neverLit 37 = .ok (.invokestatic 43, 3) := by decide +kernel
theorem dX1_neverLit_40 : decode cX1_neverLit 40 = .ok (.ior, 1) := by decide +kernel
theorem dX1_neverLit_41 : decode cX1_neverLit 41 = .ok (.istore_n 3, 1) := by decide +kernel
theorem dX1_neverLit_42 : decode cX1_neverLit 42 = .ok (.iinc 4 1, 3) := by decide +kernel
theorem dX1_neverLit_45 : decode cX1_neverLit 45 = .ok (.goto (-40), 3) := by decide +kernel
theorem dX1_neverLit_48 : decode cX1_neverLit 48 = .ok (.iload_n 3, 1) := by decide +kernel
theorem dX1_neverLit_49 : decode cX1_neverLit 49 = .ok (.ireturn, 1) := by decide +kernel
theorem dX1_fewestMadeUp_0 : decode cX1_fewestMadeUp 0 = .ok (.iconst 0, 1) := by decide +kernel
theorem dX1_fewestMadeUp_1 : decode cX1_fewestMadeUp 1 = .ok (.istore_n 3, 1) := by decide +kernel
theorem dX1_fewestMadeUp_2 : decode cX1_fewestMadeUp 2 = .ok (.iconst 0, 1) := by decide +kernel
theorem dX1_fewestMadeUp_3 : decode cX1_fewestMadeUp 3 = .ok (.istore 4, 2) := by decide +kernel
theorem dX1_fewestMadeUp_5 : decode cX1_fewestMadeUp 5 = .ok (.iload 4, 2) := by decide +kernel
theorem dX1_fewestMadeUp_7 : decode cX1_fewestMadeUp 7 = .ok (.aload_n 1, 1) := by decide +kernel
theorem dX1_fewestMadeUp_8 : decode cX1_fewestMadeUp 8 = .ok (.getfield 57, 3) := by decide +kernel
theorem dX1_fewestMadeUp_11 : decode cX1_fewestMadeUp 11 = .ok (.if_icmp .ge 70, 3) := by decide +kernel
theorem dX1_fewestMadeUp_14 : decode cX1_fewestMadeUp 14 = .ok (.aload_n 1, 1) := by decide +kernel
theorem dX1_fewestMadeUp_15 : decode cX1_fewestMadeUp 15 = .ok (.iload 4, 2) := by decide +kernel
theorem dX1_fewestMadeUp_17 : decode cX1_fewestMadeUp 17 = .ok (.invokevirtual 46, 3) := by decide +kernel
theorem dX1_fewestMadeUp_20 : decode cX1_fewestMadeUp 20 = .ok (.ifCond .ne 20, 3) := by decide +kernel
theorem dX1_fewestMadeUp_23 : decode cX1_fewestMadeUp 23 = .ok (.aload_n 1, 1) := by decide +kernel
theorem dX1_fewestMadeUp_24 : decode cX1_fewestMadeUp 24 = .ok (.getfield 50, 3) := by decide +kernel
theorem dX1_fewestMadeUp_27 : decode cX1_fewestMadeUp 27 = .ok (.iload 4, 2) := by decide +kernel
theorem dX1_fewestMadeUp_29 : decode cX1_fewestMadeUp 29 = .ok (.invokevirtual 33, 3) := by decide +kernel
theorem dX1_fewestMadeUp_32 : decode cX1_fewestMadeUp 32 = .ok (.iconst (-1), 1) := by decide +kernel
theorem dX1_fewestMadeUp_33 : decode cX1_fewestMadeUp 33 = .ok (.if_icmp .eq 7, 3) := by decide +kernel
theorem dX1_fewestMadeUp_36 : decode cX1_fewestMadeUp 36 = .ok (.iconst 1, 1) := by decide +kernel
theorem dX1_fewestMadeUp_37 : decode cX1_fewestMadeUp 37 = .ok (.goto 4, 3) := by decide +kernel
theorem dX1_fewestMadeUp_40 : decode cX1_fewestMadeUp 40 = .ok (.iconst 0, 1) := by decide +kernel
theorem dX1_fewestMadeUp_41 : decode cX1_fewestMadeUp 41 = .ok (.istore 5, 2) := by decide +kernel
theorem dX1_fewestMadeUp_43 : decode cX1_fewestMadeUp 43 = .ok (.iload 5, 2) := by decide +kernel
theorem dX1_fewestMadeUp_45 : decode cX1_fewestMadeUp 45 = .ok (.ifCond .eq 30, 3) := by decide +kernel
theorem dX1_fewestMadeUp_48 : decode cX1_fewestMadeUp 48 = .ok (.aload_n 0, 1) := by decide +kernel
theorem dX1_fewestMadeUp_49 : decode cX1_fewestMadeUp 49 = .ok (.aload_n 1, 1) := by decide +kernel
theorem dX1_fewestMadeUp_50 : decode cX1_fewestMadeUp 50 = .ok (.aload_n 2, 1) := by decide +kernel
theorem dX1_fewestMadeUp_51 : decode cX1_fewestMadeUp 51 = .ok (.iload 4, 2) := by decide +kernel
theorem dX1_fewestMadeUp_53 : decode cX1_fewestMadeUp 53 = .ok (.invokevirtual 53, 3) := by decide +kernel
theorem dX1_fewestMadeUp_56 : decode cX1_fewestMadeUp 56 = .ok (.ifCond .ne 19, 3) := by decide +kernel
theorem dX1_fewestMadeUp_59 : decode cX1_fewestMadeUp 59 = .ok (.aload_n 0, 1) := by decide +kernel
theorem dX1_fewestMadeUp_60 : decode cX1_fewestMadeUp 60 = .ok (.aload_n 1, 1) := by decide +kernel
theorem dX1_fewestMadeUp_61 : decode cX1_fewestMadeUp 61 = .ok (.aload_n 2, 1) := by decide +kernel
theorem dX1_fewestMadeUp_62 : decode cX1_fewestMadeUp 62 = .ok (.iload 4, 2) := by decide +kernel
theorem dX1_fewestMadeUp_64 : decode cX1_fewestMadeUp 64 = .ok (.invokevirtual 60, 3) := by decide +kernel
theorem dX1_fewestMadeUp_67 : decode cX1_fewestMadeUp 67 = .ok (.ifCond .ne 5, 3) := by decide +kernel
theorem dX1_fewestMadeUp_70 : decode cX1_fewestMadeUp 70 = .ok (.iconst (-1), 1) := by decide +kernel
theorem dX1_fewestMadeUp_71 : decode cX1_fewestMadeUp 71 = .ok (.ireturn, 1) := by decide +kernel
theorem dX1_fewestMadeUp_72 : decode cX1_fewestMadeUp 72 = .ok (.iinc 3 1, 3) := by decide +kernel
theorem dX1_fewestMadeUp_75 : decode cX1_fewestMadeUp 75 = .ok (.iinc 4 1, 3) := by decide +kernel
theorem dX1_fewestMadeUp_78 : decode cX1_fewestMadeUp 78 = .ok (.goto (-73), 3) := by decide +kernel
theorem dX1_fewestMadeUp_81 : decode cX1_fewestMadeUp 81 = .ok (.iload_n 3, 1) := by decide +kernel
theorem dX1_fewestMadeUp_82 : decode cX1_fewestMadeUp 82 = .ok (.ireturn, 1) := by decide +kernel
theorem dX1_tapersFor_0 : decode cX1_tapersFor 0 = .ok (.aload_n 1, 1) := by decide +kernel
theorem dX1_tapersFor_1 : decode cX1_tapersFor 1 = .ok (.aload_n 1, 1) := by decide +kernel
theorem dX1_tapersFor_2 : decode cX1_tapersFor 2 = .ok (.getfield 63, 3) := by decide +kernel
theorem dX1_tapersFor_5 : decode cX1_tapersFor 5 = .ok (.iload_n 3, 1) := by decide +kernel
theorem dX1_tapersFor_6 : decode cX1_tapersFor 6 = .ok (.invokevirtual 33, 3) := by decide +kernel
theorem dX1_tapersFor_9 : decode cX1_tapersFor 9 = .ok (.iconst (-1), 1) := by decide +kernel
theorem dX1_tapersFor_10 : decode cX1_tapersFor 10 = .ok (.invokevirtual 66, 3) := by decide +kernel
theorem dX1_tapersFor_13 : decode cX1_tapersFor 13 = .ok (.istore 4, 2) := by decide +kernel
theorem dX1_tapersFor_15 : decode cX1_tapersFor 15 = .ok (.aload_n 1, 1) := by decide +kernel
theorem dX1_tapersFor_16 : decode cX1_tapersFor 16 = .ok (.getfield 30, 3) := by decide +kernel
theorem dX1_tapersFor_19 : decode cX1_tapersFor 19 = .ok (.iload_n 3, 1) := by decide +kernel
theorem dX1_tapersFor_20 : decode cX1_tapersFor 20 = .ok (.invokevirtual 33, 3) := by decide +kernel
theorem dX1_tapersFor_23 : decode cX1_tapersFor 23 = .ok (.iconst 1, 1) := by decide +kernel
theorem dX1_tapersFor_24 : decode cX1_tapersFor 24 = .ok (.invokestatic 69, 3) := by decide +kernel
theorem dX1_tapersFor_27 : decode cX1_tapersFor 27 = .ok (.istore 5, 2) := by decide +kernel
theorem dX1_tapersFor_29 : decode cX1_tapersFor 29 = .ok (.iconst 0, 1) := by decide +kernel
theorem dX1_tapersFor_30 : decode cX1_tapersFor 30 = .ok (.istore 6, 2) := by decide +kernel
theorem dX1_tapersFor_32 : decode cX1_tapersFor 32 = .ok (.iconst 0, 1) := by decide +kernel
theorem dX1_tapersFor_33 : decode cX1_tapersFor 33 = .ok (.istore 7, 2) := by decide +kernel
theorem dX1_tapersFor_35 : decode cX1_tapersFor 35 = .ok (.iload 7, 2) := by decide +kernel
theorem dX1_tapersFor_37 : decode cX1_tapersFor 37 = .ok (.aload_n 1, 1) := by decide +kernel
theorem dX1_tapersFor_38 : decode cX1_tapersFor 38 = .ok (.getfield 57, 3) := by decide +kernel
theorem dX1_tapersFor_41 : decode cX1_tapersFor 41 = .ok (.if_icmp .ge 46, 3) := by decide +kernel
theorem dX1_tapersFor_44 : decode cX1_tapersFor 44 = .ok (.aload_n 1, 1) := by decide +kernel
theorem dX1_tapersFor_45 : decode cX1_tapersFor 45 = .ok (.iload_n 3, 1) := by decide +kernel
theorem dX1_tapersFor_46 : decode cX1_tapersFor 46 = .ok (.iload 7, 2) := by decide +kernel
theorem dX1_tapersFor_48 : decode cX1_tapersFor 48 = .ok (.invokevirtual 26, 3) := by decide +kernel
theorem dX1_tapersFor_51 : decode cX1_tapersFor 51 = .ok (.istore 8, 2) := by decide +kernel
theorem dX1_tapersFor_53 : decode cX1_tapersFor 53 = .ok (.iload 4, 2) := by decide +kernel
theorem dX1_tapersFor_55 : decode cX1_tapersFor 55 = .ok (.iload 7, 2) := by decide +kernel
theorem dX1_tapersFor_57 : decode cX1_tapersFor 57 = .ok (.invokestatic 74, 3) := by decide +kernel
theorem dX1_tapersFor_60 : decode cX1_tapersFor 60 = .ok (.ifCond .eq 21, 3) := by decide +kernel
theorem dX1_tapersFor_63 : decode cX1_tapersFor 63 = .ok (.aload_n 2, 1) := by decide +kernel
theorem dX1_tapersFor_64 : decode cX1_tapersFor 64 = .ok (.aload_n 1, 1) := by decide +kernel
theorem dX1_tapersFor_65 : decode cX1_tapersFor 65 = .ok (.iload_n 3, 1) := by decide +kernel
theorem dX1_tapersFor_66 : decode cX1_tapersFor 66 = .ok (.iload 7, 2) := by decide +kernel
theorem dX1_tapersFor_68 : decode cX1_tapersFor 68 = .ok (.iload 8, 2) := by decide +kernel
theorem dX1_tapersFor_70 : decode cX1_tapersFor 70 = .ok (.iload 5, 2) := by decide +kernel
theorem dX1_tapersFor_72 : decode cX1_tapersFor 72 = .ok (.invokevirtual 37, 3) := by decide +kernel
theorem dX1_tapersFor_75 : decode cX1_tapersFor 75 = .ok (.ifCond .eq 6, 3) := by decide +kernel
theorem dX1_tapersFor_78 : decode cX1_tapersFor 78 = .ok (.iinc 6 1, 3) := by decide +kernel
theorem dX1_tapersFor_81 : decode cX1_tapersFor 81 = .ok (.iinc 7 1, 3) := by decide +kernel
theorem dX1_tapersFor_84 : decode cX1_tapersFor 84 = .ok (.goto (-49), 3) := by decide +kernel
theorem dX1_tapersFor_87 : decode cX1_tapersFor 87 = .ok (.iload 6, 2) := by decide +kernel
theorem dX1_tapersFor_89 : decode cX1_tapersFor 89 = .ok (.ireturn, 1) := by decide +kernel
theorem dX1_turnOf_0 : decode cX1_turnOf 0 = .ok (.iconst (-1), 1) := by decide +kernel
theorem dX1_turnOf_1 : decode cX1_turnOf 1 = .ok (.istore 4, 2) := by decide +kernel
theorem dX1_turnOf_3 : decode cX1_turnOf 3 = .ok (.sipush 1000, 3) := by decide +kernel
theorem dX1_turnOf_6 : decode cX1_turnOf 6 = .ok (.istore 5, 2) := by decide +kernel
theorem dX1_turnOf_8 : decode cX1_turnOf 8 = .ok (.iconst 0, 1) := by decide +kernel
theorem dX1_turnOf_9 : decode cX1_turnOf 9 = .ok (.istore 6, 2) := by decide +kernel
theorem dX1_turnOf_11 : decode cX1_turnOf 11 = .ok (.iload 6, 2) := by decide +kernel
theorem dX1_turnOf_13 : decode cX1_turnOf 13 = .ok (.aload_n 1, 1) := by decide +kernel
theorem dX1_turnOf_14 : decode cX1_turnOf 14 = .ok (.getfield 57, 3) := by decide +kernel
theorem dX1_turnOf_17 : decode cX1_turnOf 17 = .ok (.if_icmp .ge 58, 3) := by decide +kernel
theorem dX1_turnOf_20 : decode cX1_turnOf 20 = .ok (.aload_n 1, 1) := by decide +kernel
theorem dX1_turnOf_21 : decode cX1_turnOf 21 = .ok (.aload_n 1, 1) := by decide +kernel
theorem dX1_turnOf_22 : decode cX1_turnOf 22 = .ok (.getfield 63, 3) := by decide +kernel
theorem dX1_turnOf_25 : decode cX1_turnOf 25 = .ok (.iload_n 3, 1) := by decide +kernel
theorem dX1_turnOf_26 : decode cX1_turnOf 26 = .ok (.invokevirtual 33, 3) := by decide +kernel
theorem dX1_turnOf_29 : decode cX1_turnOf 29 = .ok (.iload 6, 2) := by decide +kernel
theorem dX1_turnOf_31 : decode cX1_turnOf 31 = .ok (.invokevirtual 78, 3) := by decide +kernel
theorem dX1_turnOf_34 : decode cX1_turnOf 34 = .ok (.istore 7, 2) := by decide +kernel
theorem dX1_turnOf_36 : decode cX1_turnOf 36 = .ok (.iload 7, 2) := by decide +kernel
theorem dX1_turnOf_38 : decode cX1_turnOf 38 = .ok (.iconst (-1), 1) := by decide +kernel
theorem dX1_turnOf_39 : decode cX1_turnOf 39 = .ok (.if_icmp .eq 30, 3) := by decide +kernel
theorem dX1_turnOf_42 : decode cX1_turnOf 42 = .ok (.iload 7, 2) := by decide +kernel
theorem dX1_turnOf_44 : decode cX1_turnOf 44 = .ok (.iload 5, 2) := by decide +kernel
theorem dX1_turnOf_46 : decode cX1_turnOf 46 = .ok (.if_icmp .ge 23, 3) := by decide +kernel
theorem dX1_turnOf_49 : decode cX1_turnOf 49 = .ok (.aload_n 0, 1) := by decide +kernel
theorem dX1_turnOf_50 : decode cX1_turnOf 50 = .ok (.aload_n 1, 1) := by decide +kernel
theorem dX1_turnOf_51 : decode cX1_turnOf 51 = .ok (.aload_n 2, 1) := by decide +kernel
theorem dX1_turnOf_52 : decode cX1_turnOf 52 = .ok (.iload_n 3, 1) := by decide +kernel
theorem dX1_turnOf_53 : decode cX1_turnOf 53 = .ok (.iload 6, 2) := by decide +kernel
theorem dX1_turnOf_55 : decode cX1_turnOf 55 = .ok (.invokevirtual 81, 3) := by decide +kernel
theorem dX1_turnOf_58 : decode cX1_turnOf 58 = .ok (.ifCond .eq 11, 3) := by decide +kernel
theorem dX1_turnOf_61 : decode cX1_turnOf 61 = .ok (.iload 7, 2) := by decide +kernel
theorem dX1_turnOf_63 : decode cX1_turnOf 63 = .ok (.istore 5, 2) := by decide +kernel
theorem dX1_turnOf_65 : decode cX1_turnOf 65 = .ok (.iload 6, 2) := by decide +kernel
theorem dX1_turnOf_67 : decode cX1_turnOf 67 = .ok (.istore 4, 2) := by decide +kernel
theorem dX1_turnOf_69 : decode cX1_turnOf 69 = .ok (.iinc 6 1, 3) := by decide +kernel
theorem dX1_turnOf_72 : decode cX1_turnOf 72 = .ok (.goto (-61), 3) := by decide +kernel
theorem dX1_turnOf_75 : decode cX1_turnOf 75 = .ok (.iload 4, 2) := by decide +kernel
theorem dX1_turnOf_77 : decode cX1_turnOf 77 = .ok (.ireturn, 1) := by decide +kernel
theorem dX1_isTrade_0 : decode cX1_isTrade 0 = .ok (.aload_n 1, 1) := by decide +kernel
theorem dX1_isTrade_1 : decode cX1_isTrade 1 = .ok (.getfield 50, 3) := by decide +kernel
theorem dX1_isTrade_4 : decode cX1_isTrade 4 = .ok (.iload 4, 2) := by decide +kernel
theorem dX1_isTrade_6 : decode cX1_isTrade 6 = .ok (.invokevirtual 33, 3) := by decide +kernel
theorem dX1_isTrade_9 : decode cX1_isTrade 9 = .ok (.istore 5, 2) := by decide +kernel
theorem dX1_isTrade_11 : decode cX1_isTrade 11 = .ok (.aload_n 1, 1) := by decide +kernel
theorem dX1_isTrade_12 : decode cX1_isTrade 12 = .ok (.iload_n 3, 1) := by decide +kernel
theorem dX1_isTrade_13 : decode cX1_isTrade 13 = .ok (.invokevirtual 85, 3) := by decide +kernel
theorem dX1_isTrade_16 : decode cX1_isTrade 16 = .ok (.istore 6, 2) := by decide +kernel
theorem dX1_isTrade_18 : decode cX1_isTrade 18 = .ok (.iload 5, 2) := by decide +kernel
theorem dX1_isTrade_20 : decode cX1_isTrade 20 = .ok (.iconst (-1), 1) := by decide +kernel
theorem dX1_isTrade_21 : decode cX1_isTrade 21 = .ok (.if_icmp .eq 15, 3) := by decide +kernel
theorem dX1_isTrade_24 : decode cX1_isTrade 24 = .ok (.iload 5, 2) := by decide +kernel
theorem dX1_isTrade_26 : decode cX1_isTrade 26 = .ok (.iload_n 3, 1) := by decide +kernel
theorem dX1_isTrade_27 : decode cX1_isTrade 27 = .ok (.if_icmp .eq 9, 3) := by decide +kernel
theorem dX1_isTrade_30 : decode cX1_isTrade 30 = .ok (.iload 6, 2) := by decide +kernel
theorem dX1_isTrade_32 : decode cX1_isTrade 32 = .ok (.iconst (-1), 1) := by decide +kernel
theorem dX1_isTrade_33 : decode cX1_isTrade 33 = .ok (.if_icmp .ne 5, 3) := by decide +kernel
theorem dX1_isTrade_36 : decode cX1_isTrade 36 = .ok (.iconst 0, 1) := by decide +kernel
theorem dX1_isTrade_37 : decode cX1_isTrade 37 = .ok (.ireturn, 1) := by decide +kernel
theorem dX1_isTrade_38 : decode cX1_isTrade 38 = .ok (.aload_n 1, 1) := by decide +kernel
theorem dX1_isTrade_39 : decode cX1_isTrade 39 = .ok (.iload 5, 2) := by decide +kernel
theorem dX1_isTrade_41 : decode cX1_isTrade 41 = .ok (.iload_n 3, 1) := by decide +kernel
theorem dX1_isTrade_42 : decode cX1_isTrade 42 = .ok (.invokevirtual 88, 3) := by decide +kernel
theorem dX1_isTrade_45 : decode cX1_isTrade 45 = .ok (.iconst 1, 1) := by decide +kernel
theorem dX1_isTrade_46 : decode cX1_isTrade 46 = .ok (.iadd, 1) := by decide +kernel
theorem dX1_isTrade_47 : decode cX1_isTrade 47 = .ok (.bipush 9, 2) := by decide +kernel
theorem dX1_isTrade_49 : decode cX1_isTrade 49 = .ok (.invokestatic 91, 3) := by decide +kernel
theorem dX1_isTrade_52 : decode cX1_isTrade 52 = .ok (.istore 7, 2) := by decide +kernel
theorem dX1_isTrade_54 : decode cX1_isTrade 54 = .ok (.aload_n 2, 1) := by decide +kernel
theorem dX1_isTrade_55 : decode cX1_isTrade 55 = .ok (.aload_n 1, 1) := by decide +kernel
theorem dX1_isTrade_56 : decode cX1_isTrade 56 = .ok (.iload_n 3, 1) := by decide +kernel
theorem dX1_isTrade_57 : decode cX1_isTrade 57 = .ok (.iload 4, 2) := by decide +kernel
theorem dX1_isTrade_59 : decode cX1_isTrade 59 = .ok (.aload_n 1, 1) := by decide +kernel
theorem dX1_isTrade_60 : decode cX1_isTrade 60 = .ok (.iload_n 3, 1) := by decide +kernel
theorem dX1_isTrade_61 : decode cX1_isTrade 61 = .ok (.iload 5, 2) := by decide +kernel
theorem dX1_isTrade_63 : decode cX1_isTrade 63 = .ok (.invokevirtual 88, 3) := by decide +kernel
theorem dX1_isTrade_66 : decode cX1_isTrade 66 = .ok (.aload_n 1, 1) := by decide +kernel
theorem dX1_isTrade_67 : decode cX1_isTrade 67 = .ok (.getfield 30, 3) := by decide +kernel
theorem dX1_isTrade_70 : decode cX1_isTrade 70 = .ok (.iload_n 3, 1) := by decide +kernel
theorem dX1_isTrade_71 : decode cX1_isTrade 71 = .ok (.invokevirtual 33, 3) := by decide +kernel
theorem dX1_isTrade_74 : decode cX1_isTrade 74 = .ok (.invokevirtual 37, 3) := by decide +kernel
theorem dX1_isTrade_77 : decode cX1_isTrade 77 = .ok (.ifCond .eq 30, 3) := by decide +kernel
theorem dX1_isTrade_80 : decode cX1_isTrade 80 = .ok (.aload_n 2, 1) := by decide +kernel
theorem dX1_isTrade_81 : decode cX1_isTrade 81 = .ok (.aload_n 1, 1) := by decide +kernel
theorem dX1_isTrade_82 : decode cX1_isTrade 82 = .ok (.iload 5, 2) := by decide +kernel
theorem dX1_isTrade_84 : decode cX1_isTrade 84 = .ok (.iload 6, 2) := by decide +kernel
theorem dX1_isTrade_86 : decode cX1_isTrade 86 = .ok (.iload 7, 2) := by decide +kernel
theorem dX1_isTrade_88 : decode cX1_isTrade 88 = .ok (.aload_n 1, 1) := by decide +kernel
theorem dX1_isTrade_89 : decode cX1_isTrade 89 = .ok (.getfield 30, 3) := by decide +kernel
theorem dX1_isTrade_92 : decode cX1_isTrade 92 = .ok (.iload 5, 2) := by decide +kernel
theorem dX1_isTrade_94 : decode cX1_isTrade 94 = .ok (.invokevirtual 33, 3) := by decide +kernel
theorem dX1_isTrade_97 : decode cX1_isTrade 97 = .ok (.invokevirtual 37, 3) := by decide +kernel
theorem dX1_isTrade_100 : decode cX1_isTrade 100 = .ok (.ifCond .eq 7, 3) := by decide +kernel
theorem dX1_isTrade_103 : decode cX1_isTrade 103 = .ok (.iconst 1, 1) := by decide +kernel
theorem dX1_isTrade_104 : decode cX1_isTrade 104 = .ok (.goto 4, 3) := by decide +kernel
theorem dX1_isTrade_107 : decode cX1_isTrade 107 = .ok (.iconst 0, 1) := by decide +kernel
theorem dX1_isTrade_108 : decode cX1_isTrade 108 = .ok (.ireturn, 1) := by decide +kernel
theorem dX1_comesBack_0 : decode cX1_comesBack 0 = .ok (.iload_n 3, 1) := by decide +kernel
theorem dX1_comesBack_1 : decode cX1_comesBack 1 = .ok (.istore 4, 2) := by decide +kernel
theorem dX1_comesBack_3 : decode cX1_comesBack 3 = .ok (.iconst 0, 1) := by decide +kernel
theorem dX1_comesBack_4 : decode cX1_comesBack 4 = .ok (.istore 5, 2) := by decide +kernel
theorem dX1_comesBack_6 : decode cX1_comesBack 6 = .ok (.iload 5, 2) := by decide +kernel
theorem dX1_comesBack_8 : decode cX1_comesBack 8 = .ok (.bipush 6, 2) := by decide +kernel
theorem dX1_comesBack_10 : decode cX1_comesBack 10 = .ok (.if_icmp .ge 46, 3) := by decide +kernel
theorem dX1_comesBack_13 : decode cX1_comesBack 13 = .ok (.aload_n 0, 1) := by decide +kernel
theorem dX1_comesBack_14 : decode cX1_comesBack 14 = .ok (.aload_n 1, 1) := by decide +kernel
theorem dX1_comesBack_15 : decode cX1_comesBack 15 = .ok (.aload_n 2, 1) := by decide +kernel
theorem dX1_comesBack_16 : decode cX1_comesBack 16 = .ok (.iload 4, 2) := by decide +kernel
theorem dX1_comesBack_18 : decode cX1_comesBack 18 = .ok (.invokevirtual 94, 3) := by decide +kernel
theorem dX1_comesBack_21 : decode cX1_comesBack 21 = .ok (.istore 6, 2) := by decide +kernel
theorem dX1_comesBack_23 : decode cX1_comesBack 23 = .ok (.iload 6, 2) := by decide +kernel
theorem dX1_comesBack_25 : decode cX1_comesBack 25 = .ok (.iconst (-1), 1) := by decide +kernel
theorem dX1_comesBack_26 : decode cX1_comesBack 26 = .ok (.if_icmp .ne 5, 3) := by decide +kernel
theorem dX1_comesBack_29 : decode cX1_comesBack 29 = .ok (.iconst 0, 1) := by decide +kernel
theorem dX1_comesBack_30 : decode cX1_comesBack 30 = .ok (.ireturn, 1) := by decide +kernel
theorem dX1_comesBack_31 : decode cX1_comesBack 31 = .ok (.aload_n 1, 1) := by decide +kernel
theorem dX1_comesBack_32 : decode cX1_comesBack 32 = .ok (.getfield 50, 3) := by decide +kernel
theorem dX1_comesBack_35 : decode cX1_comesBack 35 = .ok (.iload 6, 2) := by decide +kernel
theorem dX1_comesBack_37 : decode cX1_comesBack 37 = .ok (.invokevirtual 33, 3) := by decide +kernel
theorem dX1_comesBack_40 : decode cX1_comesBack 40 = .ok (.istore 4, 2) := by decide +kernel
theorem dX1_comesBack_42 : decode cX1_comesBack 42 = .ok (.iload 4, 2) := by decide +kernel
theorem dX1_comesBack_44 : decode cX1_comesBack 44 = .ok (.iload_n 3, 1) := by decide +kernel
theorem dX1_comesBack_45 : decode cX1_comesBack 45 = .ok (.if_icmp .ne 5, 3) := by decide +kernel
theorem dX1_comesBack_48 : decode cX1_comesBack 48 = .ok (.iconst 1, 1) := by decide +kernel
theorem dX1_comesBack_49 : decode cX1_comesBack 49 = .ok (.ireturn, 1) := by decide +kernel
theorem dX1_comesBack_50 : decode cX1_comesBack 50 = .ok (.iinc 5 1, 3) := by decide +kernel
theorem dX1_comesBack_53 : decode cX1_comesBack 53 = .ok (.goto (-47), 3) := by decide +kernel
theorem dX1_comesBack_56 : decode cX1_comesBack 56 = .ok (.iconst 0, 1) := by decide +kernel
theorem dX1_comesBack_57 : decode cX1_comesBack 57 = .ok (.ireturn, 1) := by decide +kernel
theorem dX1_secondSide_0 : decode cX1_secondSide 0 = .ok (.aload_n 1, 1) := by decide +kernel
theorem dX1_secondSide_1 : decode cX1_secondSide 1 = .ok (.getfield 20, 3) := by decide +kernel
theorem dX1_secondSide_4 : decode cX1_secondSide 4 = .ok (.iconst 2, 1) := by decide +kernel
theorem dX1_secondSide_5 : decode cX1_secondSide 5 = .ok (.if_icmp .ge 5, 3) := by decide +kernel
theorem dX1_secondSide_8 : decode cX1_secondSide 8 = .ok (.iconst (-1), 1) := by decide +kernel
theorem dX1_secondSide_9 : decode cX1_secondSide 9 = .ok (.ireturn, 1) := by decide +kernel
theorem dX1_secondSide_10 : decode cX1_secondSide 10 = .ok (.iconst (-1), 1) := by decide +kernel
theorem dX1_secondSide_11 : decode cX1_secondSide 11 = .ok (.istore_n 2, 1) := by decide +kernel
theorem dX1_secondSide_12 : decode cX1_secondSide 12 = .ok (.iconst (-1), 1) := by decide +kernel
theorem dX1_secondSide_13 : decode cX1_secondSide 13 = .ok (.istore_n 3, 1) := by decide +kernel
theorem dX1_secondSide_14 : decode cX1_secondSide 14 = .ok (.iconst 2, 1) := by decide +kernel
theorem dX1_secondSide_15 : decode cX1_secondSide 15 = .ok (.istore 4, 2) := by decide +kernel
theorem dX1_secondSide_17 : decode cX1_secondSide 17 = .ok (.iload 4, 2) := by decide +kernel
theorem dX1_secondSide_19 : decode cX1_secondSide 19 = .ok (.aload_n 1, 1) := by decide +kernel
theorem dX1_secondSide_20 : decode cX1_secondSide 20 = .ok (.getfield 20, 3) := by decide +kernel
theorem dX1_secondSide_23 : decode cX1_secondSide 23 = .ok (.invokestatic 43, 3) := by decide +kernel
theorem dX1_secondSide_26 : decode cX1_secondSide 26 = .ok (.if_icmp .ge 30, 3) := by decide +kernel
theorem dX1_secondSide_29 : decode cX1_secondSide 29 = .ok (.aload_n 0, 1) := by decide +kernel
theorem dX1_secondSide_30 : decode cX1_secondSide 30 = .ok (.aload_n 1, 1) := by decide +kernel
theorem dX1_secondSide_31 : decode cX1_secondSide 31 = .ok (.iload 4, 2) := by decide +kernel
theorem dX1_secondSide_33 : decode cX1_secondSide 33 = .ok (.invokevirtual 97, 3) := by decide +kernel
theorem dX1_secondSide_36 : decode cX1_secondSide 36 = .ok (.istore 5, 2) := by decide +kernel
theorem dX1_secondSide_38 : decode cX1_secondSide 38 = .ok (.iload 5, 2) := by decide +kernel
theorem dX1_secondSide_40 : decode cX1_secondSide 40 = .ok (.iload_n 3, 1) := by decide +kernel
theorem dX1_secondSide_41 : decode cX1_secondSide 41 = .ok (.if_icmp .le 9, 3) := by decide +kernel
theorem dX1_secondSide_44 : decode cX1_secondSide 44 = .ok (.iload 5, 2) := by decide +kernel
theorem dX1_secondSide_46 : decode cX1_secondSide 46 = .ok (.istore_n 3, 1) := by decide +kernel
theorem dX1_secondSide_47 : decode cX1_secondSide 47 = .ok (.iload 4, 2) := by decide +kernel
theorem dX1_secondSide_49 : decode cX1_secondSide 49 = .ok (.istore_n 2, 1) := by decide +kernel
theorem dX1_secondSide_50 : decode cX1_secondSide 50 = .ok (.iinc 4 2, 3) := by decide +kernel
theorem dX1_secondSide_53 : decode cX1_secondSide 53 = .ok (.goto (-36), 3) := by decide +kernel
theorem dX1_secondSide_56 : decode cX1_secondSide 56 = .ok (.iload_n 2, 1) := by decide +kernel
theorem dX1_secondSide_57 : decode cX1_secondSide 57 = .ok (.ireturn, 1) := by decide +kernel
theorem dX1_likesTogether_0 : decode cX1_likesTogether 0 = .ok (.iconst 0, 1) := by decide +kernel
theorem dX1_likesTogether_1 : decode cX1_likesTogether 1 = .ok (.istore_n 3, 1) := by decide +kernel
theorem dX1_likesTogether_2 : decode cX1_likesTogether 2 = .ok (.iconst 0, 1) := by decide +kernel
theorem dX1_likesTogether_3 : decode cX1_likesTogether 3 = .ok (.istore 4, 2) := by decide +kernel
theorem dX1_likesTogether_5 : decode cX1_likesTogether 5 = .ok (.iload 4, 2) := by decide +kernel
theorem dX1_likesTogether_7 : decode cX1_likesTogether 7 = .ok (.aload_n 1, 1) := by decide +kernel
theorem dX1_likesTogether_8 : decode cX1_likesTogether 8 = .ok (.getfield 20, 3) := by decide +kernel
theorem dX1_likesTogether_11 : decode cX1_likesTogether 11 = .ok (.if_icmp .ge 60, 3) := by decide +kernel
theorem dX1_likesTogether_14 : decode cX1_likesTogether 14 = .ok (.iconst 0, 1) := by decide +kernel
theorem dX1_likesTogether_15 : decode cX1_likesTogether 15 = .ok (.istore 5, 2) := by decide +kernel
theorem dX1_likesTogether_17 : decode cX1_likesTogether 17 = .ok (.iload 5, 2) := by decide +kernel
theorem dX1_likesTogether_19 : decode cX1_likesTogether 19 = .ok (.aload_n 1, 1) := by decide +kernel
theorem dX1_likesTogether_20 : decode cX1_likesTogether 20 = .ok (.getfield 20, 3) := by decide +kernel
theorem dX1_likesTogether_23 : decode cX1_likesTogether 23 = .ok (.if_icmp .ge 42, 3) := by decide +kernel
theorem dX1_likesTogether_26 : decode cX1_likesTogether 26 = .ok (.iload 4, 2) := by decide +kernel
theorem dX1_likesTogether_28 : decode cX1_likesTogether 28 = .ok (.iload 5, 2) := by decide +kernel
theorem dX1_likesTogether_30 : decode cX1_likesTogether 30 = .ok (.if_icmp .eq 29, 3) := by decide +kernel
theorem dX1_likesTogether_33 : decode cX1_likesTogether 33 = .ok (.iload_n 2, 1) := by decide +kernel
theorem dX1_likesTogether_34 : decode cX1_likesTogether 34 = .ok (.iload 4, 2) := by decide +kernel
theorem dX1_likesTogether_36 : decode cX1_likesTogether 36 = .ok (.invokestatic 74, 3) := by decide +kernel
theorem dX1_likesTogether_39 : decode cX1_likesTogether 39 = .ok (.iload_n 2, 1) := by decide +kernel
theorem dX1_likesTogether_40 : decode cX1_likesTogether 40 = .ok (.iload 5, 2) := by decide +kernel
theorem dX1_likesTogether_42 : decode cX1_likesTogether 42 = .ok (.invokestatic 74, 3) := by decide +kernel
theorem dX1_likesTogether_45 : decode cX1_likesTogether 45 = .ok (.if_icmp .ne 14, 3) := by decide +kernel
theorem dX1_likesTogether_48 : decode cX1_likesTogether 48 = .ok (.iload_n 3, 1) := by decide +kernel
theorem dX1_likesTogether_49 : decode cX1_likesTogether 49 = .ok (.aload_n 1, 1) := by decide +kernel
theorem dX1_likesTogether_50 : decode cX1_likesTogether 50 = .ok (.iload 4, 2) := by decide +kernel
theorem dX1_likesTogether_52 : decode cX1_likesTogether 52 = .ok (.iload 5, 2) := by decide +kernel
theorem dX1_likesTogether_54 : decode cX1_likesTogether 54 = .ok (.invokevirtual 88, 3) := by decide +kernel
theorem dX1_likesTogether_57 : decode cX1_likesTogether 57 = .ok (.iadd, 1) := by decide +kernel
theorem dX1_likesTogether_58 : decode cX1_likesTogether 58 = .ok (.istore_n 3, 1) := by decide +kernel
theorem dX1_likesTogether_59 : decode cX1_likesTogether 59 = .ok (.iinc 5 1, 3) := by decide +kernel
theorem dX1_likesTogether_62 : decode cX1_likesTogether 62 = .ok (.goto (-45), 3) := by decide +kernel
theorem dX1_likesTogether_65 : decode cX1_likesTogether 65 = .ok (.iinc 4 1, 3) := by decide +kernel
theorem dX1_likesTogether_68 : decode cX1_likesTogether 68 = .ok (.goto (-63), 3) := by decide +kernel
theorem dX1_likesTogether_71 : decode cX1_likesTogether 71 = .ok (.iload_n 3, 1) := by decide +kernel
theorem dX1_likesTogether_72 : decode cX1_likesTogether 72 = .ok (.ireturn, 1) := by decide +kernel
theorem dX1_mostByPairs_0 : decode cX1_mostByPairs 0 = .ok (.iconst 1, 1) := by decide +kernel
theorem dX1_mostByPairs_1 : decode cX1_mostByPairs 1 = .ok (.istore_n 2, 1) := by decide +kernel
theorem dX1_mostByPairs_2 : decode cX1_mostByPairs 2 = .ok (.iload_n 2, 1) := by decide +kernel
theorem dX1_mostByPairs_3 : decode cX1_mostByPairs 3 = .ok (.aload_n 1, 1) := by decide +kernel
theorem dX1_mostByPairs_4 : decode cX1_mostByPairs 4 = .ok (.getfield 20, 3) := by decide +kernel
theorem dX1_mostByPairs_7 : decode cX1_mostByPairs 7 = .ok (.invokestatic 43, 3) := by decide +kernel
theorem dX1_mostByPairs_10 : decode cX1_mostByPairs 10 = .ok (.if_icmp .ge 97, 3) := by decide +kernel
theorem dX1_mostByPairs_13 : decode cX1_mostByPairs 13 = .ok (.iload_n 2, 1) := by decide +kernel
theorem dX1_mostByPairs_14 : decode cX1_mostByPairs 14 = .ok (.invokestatic 101, 3) := by decide +kernel
theorem dX1_mostByPairs_17 : decode cX1_mostByPairs 17 = .ok (.istore_n 3, 1) := by decide +kernel
theorem dX1_mostByPairs_18 : decode cX1_mostByPairs 18 = .ok (.aload_n 0, 1) := by decide +kernel
theorem dX1_mostByPairs_19 : decode cX1_mostByPairs 19 = .ok (.getfield 14, 3) := by decide +kernel
theorem dX1_mostByPairs_22 : decode cX1_mostByPairs 22 = .ok (.iload_n 2, 1) := by decide +kernel
theorem dX1_mostByPairs_23 : decode cX1_mostByPairs 23 = .ok (.iload_n 3, 1) := by decide +kernel
theorem dX1_mostByPairs_24 : decode cX1_mostByPairs 24 = .ok (.invokestatic 43, 3) := by decide +kernel
theorem dX1_mostByPairs_27 : decode cX1_mostByPairs 27 = .ok (.iconst (-1), 1) := by decide +kernel
theorem dX1_mostByPairs_28 : decode cX1_mostByPairs 28 = .ok (.ixor, 1) := by decide +kernel
theorem dX1_mostByPairs_29 : decode cX1_mostByPairs 29 = .ok (.iand, 1) := by decide +kernel
theorem dX1_mostByPairs_30 : decode cX1_mostByPairs 30 = .ok (.invokevirtual 33, 3) := by decide +kernel
theorem dX1_mostByPairs_33 : decode cX1_mostByPairs 33 = .ok (.istore 4, 2) := by decide +kernel
theorem dX1_mostByPairs_35 : decode cX1_mostByPairs 35 = .ok (.iload_n 3, 1) := by decide +kernel
theorem dX1_mostByPairs_36 : decode cX1_mostByPairs 36 = .ok (.iconst 1, 1) := by decide +kernel
theorem dX1_mostByPairs_37 : decode cX1_mostByPairs 37 = .ok (.iadd, 1) := by decide +kernel
theorem dX1_mostByPairs_38 : decode cX1_mostByPairs 38 = .ok (.istore 5, 2) := by decide +kernel
theorem dX1_mostByPairs_40 : decode cX1_mostByPairs 40 = .ok (.iload 5, 2) := by decide +kernel
theorem dX1_mostByPairs_42 : decode cX1_mostByPairs 42 = .ok (.aload_n 1, 1) := by decide +kernel
theorem dX1_mostByPairs_43 : decode cX1_mostByPairs 43 = .ok (.getfield 20, 3) := by decide +kernel
theorem dX1_mostByPairs_46 : decode cX1_mostByPairs 46 = .ok (.if_icmp .ge 45, 3) := by decide +kernel
theorem dX1_mostByPairs_49 : decode cX1_mostByPairs 49 = .ok (.iload_n 2, 1) := by decide +kernel
theorem dX1_mostByPairs_50 : decode cX1_mostByPairs 50 = .ok (.iload 5, 2) := by decide +kernel
theorem dX1_mostByPairs_52 : decode cX1_mostByPairs 52 = .ok (.invokestatic 74, 3) := by decide +kernel
theorem dX1_mostByPairs_55 : decode cX1_mostByPairs 55 = .ok (.ifCond .eq 30, 3) := by decide +kernel
theorem dX1_mostByPairs_58 : decode cX1_mostByPairs 58 = .ok (.aload_n 0, 1) := by decide +kernel
theorem dX1_mostByPairs_59 : decode cX1_mostByPairs 59 = .ok (.aload_n 1, 1) := by decide +kernel
theorem dX1_mostByPairs_60 : decode cX1_mostByPairs 60 = .ok (.iload_n 3, 1) := by decide +kernel
theorem dX1_mostByPairs_61 : decode cX1_mostByPairs 61 = .ok (.iload 5, 2) := by decide +kernel
theorem dX1_mostByPairs_63 : decode cX1_mostByPairs 63 = .ok (.invokevirtual 104, 3) := by decide +kernel
theorem dX1_mostByPairs_66 : decode cX1_mostByPairs 66 = .ok (.ifCond .eq 19, 3) := by decide +kernel
theorem dX1_mostByPairs_69 : decode cX1_mostByPairs 69 = .ok (.iload 4, 2) := by decide +kernel
theorem dX1_mostByPairs_71 : decode cX1_mostByPairs 71 = .ok (.aload_n 0, 1) := by decide +kernel
theorem dX1_mostByPairs_72 : decode cX1_mostByPairs 72 = .ok (.aload_n 1, 1) := by decide +kernel
theorem dX1_mostByPairs_73 : decode cX1_mostByPairs 73 = .ok (.iload_n 2, 1) := by decide +kernel
theorem dX1_mostByPairs_74 : decode cX1_mostByPairs 74 = .ok (.iload_n 3, 1) := by decide +kernel
theorem dX1_mostByPairs_75 : decode cX1_mostByPairs 75 = .ok (.iload 5, 2) := by decide +kernel
theorem dX1_mostByPairs_77 : decode cX1_mostByPairs 77 = .ok (.invokevirtual 108, 3) := by decide +kernel
theorem dX1_mostByPairs_80 : decode cX1_mostByPairs 80 = .ok (.invokestatic 69, 3) := by decide +kernel
theorem dX1_mostByPairs_83 : decode cX1_mostByPairs 83 = .ok (.istore 4, 2) := by decide +kernel
theorem dX1_mostByPairs_85 : decode cX1_mostByPairs 85 = .ok (.iinc 5 1, 3) := by decide +kernel
theorem dX1_mostByPairs_88 : decode cX1_mostByPairs 88 = .ok (.goto (-48), 3) := by decide +kernel
theorem dX1_mostByPairs_91 : decode cX1_mostByPairs 91 = .ok (.aload_n 0, 1) := by decide +kernel
theorem dX1_mostByPairs_92 : decode cX1_mostByPairs 92 = .ok (.getfield 14, 3) := by decide +kernel
theorem dX1_mostByPairs_95 : decode cX1_mostByPairs 95 = .ok (.iload_n 2, 1) := by decide +kernel
theorem dX1_mostByPairs_96 : decode cX1_mostByPairs 96 = .ok (.iload 4, 2) := by decide +kernel
theorem dX1_mostByPairs_98 : decode cX1_mostByPairs 98 = .ok (.invokevirtual 112, 3) := by decide +kernel
theorem dX1_mostByPairs_101 : decode cX1_mostByPairs 101 = .ok (.iinc 2 1, 3) := by decide +kernel
theorem dX1_mostByPairs_104 : decode cX1_mostByPairs 104 = .ok (.goto (-102), 3) := by decide +kernel
theorem dX1_mostByPairs_107 : decode cX1_mostByPairs 107 = .ok (.aload_n 0, 1) := by decide +kernel
theorem dX1_mostByPairs_108 : decode cX1_mostByPairs 108 = .ok (.getfield 14, 3) := by decide +kernel
theorem dX1_mostByPairs_111 : decode cX1_mostByPairs 111 = .ok (.aload_n 1, 1) := by decide +kernel
theorem dX1_mostByPairs_112 : decode cX1_mostByPairs 112 = .ok (.getfield 20, 3) := by decide +kernel
theorem dX1_mostByPairs_115 : decode cX1_mostByPairs 115 = .ok (.invokestatic 43, 3) := by decide +kernel
theorem dX1_mostByPairs_118 : decode cX1_mostByPairs 118 = .ok (.iconst 1, 1) := by decide +kernel
theorem dX1_mostByPairs_119 : decode cX1_mostByPairs 119 = .ok (.isub, 1) := by decide +kernel
theorem dX1_mostByPairs_120 : decode cX1_mostByPairs 120 = .ok (.invokevirtual 33, 3) := by decide +kernel
theorem dX1_mostByPairs_123 : decode cX1_mostByPairs 123 = .ok (.ireturn, 1) := by decide +kernel
theorem dX1_arePair_0 : decode cX1_arePair 0 = .ok (.aload_n 1, 1) := by decide +kernel
theorem dX1_arePair_1 : decode cX1_arePair 1 = .ok (.aload_n 1, 1) := by decide +kernel
theorem dX1_arePair_2 : decode cX1_arePair 2 = .ok (.getfield 63, 3) := by decide +kernel
theorem dX1_arePair_5 : decode cX1_arePair 5 = .ok (.iload_n 2, 1) := by decide +kernel
theorem dX1_arePair_6 : decode cX1_arePair 6 = .ok (.invokevirtual 33, 3) := by decide +kernel
theorem dX1_arePair_9 : decode cX1_arePair 9 = .ok (.aload_n 1, 1) := by decide +kernel
theorem dX1_arePair_10 : decode cX1_arePair 10 = .ok (.getfield 63, 3) := by decide +kernel
theorem dX1_arePair_13 : decode cX1_arePair 13 = .ok (.iload_n 3, 1) := by decide +kernel
theorem dX1_arePair_14 : decode cX1_arePair 14 = .ok (.invokevirtual 33, 3) := by decide +kernel
theorem dX1_arePair_17 : decode cX1_arePair 17 = .ok (.invokevirtual 78, 3) := by decide +kernel
theorem dX1_arePair_20 : decode cX1_arePair 20 = .ok (.iconst (-1), 1) := by decide +kernel
theorem dX1_arePair_21 : decode cX1_arePair 21 = .ok (.if_icmp .eq 7, 3) := by decide +kernel
theorem dX1_arePair_24 : decode cX1_arePair 24 = .ok (.iconst 1, 1) := by decide +kernel
theorem dX1_arePair_25 : decode cX1_arePair 25 = .ok (.goto 4, 3) := by decide +kernel
theorem dX1_arePair_28 : decode cX1_arePair 28 = .ok (.iconst 0, 1) := by decide +kernel
theorem dX1_arePair_29 : decode cX1_arePair 29 = .ok (.ireturn, 1) := by decide +kernel
theorem dX1_mostWith_0 : decode cX1_mostWith 0 = .ok (.aload_n 1, 1) := by decide +kernel
theorem dX1_mostWith_1 : decode cX1_mostWith 1 = .ok (.iload_n 3, 1) := by decide +kernel
theorem dX1_mostWith_2 : decode cX1_mostWith 2 = .ok (.iload 4, 2) := by decide +kernel
theorem dX1_mostWith_4 : decode cX1_mostWith 4 = .ok (.invokevirtual 88, 3) := by decide +kernel
theorem dX1_mostWith_7 : decode cX1_mostWith 7 = .ok (.aload_n 1, 1) := by decide +kernel
theorem dX1_mostWith_8 : decode cX1_mostWith 8 = .ok (.iload 4, 2) := by decide +kernel
theorem dX1_mostWith_10 : decode cX1_mostWith 10 = .ok (.iload_n 3, 1) := by decide +kernel
theorem dX1_mostWith_11 : decode cX1_mostWith 11 = .ok (.invokevirtual 88, 3) := by decide +kernel
theorem dX1_mostWith_14 : decode cX1_mostWith 14 = .ok (.iadd, 1) := by decide +kernel
theorem dX1_mostWith_15 : decode cX1_mostWith 15 = .ok (.aload_n 0, 1) := by decide +kernel
theorem dX1_mostWith_16 : decode cX1_mostWith 16 = .ok (.getfield 14, 3) := by decide +kernel
theorem dX1_mostWith_19 : decode cX1_mostWith 19 = .ok (.iload_n 2, 1) := by decide +kernel
theorem dX1_mostWith_20 : decode cX1_mostWith 20 = .ok (.iload_n 3, 1) := by decide +kernel
theorem dX1_mostWith_21 : decode cX1_mostWith 21 = .ok (.invokestatic 43, 3) := by decide +kernel
theorem dX1_mostWith_24 : decode cX1_mostWith 24 = .ok (.iconst (-1), 1) := by decide +kernel
theorem dX1_mostWith_25 : decode cX1_mostWith 25 = .ok (.ixor, 1) := by decide +kernel
theorem dX1_mostWith_26 : decode cX1_mostWith 26 = .ok (.iand, 1) := by decide +kernel
theorem dX1_mostWith_27 : decode cX1_mostWith 27 = .ok (.iload 4, 2) := by decide +kernel
theorem dX1_mostWith_29 : decode cX1_mostWith 29 = .ok (.invokestatic 43, 3) := by decide +kernel
theorem dX1_mostWith_32 : decode cX1_mostWith 32 = .ok (.iconst (-1), 1) := by decide +kernel
theorem dX1_mostWith_33 : decode cX1_mostWith 33 = .ok (.ixor, 1) := by decide +kernel
theorem dX1_mostWith_34 : decode cX1_mostWith 34 = .ok (.iand, 1) := by decide +kernel
theorem dX1_mostWith_35 : decode cX1_mostWith 35 = .ok (.invokevirtual 33, 3) := by decide +kernel
theorem dX1_mostWith_38 : decode cX1_mostWith 38 = .ok (.iadd, 1) := by decide +kernel
theorem dX1_mostWith_39 : decode cX1_mostWith 39 = .ok (.ireturn, 1) := by decide +kernel
theorem dX1_partnerOf_0 : decode cX1_partnerOf 0 = .ok (.aload_n 0, 1) := by decide +kernel
theorem dX1_partnerOf_1 : decode cX1_partnerOf 1 = .ok (.aload_n 1, 1) := by decide +kernel
theorem dX1_partnerOf_2 : decode cX1_partnerOf 2 = .ok (.invokevirtual 116, 3) := by decide +kernel
theorem dX1_partnerOf_5 : decode cX1_partnerOf 5 = .ok (.pop, 1) := by decide +kernel
theorem dX1_partnerOf_6 : decode cX1_partnerOf 6 = .ok (.aload_n 1, 1) := by decide +kernel
theorem dX1_partnerOf_7 : decode cX1_partnerOf 7 = .ok (.getfield 20, 3) := by decide +kernel
theorem dX1_partnerOf_10 : decode cX1_partnerOf 10 = .ok (.invokestatic 43, 3) := by decide +kernel
theorem dX1_partnerOf_13 : decode cX1_partnerOf 13 = .ok (.iconst 1, 1) := by decide +kernel
theorem dX1_partnerOf_14 : decode cX1_partnerOf 14 = .ok (.isub, 1) := by decide +kernel
theorem dX1_partnerOf_15 : decode cX1_partnerOf 15 = .ok (.istore_n 3, 1) := by decide +kernel
theorem dX1_partnerOf_16 : decode cX1_partnerOf 16 = .ok (.iconst 0, 1) := by decide +kernel
theorem dX1_partnerOf_17 : decode cX1_partnerOf 17 = .ok (.istore 4, 2) := by decide +kernel
theorem dX1_partnerOf_19 : decode cX1_partnerOf 19 = .ok (.iload 4, 2) := by decide +kernel
theorem dX1_partnerOf_21 : decode cX1_partnerOf 21 = .ok (.aload_n 1, 1) := by decide +kernel
theorem dX1_partnerOf_22 : decode cX1_partnerOf 22 = .ok (.getfield 20, 3) := by decide +kernel
theorem dX1_partnerOf_25 : decode cX1_partnerOf 25 = .ok (.if_icmp .ge 72, 3) := by decide +kernel
theorem dX1_partnerOf_28 : decode cX1_partnerOf 28 = .ok (.iload_n 3, 1) := by decide +kernel
theorem dX1_partnerOf_29 : decode cX1_partnerOf 29 = .ok (.iload 4, 2) := by decide +kernel
theorem dX1_partnerOf_31 : decode cX1_partnerOf 31 = .ok (.invokestatic 74, 3) := by decide +kernel
theorem dX1_partnerOf_34 : decode cX1_partnerOf 34 = .ok (.ifCond .eq 57, 3) := by decide +kernel
theorem dX1_partnerOf_37 : decode cX1_partnerOf 37 = .ok (.aload_n 0, 1) := by decide +kernel
theorem dX1_partnerOf_38 : decode cX1_partnerOf 38 = .ok (.aload_n 1, 1) := by decide +kernel
theorem dX1_partnerOf_39 : decode cX1_partnerOf 39 = .ok (.iload_n 3, 1) := by decide +kernel
theorem dX1_partnerOf_40 : decode cX1_partnerOf 40 = .ok (.iload 4, 2) := by decide +kernel
theorem dX1_partnerOf_42 : decode cX1_partnerOf 42 = .ok (.invokevirtual 120, 3) := by decide +kernel
theorem dX1_partnerOf_45 : decode cX1_partnerOf 45 = .ok (.istore 5, 2) := by decide +kernel
theorem dX1_partnerOf_47 : decode cX1_partnerOf 47 = .ok (.iload 4, 2) := by decide +kernel
theorem dX1_partnerOf_49 : decode cX1_partnerOf 49 = .ok (.iload_n 2, 1) := by decide +kernel
theorem dX1_partnerOf_50 : decode cX1_partnerOf 50 = .ok (.if_icmp .ne 6, 3) := by decide +kernel
theorem dX1_partnerOf_53 : decode cX1_partnerOf 53 = .ok (.iload 5, 2) := by decide +kernel
theorem dX1_partnerOf_55 : decode cX1_partnerOf 55 = .ok (.ireturn, 1) := by decide +kernel
theorem dX1_partnerOf_56 : decode cX1_partnerOf 56 = .ok (.iload 5, 2) := by decide +kernel
theorem dX1_partnerOf_58 : decode cX1_partnerOf 58 = .ok (.iload_n 2, 1) := by decide +kernel
theorem dX1_partnerOf_59 : decode cX1_partnerOf 59 = .ok (.if_icmp .ne 6, 3) := by decide +kernel
theorem dX1_partnerOf_62 : decode cX1_partnerOf 62 = .ok (.iload 4, 2) := by decide +kernel
theorem dX1_partnerOf_64 : decode cX1_partnerOf 64 = .ok (.ireturn, 1) := by decide +kernel
theorem dX1_partnerOf_65 : decode cX1_partnerOf 65 = .ok (.iload_n 3, 1) := by decide +kernel
theorem dX1_partnerOf_66 : decode cX1_partnerOf 66 = .ok (.iload 4, 2) := by decide +kernel
theorem dX1_partnerOf_68 : decode cX1_partnerOf 68 = .ok (.invokestatic 43, 3) := by decide +kernel
theorem dX1_partnerOf_71 : decode cX1_partnerOf 71 = .ok (.iconst (-1), 1) := by decide +kernel
theorem dX1_partnerOf_72 : decode cX1_partnerOf 72 = .ok (.ixor, 1) := by decide +kernel
theorem dX1_partnerOf_73 : decode cX1_partnerOf 73 = .ok (.iand, 1) := by decide +kernel
theorem dX1_partnerOf_74 : decode cX1_partnerOf 74 = .ok (.istore_n 3, 1) := by decide +kernel
theorem dX1_partnerOf_75 : decode cX1_partnerOf 75 = .ok (.iload 5, 2) := by decide +kernel
theorem dX1_partnerOf_77 : decode cX1_partnerOf 77 = .ok (.iconst (-1), 1) := by decide +kernel
theorem dX1_partnerOf_78 : decode cX1_partnerOf 78 = .ok (.if_icmp .eq 13, 3) := by decide +kernel
theorem dX1_partnerOf_81 : decode cX1_partnerOf 81 = .ok (.iload_n 3, 1) := by decide +kernel
theorem dX1_partnerOf_82 : decode cX1_partnerOf 82 = .ok (.iload 5, 2) := by decide +kernel
theorem dX1_partnerOf_84 : decode cX1_partnerOf 84 = .ok (.invokestatic 43, 3) := by decide +kernel
theorem dX1_partnerOf_87 : decode cX1_partnerOf 87 = .ok (.iconst (-1), 1) := by decide +kernel
theorem dX1_partnerOf_88 : decode cX1_partnerOf 88 = .ok (.ixor, 1) := by decide +kernel
theorem dX1_partnerOf_89 : decode cX1_partnerOf 89 = .ok (.iand, 1) := by decide +kernel
theorem dX1_partnerOf_90 : decode cX1_partnerOf 90 = .ok (.istore_n 3, 1) := by decide +kernel
theorem dX1_partnerOf_91 : decode cX1_partnerOf 91 = .ok (.iinc 4 1, 3) := by decide +kernel
theorem dX1_partnerOf_94 : decode cX1_partnerOf 94 = .ok (.goto (-75), 3) := by decide +kernel
theorem dX1_partnerOf_97 : decode cX1_partnerOf 97 = .ok (.iconst (-1), 1) := by decide +kernel
theorem dX1_partnerOf_98 : decode cX1_partnerOf 98 = .ok (.ireturn, 1) := by decide +kernel
theorem dX1_firstPartner_0 : decode cX1_firstPartner 0 = .ok (.aload_n 0, 1) := by decide +kernel
theorem dX1_firstPartner_1 : decode cX1_firstPartner 1 = .ok (.getfield 14, 3) := by decide +kernel
theorem dX1_firstPartner_4 : decode cX1_firstPartner 4 = .ok (.iload_n 2, 1) := by decide +kernel
theorem dX1_firstPartner_5 : decode cX1_firstPartner 5 = .ok (.iload_n 3, 1) := by decide +kernel
theorem dX1_firstPartner_6 : decode cX1_firstPartner 6 = .ok (.invokestatic 43, 3) := by decide +kernel
theorem dX1_firstPartner_9 : decode cX1_firstPartner 9 = .ok (.iconst (-1), 1) := by decide +kernel
theorem dX1_firstPartner_10 : decode cX1_firstPartner 10 = .ok (.ixor, 1) := by decide +kernel
theorem dX1_firstPartner_11 : decode cX1_firstPartner 11 = .ok (.iand, 1) := by decide +kernel
theorem dX1_firstPartner_12 : decode cX1_firstPartner 12 = .ok (.invokevirtual 33, 3) := by decide +kernel
theorem dX1_firstPartner_15 : decode cX1_firstPartner 15 = .ok (.aload_n 0, 1) := by decide +kernel
theorem dX1_firstPartner_16 : decode cX1_firstPartner 16 = .ok (.getfield 14, 3) := by decide +kernel
theorem dX1_firstPartner_19 : decode cX1_firstPartner 19 = .ok (.iload_n 2, 1) := by decide +kernel
theorem dX1_firstPartner_20 : decode cX1_firstPartner 20 = .ok (.invokevirtual 33, 3) := by decide +kernel
theorem dX1_firstPartner_23 : decode cX1_firstPartner 23 = .ok (.if_icmp .ne 5, 3) := by decide +kernel
theorem dX1_firstPartner_26 : decode cX1_firstPartner 26 = .ok (.iconst (-1), 1) := by decide +kernel
theorem dX1_firstPartner_27 : decode cX1_firstPartner 27 = .ok (.ireturn, 1) := by decide +kernel
theorem dX1_firstPartner_28 : decode cX1_firstPartner 28 = .ok (.iload_n 3, 1) := by decide +kernel
theorem dX1_firstPartner_29 : decode cX1_firstPartner 29 = .ok (.iconst 1, 1) := by decide +kernel
theorem dX1_firstPartner_30 : decode cX1_firstPartner 30 = .ok (.iadd, 1) := by decide +kernel
theorem dX1_firstPartner_31 : decode cX1_firstPartner 31 = .ok (.istore 4, 2) := by decide +kernel
theorem dX1_firstPartner_33 : decode cX1_firstPartner 33 = .ok (.iload 4, 2) := by decide +kernel
theorem dX1_firstPartner_35 : decode cX1_firstPartner 35 = .ok (.aload_n 1, 1) := by decide +kernel
theorem dX1_firstPartner_36 : decode cX1_firstPartner 36 = .ok (.getfield 20, 3) := by decide +kernel
theorem dX1_firstPartner_39 : decode cX1_firstPartner 39 = .ok (.if_icmp .ge 52, 3) := by decide +kernel
theorem dX1_firstPartner_42 : decode cX1_firstPartner 42 = .ok (.iload_n 2, 1) := by decide +kernel
theorem dX1_firstPartner_43 : decode cX1_firstPartner 43 = .ok (.iload 4, 2) := by decide +kernel
theorem dX1_firstPartner_45 : decode cX1_firstPartner 45 = .ok (.invokestatic 74, 3) := by decide +kernel
theorem dX1_firstPartner_48 : decode cX1_firstPartner 48 = .ok (.ifCond .eq 37, 3) := by decide +kernel
theorem dX1_firstPartner_51 : decode cX1_firstPartner 51 = .ok (.aload_n 0, 1) := by decide +kernel
theorem dX1_firstPartner_52 : decode cX1_firstPartner 52 = .ok (.aload_n 1, 1) := by decide +kernel
theorem dX1_firstPartner_53 : decode cX1_firstPartner 53 = .ok (.iload_n 3, 1) := by decide +kernel
theorem dX1_firstPartner_54 : decode cX1_firstPartner 54 = .ok (.iload 4, 2) := by decide +kernel
theorem dX1_firstPartner_56 : decode cX1_firstPartner 56 = .ok (.invokevirtual 104, 3) := by decide +kernel
theorem dX1_firstPartner_59 : decode cX1_firstPartner 59 = .ok (.ifCond .eq 26, 3) := by decide +kernel
theorem dX1_firstPartner_62 : decode cX1_firstPartner 62 = .ok (.aload_n 0, 1) := by decide +kernel
theorem dX1_firstPartner_63 : decode cX1_firstPartner 63 = .ok (.aload_n 1, 1) := by decide +kernel
theorem dX1_firstPartner_64 : decode cX1_firstPartner 64 = .ok (.iload_n 2, 1) := by decide +kernel
theorem dX1_firstPartner_65 : decode cX1_firstPartner 65 = .ok (.iload_n 3, 1) := by decide +kernel
theorem dX1_firstPartner_66 : decode cX1_firstPartner 66 = .ok (.iload 4, 2) := by decide +kernel
theorem dX1_firstPartner_68 : decode cX1_firstPartner 68 = .ok (.invokevirtual 108, 3) := by decide +kernel
theorem dX1_firstPartner_71 : decode cX1_firstPartner 71 = .ok (.aload_n 0, 1) := by decide +kernel
theorem dX1_firstPartner_72 : decode cX1_firstPartner 72 = .ok (.getfield 14, 3) := by decide +kernel
theorem dX1_firstPartner_75 : decode cX1_firstPartner 75 = .ok (.iload_n 2, 1) := by decide +kernel
theorem dX1_firstPartner_76 : decode cX1_firstPartner 76 = .ok (.invokevirtual 33, 3) := by decide +kernel
theorem dX1_firstPartner_79 : decode cX1_firstPartner 79 = .ok (.if_icmp .ne 6, 3) := by decide +kernel
theorem dX1_firstPartner_82 : decode cX1_firstPartner 82 = .ok (.iload 4, 2) := by decide +kernel
theorem dX1_firstPartner_84 : decode cX1_firstPartner 84 = .ok (.ireturn, 1) := by decide +kernel
theorem dX1_firstPartner_85 : decode cX1_firstPartner 85 = .ok (.iinc 4 1, 3) := by decide +kernel
theorem dX1_firstPartner_88 : decode cX1_firstPartner 88 = .ok (.goto (-55), 3) := by decide +kernel
theorem dX1_firstPartner_91 : decode cX1_firstPartner 91 = .ok (.iconst (-1), 1) := by decide +kernel
theorem dX1_firstPartner_92 : decode cX1_firstPartner 92 = .ok (.ireturn, 1) := by decide +kernel
theorem dX1_areRows_0 : decode cX1_areRows 0 = .ok (.iload_n 3, 1) := by decide +kernel
theorem dX1_areRows_1 : decode cX1_areRows 1 = .ok (.bipush 39, 2) := by decide +kernel
theorem dX1_areRows_3 : decode cX1_areRows 3 = .ok (.if_icmp .gt 9, 3) := by decide +kernel
theorem dX1_areRows_6 : decode cX1_areRows 6 = .ok (.iload_n 3, 1) := by decide +kernel
theorem dX1_areRows_7 : decode cX1_areRows 7 = .ok (.iconst 3, 1) := by decide +kernel
theorem dX1_areRows_8 : decode cX1_areRows 8 = .ok (.irem, 1) := by decide +kernel
theorem dX1_areRows_9 : decode cX1_areRows 9 = .ok (.ifCond .eq 5, 3) := by decide +kernel
theorem dX1_areRows_12 : decode cX1_areRows 12 = .ok (.iconst 0, 1) := by decide +kernel
theorem dX1_areRows_13 : decode cX1_areRows 13 = .ok (.ireturn, 1) := by decide +kernel
theorem dX1_areRows_14 : decode cX1_areRows 14 = .ok (.iconst 0, 1) := by decide +kernel
theorem dX1_areRows_15 : decode cX1_areRows 15 = .ok (.istore 4, 2) := by decide +kernel
theorem dX1_areRows_17 : decode cX1_areRows 17 = .ok (.iload 4, 2) := by decide +kernel
theorem dX1_areRows_19 : decode cX1_areRows 19 = .ok (.iload_n 3, 1) := by decide +kernel
theorem dX1_areRows_20 : decode cX1_areRows 20 = .ok (.if_icmp .ge 85, 3) := by decide +kernel
theorem dX1_areRows_23 : decode cX1_areRows 23 = .ok (.aload_n 2, 1) := by decide +kernel
theorem dX1_areRows_24 : decode cX1_areRows 24 = .ok (.iload 4, 2) := by decide +kernel
theorem dX1_areRows_26 : decode cX1_areRows 26 = .ok (.invokevirtual 124, 3) := by decide +kernel
theorem dX1_areRows_29 : decode cX1_areRows 29 = .ok (.istore 5, 2) := by decide +kernel
theorem dX1_areRows_31 : decode cX1_areRows 31 = .ok (.aload_n 2, 1) := by decide +kernel
theorem dX1_areRows_32 : decode cX1_areRows 32 = .ok (.iload 4, 2) := by decide +kernel
theorem dX1_areRows_34 : decode cX1_areRows 34 = .ok (.iconst 1, 1) := by decide +kernel
theorem dX1_areRows_35 : decode cX1_areRows 35 = .ok (.iadd, 1) := by decide +kernel
theorem dX1_areRows_36 : decode cX1_areRows 36 = .ok (.invokevirtual 124, 3) := by decide +kernel
theorem dX1_areRows_39 : decode cX1_areRows 39 = .ok (.istore 6, 2) := by decide +kernel
theorem dX1_areRows_41 : decode cX1_areRows 41 = .ok (.iload 5, 2) := by decide +kernel
theorem dX1_areRows_43 : decode cX1_areRows 43 = .ok (.aload_n 1, 1) := by decide +kernel
theorem dX1_areRows_44 : decode cX1_areRows 44 = .ok (.getfield 20, 3) := by decide +kernel
theorem dX1_areRows_47 : decode cX1_areRows 47 = .ok (.if_icmp .ge 24, 3) := by decide +kernel
theorem dX1_areRows_50 : decode cX1_areRows 50 = .ok (.iload 6, 2) := by decide +kernel
theorem dX1_areRows_52 : decode cX1_areRows 52 = .ok (.aload_n 1, 1) := by decide +kernel
theorem dX1_areRows_53 : decode cX1_areRows 53 = .ok (.getfield 57, 3) := by decide +kernel
theorem dX1_areRows_56 : decode cX1_areRows 56 = .ok (.if_icmp .ge 15, 3) := by decide +kernel
theorem dX1_areRows_59 : decode cX1_areRows 59 = .ok (.aload_n 2, 1) := by decide +kernel
theorem dX1_areRows_60 : decode cX1_areRows 60 = .ok (.iload 4, 2) := by decide +kernel
theorem dX1_areRows_62 : decode cX1_areRows 62 = .ok (.iconst 2, 1) := by decide +kernel
theorem dX1_areRows_63 : decode cX1_areRows 63 = .ok (.iadd, 1) := by decide +kernel
theorem dX1_areRows_64 : decode cX1_areRows 64 = .ok (.invokevirtual 124, 3) := by decide +kernel
theorem dX1_areRows_67 : decode cX1_areRows 67 = .ok (.iconst 1, 1) := by decide +kernel
theorem dX1_areRows_68 : decode cX1_areRows 68 = .ok (.if_icmp .le 5, 3) := by decide +kernel
theorem dX1_areRows_71 : decode cX1_areRows 71 = .ok (.iconst 0, 1) := by decide +kernel
theorem dX1_areRows_72 : decode cX1_areRows 72 = .ok (.ireturn, 1) := by decide +kernel
theorem dX1_areRows_73 : decode cX1_areRows 73 = .ok (.aload_n 1, 1) := by decide +kernel
theorem dX1_areRows_74 : decode cX1_areRows 74 = .ok (.getfield 50, 3) := by decide +kernel
theorem dX1_areRows_77 : decode cX1_areRows 77 = .ok (.iload 6, 2) := by decide +kernel
theorem dX1_areRows_79 : decode cX1_areRows 79 = .ok (.invokevirtual 33, 3) := by decide +kernel
theorem dX1_areRows_82 : decode cX1_areRows 82 = .ok (.istore 7, 2) := by decide +kernel
theorem dX1_areRows_84 : decode cX1_areRows 84 = .ok (.iload 7, 2) := by decide +kernel
theorem dX1_areRows_86 : decode cX1_areRows 86 = .ok (.iconst (-1), 1) := by decide +kernel
theorem dX1_areRows_87 : decode cX1_areRows 87 = .ok (.if_icmp .eq 10, 3) := by decide +kernel
theorem dX1_areRows_90 : decode cX1_areRows 90 = .ok (.iload 7, 2) := by decide +kernel
theorem dX1_areRows_92 : decode cX1_areRows 92 = .ok (.iload 5, 2) := by decide +kernel
theorem dX1_areRows_94 : decode cX1_areRows 94 = .ok (.if_icmp .ne 5, 3) := by decide +kernel
theorem dX1_areRows_97 : decode cX1_areRows 97 = .ok (.iconst 0, 1) := by decide +kernel
theorem dX1_areRows_98 : decode cX1_areRows 98 = .ok (.ireturn, 1) := by decide +kernel
theorem dX1_areRows_99 : decode cX1_areRows 99 = .ok (.iinc 4 3, 3) := by decide +kernel
theorem dX1_areRows_102 : decode cX1_areRows 102 = .ok (.goto (-85), 3) := by decide +kernel
theorem dX1_areRows_105 : decode cX1_areRows 105 = .ok (.iconst 1, 1) := by decide +kernel
theorem dX1_areRows_106 : decode cX1_areRows 106 = .ok (.ireturn, 1) := by decide +kernel
theorem dX1_boundsThatFit_0 : decode cX1_boundsThatFit 0 = .ok (.iconst 0, 1) := by decide +kernel
theorem dX1_boundsThatFit_1 : decode cX1_boundsThatFit 1 = .ok (.istore 4, 2) := by decide +kernel
theorem dX1_boundsThatFit_3 : decode cX1_boundsThatFit 3 = .ok (.iconst 1, 1) := by decide +kernel
theorem dX1_boundsThatFit_4 : decode cX1_boundsThatFit 4 = .ok (.istore 5, 2) := by decide +kernel
theorem dX1_boundsThatFit_6 : decode cX1_boundsThatFit 6 = .ok (.iload 5, 2) := by decide +kernel
theorem dX1_boundsThatFit_8 : decode cX1_boundsThatFit 8 = .ok (.bipush 9, 2) := by decide +kernel
theorem dX1_boundsThatFit_10 : decode cX1_boundsThatFit 10 = .ok (.if_icmp .gt 104, 3) := by decide +kernel
theorem dX1_boundsThatFit_13 : decode cX1_boundsThatFit 13 = .ok (.iconst 1, 1) := by decide +kernel
theorem dX1_boundsThatFit_14 : decode cX1_boundsThatFit 14 = .ok (.istore 6, 2) := by decide +kernel
theorem dX1_boundsThatFit_16 : decode cX1_boundsThatFit 16 = .ok (.iconst 0, 1) := by decide +kernel
theorem dX1_boundsThatFit_17 : decode cX1_boundsThatFit 17 = .ok (.istore 7, 2) := by decide +kernel
theorem dX1_boundsThatFit_19 : decode cX1_boundsThatFit 19 = .ok (.iload 7, 2) := by decide +kernel
theorem dX1_boundsThatFit_21 : decode cX1_boundsThatFit 21 = .ok (.iload_n 3, 1) := by decide +kernel
theorem dX1_boundsThatFit_22 : decode cX1_boundsThatFit 22 = .ok (.if_icmp .ge 71, 3) := by decide +kernel
theorem dX1_boundsThatFit_25 : decode cX1_boundsThatFit 25 = .ok (.aload_n 1, 1) := by decide +kernel
theorem dX1_boundsThatFit_26 : decode cX1_boundsThatFit 26 = .ok (.aload_n 2, 1) := by decide +kernel
theorem dX1_boundsThatFit_27 : decode cX1_boundsThatFit 27 = .ok (.iload 7, 2) := by decide +kernel
theorem dX1_boundsThatFit_29 : decode cX1_boundsThatFit 29 = .ok (.invokevirtual 124, 3) := by decide +kernel
theorem dX1_boundsThatFit_32 : decode cX1_boundsThatFit 32 = .ok (.aload_n 2, 1) := by decide +kernel
theorem dX1_boundsThatFit_33 : decode cX1_boundsThatFit 33 = .ok (.iload 7, 2) := by decide +kernel
theorem dX1_boundsThatFit_35 : decode cX1_boundsThatFit 35 = .ok (.iconst 1, 1) := by decide +kernel
theorem dX1_boundsThatFit_36 : decode cX1_boundsThatFit 36 = .ok (.iadd, 1) := by decide +kernel
theorem dX1_boundsThatFit_37 : decode cX1_boundsThatFit 37 = .ok (.invokevirtual 124, 3) := by decide +kernel
theorem dX1_boundsThatFit_40 : decode cX1_boundsThatFit 40 = .ok (.invokevirtual 26, 3) := by decide +kernel
theorem dX1_boundsThatFit_43 : decode cX1_boundsThatFit 43 = .ok (.istore 8, 2) := by decide +kernel
theorem dX1_boundsThatFit_45 : decode cX1_boundsThatFit 45 = .ok (.iload 6, 2) := by decide +kernel
theorem dX1_boundsThatFit_47 : decode cX1_boundsThatFit 47 = .ok (.iload 8, 2) := by decide +kernel
theorem dX1_boundsThatFit_49 : decode cX1_boundsThatFit 49 = .ok (.iload 5, 2) := by decide +kernel
theorem dX1_boundsThatFit_51 : decode cX1_boundsThatFit 51 = .ok (.if_icmp .lt 7, 3) := by decide +kernel
theorem dX1_boundsThatFit_54 : decode cX1_boundsThatFit 54 = .ok (.iconst 1, 1) := by decide +kernel
theorem dX1_boundsThatFit_55 : decode cX1_boundsThatFit 55 = .ok (.goto 4, 3) := by decide +kernel
theorem dX1_boundsThatFit_58 : decode cX1_boundsThatFit 58 = .ok (.iconst 0, 1) := by decide +kernel
theorem dX1_boundsThatFit_59 : decode cX1_boundsThatFit 59 = .ok (.aload_n 2, 1) := by decide +kernel
theorem dX1_boundsThatFit_60 : decode cX1_boundsThatFit 60 = .ok (.iload 7, 2) := by decide +kernel
theorem dX1_boundsThatFit_62 : decode cX1_boundsThatFit 62 = .ok (.iconst 2, 1) := by decide +kernel
theorem dX1_boundsThatFit_63 : decode cX1_boundsThatFit 63 = .ok (.iadd, 1) := by decide +kernel
theorem dX1_boundsThatFit_64 : decode cX1_boundsThatFit 64 = .ok (.invokevirtual 124, 3) := by decide +kernel
theorem dX1_boundsThatFit_67 : decode cX1_boundsThatFit 67 = .ok (.iconst 1, 1) := by decide +kernel
theorem dX1_boundsThatFit_68 : decode cX1_boundsThatFit 68 = .ok (.if_icmp .ne 7, 3) := by decide +kernel
theorem dX1_boundsThatFit_71 : decode cX1_boundsThatFit 71 = .ok (.iconst 1, 1) := by decide +kernel
theorem dX1_boundsThatFit_72 : decode cX1_boundsThatFit 72 = .ok (.goto 4, 3) := by decide +kernel
theorem dX1_boundsThatFit_75 : decode cX1_boundsThatFit 75 = .ok (.iconst 0, 1) := by decide +kernel
theorem dX1_boundsThatFit_76 : decode cX1_boundsThatFit 76 = .ok (.if_icmp .ne 7, 3) := by decide +kernel
theorem dX1_boundsThatFit_79 : decode cX1_boundsThatFit 79 = .ok (.iconst 1, 1) := by decide +kernel
theorem dX1_boundsThatFit_80 : decode cX1_boundsThatFit 80 = .ok (.goto 4, 3) := by decide +kernel
theorem dX1_boundsThatFit_83 : decode cX1_boundsThatFit 83 = .ok (.iconst 0, 1) := by decide +kernel
theorem dX1_boundsThatFit_84 : decode cX1_boundsThatFit 84 = .ok (.iand, 1) := by decide +kernel
theorem dX1_boundsThatFit_85 : decode cX1_boundsThatFit 85 = .ok (.istore 6, 2) := by decide +kernel
theorem dX1_boundsThatFit_87 : decode cX1_boundsThatFit 87 = .ok (.iinc 7 3, 3) := by decide +kernel
theorem dX1_boundsThatFit_90 : decode cX1_boundsThatFit 90 = .ok (.goto (-71), 3) := by decide +kernel
theorem dX1_boundsThatFit_93 : decode cX1_boundsThatFit 93 = .ok (.iload 6, 2) := by decide +kernel
theorem dX1_boundsThatFit_95 : decode cX1_boundsThatFit 95 = .ok (.ifCond .eq 13, 3) := by decide +kernel
theorem dX1_boundsThatFit_98 : decode cX1_boundsThatFit 98 = .ok (.iload 4, 2) := by decide +kernel
theorem dX1_boundsThatFit_100 : decode cX1_boundsThatFit 100 = .ok (.iload 5, 2) := by decide +kernel
theorem dX1_boundsThatFit_102 : decode cX1_boundsThatFit 102 = .ok (.invokestatic 43, 3) := by decide +kernel
theorem dX1_boundsThatFit_105 : decode cX1_boundsThatFit 105 = .ok (.ior, 1) := by decide +kernel
theorem dX1_boundsThatFit_106 : decode cX1_boundsThatFit 106 = .ok (.istore 4, 2) := by decide +kernel
theorem dX1_boundsThatFit_108 : decode cX1_boundsThatFit 108 = .ok (.iinc 5 1, 3) := by decide +kernel
theorem dX1_boundsThatFit_111 : decode cX1_boundsThatFit 111 = .ok (.goto (-105), 3) := by decide +kernel
theorem dX1_boundsThatFit_114 : decode cX1_boundsThatFit 114 = .ok (.iload 4, 2) := by decide +kernel
theorem dX1_boundsThatFit_116 : decode cX1_boundsThatFit 116 = .ok (.ireturn, 1) := by decide +kernel
theorem dX1_restingChoices_0 : decode cX1_restingChoices 0 = .ok (.iconst 0, 1) := by decide +kernel
theorem dX1_restingChoices_1 : decode cX1_restingChoices 1 = .ok (.istore_n 3, 1) := by decide +kernel
theorem dX1_restingChoices_2 : decode cX1_restingChoices 2 = .ok (.iconst 0, 1) := by decide +kernel
theorem dX1_restingChoices_3 : decode cX1_restingChoices 3 = .ok (.istore 4, 2) := by decide +kernel
theorem dX1_restingChoices_5 : decode cX1_restingChoices 5 = .ok (.iload 4, 2) := by decide +kernel
theorem dX1_restingChoices_7 : decode cX1_restingChoices 7 = .ok (.iconst 2, 1) := by decide +kernel
theorem dX1_restingChoices_8 : decode cX1_restingChoices 8 = .ok (.if_icmp .ge 107, 3) := by decide +kernel
theorem dX1_restingChoices_11 : decode cX1_restingChoices 11 = .ok (.iconst 0, 1) := by decide +kernel
theorem dX1_restingChoices_12 : decode cX1_restingChoices 12 = .ok (.istore 5, 2) := by decide +kernel
theorem dX1_restingChoices_14 : decode cX1_restingChoices 14 = .ok (.iload 5, 2) := by decide +kernel
theorem dX1_restingChoices_16 : decode cX1_restingChoices 16 = .ok (.iconst 2, 1) := by decide +kernel
theorem dX1_restingChoices_17 : decode cX1_restingChoices 17 = .ok (.if_icmp .ge 92, 3) := by decide +kernel
theorem dX1_restingChoices_20 : decode cX1_restingChoices 20 = .ok (.aload_n 0, 1) := by decide +kernel
theorem dX1_restingChoices_21 : decode cX1_restingChoices 21 = .ok (.iload 4, 2) := by decide +kernel
theorem dX1_restingChoices_23 : decode cX1_restingChoices 23 = .ok (.iload 5, 2) := by decide +kernel
theorem dX1_restingChoices_25 : decode cX1_restingChoices 25 = .ok (.iload_n 1, 1) := by decide +kernel
theorem dX1_restingChoices_26 : decode cX1_restingChoices 26 = .ok (.invokevirtual 129, 3) := by decide +kernel
theorem dX1_restingChoices_29 : decode cX1_restingChoices 29 = .ok (.aload_n 0, 1) := by decide +kernel
theorem dX1_restingChoices_30 : decode cX1_restingChoices 30 = .ok (.iconst 1, 1) := by decide +kernel
theorem dX1_restingChoices_31 : decode cX1_restingChoices 31 = .ok (.iload 4, 2) := by decide +kernel
theorem dX1_restingChoices_33 : decode cX1_restingChoices 33 = .ok (.isub, 1) := by decide +kernel
theorem dX1_restingChoices_34 : decode cX1_restingChoices 34 = .ok (.iload 5, 2) := by decide +kernel
theorem dX1_restingChoices_36 : decode cX1_restingChoices 36 = .ok (.iload_n 1, 1) := by decide +kernel
theorem dX1_restingChoices_37 : decode cX1_restingChoices 37 = .ok (.invokevirtual 129, 3) := by decide +kernel
theorem dX1_restingChoices_40 : decode cX1_restingChoices 40 = .ok (.if_icmp .lt 7, 3) := by decide +kernel
theorem dX1_restingChoices_43 : decode cX1_restingChoices 43 = .ok (.iconst 1, 1) := by decide +kernel
theorem dX1_restingChoices_44 : decode cX1_restingChoices 44 = .ok (.goto 4, 3) := by decide +kernel
theorem dX1_restingChoices_47 : decode cX1_restingChoices 47 = .ok (.iconst 0, 1) := by decide +kernel
theorem dX1_restingChoices_48 : decode cX1_restingChoices 48 = .ok (.istore 6, 2) := by decide +kernel
theorem dX1_restingChoices_50 : decode cX1_restingChoices 50 = .ok (.aload_n 0, 1) := by decide +kernel
theorem dX1_restingChoices_51 : decode cX1_restingChoices 51 = .ok (.iload 5, 2) := by decide +kernel
theorem dX1_restingChoices_53 : decode cX1_restingChoices 53 = .ok (.iload 4, 2) := by decide +kernel
theorem dX1_restingChoices_55 : decode cX1_restingChoices 55 = .ok (.iload_n 2, 1) := by decide +kernel
theorem dX1_restingChoices_56 : decode cX1_restingChoices 56 = .ok (.invokevirtual 129, 3) := by decide +kernel
theorem dX1_restingChoices_59 : decode cX1_restingChoices 59 = .ok (.aload_n 0, 1) := by decide +kernel
theorem dX1_restingChoices_60 : decode cX1_restingChoices 60 = .ok (.iconst 1, 1) := by decide +kernel
theorem dX1_restingChoices_61 : decode cX1_restingChoices 61 = .ok (.iload 5, 2) := by decide +kernel
theorem dX1_restingChoices_63 : decode cX1_restingChoices 63 = .ok (.isub, 1) := by decide +kernel
theorem dX1_restingChoices_64 : decode cX1_restingChoices 64 = .ok (.iload 4, 2) := by decide +kernel
theorem dX1_restingChoices_66 : decode cX1_restingChoices 66 = .ok (.iload_n 2, 1) := by decide +kernel
theorem dX1_restingChoices_67 : decode cX1_restingChoices 67 = .ok (.invokevirtual 129, 3) := by decide +kernel
theorem dX1_restingChoices_70 : decode cX1_restingChoices 70 = .ok (.if_icmp .lt 7, 3) := by decide +kernel
theorem dX1_restingChoices_73 : decode cX1_restingChoices 73 = .ok (.iconst 1, 1) := by decide +kernel
theorem dX1_restingChoices_74 : decode cX1_restingChoices 74 = .ok (.goto 4, 3) := by decide +kernel
theorem dX1_restingChoices_77 : decode cX1_restingChoices 77 = .ok (.iconst 0, 1) := by decide +kernel
theorem dX1_restingChoices_78 : decode cX1_restingChoices 78 = .ok (.istore 7, 2) := by decide +kernel
theorem dX1_restingChoices_80 : decode cX1_restingChoices 80 = .ok (.iload 6, 2) := by decide +kernel
theorem dX1_restingChoices_82 : decode cX1_restingChoices 82 = .ok (.ifCond .eq 21, 3) := by decide +kernel
theorem dX1_restingChoices_85 : decode cX1_restingChoices 85 = .ok (.iload 7, 2) := by decide +kernel
theorem dX1_restingChoices_87 : decode cX1_restingChoices 87 = .ok (.ifCond .eq 16, 3) := by decide +kernel
theorem dX1_restingChoices_90 : decode cX1_restingChoices 90 = .ok (.iload_n 3, 1) := by decide +kernel
theorem dX1_restingChoices_91 : decode cX1_restingChoices 91 = .ok (.iconst 2, 1) := by decide +kernel
theorem dX1_restingChoices_92 : decode cX1_restingChoices 92 = .ok (.iload 4, 2) := by decide +kernel
theorem dX1_restingChoices_94 : decode cX1_restingChoices 94 = .ok (.imul, 1) := by decide +kernel
theorem dX1_restingChoices_95 : decode cX1_restingChoices 95 = .ok (.iload 5, 2) := by decide +kernel
theorem dX1_restingChoices_97 : decode cX1_restingChoices 97 = .ok (.iadd, 1) := by decide +kernel
theorem dX1_restingChoices_98 : decode cX1_restingChoices 98 = .ok (.invokestatic 43, 3) := by decide +kernel
theorem dX1_restingChoices_101 : decode cX1_restingChoices 101 = .ok (.ior, 1) := by decide +kernel
theorem dX1_restingChoices_102 : decode cX1_restingChoices 102 = .ok (.istore_n 3, 1) := by decide +kernel
theorem dX1_restingChoices_103 : decode cX1_restingChoices 103 = .ok (.iinc 5 1, 3) := by decide +kernel
theorem dX1_restingChoices_106 : decode cX1_restingChoices 106 = .ok (.goto (-92), 3) := by decide +kernel
theorem dX1_restingChoices_109 : decode cX1_restingChoices 109 = .ok (.iinc 4 1, 3) := by decide +kernel
theorem dX1_restingChoices_112 : decode cX1_restingChoices 112 = .ok (.goto (-107), 3) := by decide +kernel
theorem dX1_restingChoices_115 : decode cX1_restingChoices 115 = .ok (.iload_n 3, 1) := by decide +kernel
theorem dX1_restingChoices_116 : decode cX1_restingChoices 116 = .ok (.ireturn, 1) := by decide +kernel
theorem dX1_gain_0 : decode cX1_gain 0 = .ok (.iload_n 1, 1) := by decide +kernel
theorem dX1_gain_1 : decode cX1_gain 1 = .ok (.iconst 1, 1) := by decide +kernel
theorem dX1_gain_2 : decode cX1_gain 2 = .ok (.if_icmp .ne 13, 3) := by decide +kernel
theorem dX1_gain_5 : decode cX1_gain 5 = .ok (.iload_n 2, 1) := by decide +kernel
theorem dX1_gain_6 : decode cX1_gain 6 = .ok (.ifCond .ne 7, 3) := by decide +kernel
theorem dX1_gain_9 : decode cX1_gain 9 = .ok (.iconst 4, 1) := by decide +kernel
theorem dX1_gain_10 : decode cX1_gain 10 = .ok (.goto 4, 3) := by decide +kernel
theorem dX1_gain_13 : decode cX1_gain 13 = .ok (.iconst 0, 1) := by decide +kernel
theorem dX1_gain_14 : decode cX1_gain 14 = .ok (.ireturn, 1) := by decide +kernel
theorem dX1_gain_15 : decode cX1_gain 15 = .ok (.iload_n 2, 1) := by decide +kernel
theorem dX1_gain_16 : decode cX1_gain 16 = .ok (.ifCond .ne 9, 3) := by decide +kernel
theorem dX1_gain_19 : decode cX1_gain 19 = .ok (.iload_n 3, 1) := by decide +kernel
theorem dX1_gain_20 : decode cX1_gain 20 = .ok (.iconst 3, 1) := by decide +kernel
theorem dX1_gain_21 : decode cX1_gain 21 = .ok (.isub, 1) := by decide +kernel
theorem dX1_gain_22 : decode cX1_gain 22 = .ok (.goto 5, 3) := by decide +kernel
theorem dX1_gain_25 : decode cX1_gain 25 = .ok (.bipush (-2), 2) := by decide +kernel
theorem dX1_gain_27 : decode cX1_gain 27 = .ok (.ireturn, 1) := by decide +kernel
theorem dX2_init_0 : decode cX2_init 0 = .ok (.aload_n 0, 1) := by decide +kernel
theorem dX2_init_1 : decode cX2_init 1 = .ok (.invokespecial 3, 3) := by decide +kernel
theorem dX2_init_4 : decode cX2_init 4 = .ok (.aload_n 0, 1) := by decide +kernel
theorem dX2_init_5 : decode cX2_init 5 = .ok (.bipush 12, 2) := by decide +kernel
theorem dX2_init_7 : decode cX2_init 7 = .ok (.anewarray 9, 3) := by decide +kernel
theorem dX2_init_10 : decode cX2_init 10 = .ok (.putfield 11, 3) := by decide +kernel
theorem dX2_init_13 : decode cX2_init 13 = .ok (.iconst 0, 1) := by decide +kernel
theorem dX2_init_14 : decode cX2_init 14 = .ok (.istore_n 1, 1) := by decide +kernel
theorem dX2_init_15 : decode cX2_init 15 = .ok (.iload_n 1, 1) := by decide +kernel
theorem dX2_init_16 : decode cX2_init 16 = .ok (.aload_n 0, 1) := by decide +kernel
theorem dX2_init_17 : decode cX2_init 17 = .ok (.getfield 11, 3) := by decide +kernel
theorem dX2_init_20 : decode cX2_init 20 = .ok (.arraylength, 1) := by decide +kernel
theorem dX2_init_21 : decode cX2_init 21 = .ok (.if_icmp .ge 22, 3) := by decide +kernel
theorem dX2_init_24 : decode cX2_init 24 = .ok (.aload_n 0, 1) := by decide +kernel
theorem dX2_init_25 : decode cX2_init 25 = .ok (.getfield 11, 3) := by decide +kernel
theorem dX2_init_28 : decode cX2_init 28 = .ok (.iload_n 1, 1) := by decide +kernel
theorem dX2_init_29 : decode cX2_init 29 = .ok (.new 9, 3) := by decide +kernel
theorem dX2_init_32 : decode cX2_init 32 = .ok (.dup, 1) := by decide +kernel
theorem dX2_init_33 : decode cX2_init 33 = .ok (.invokespecial 17, 3) := by decide +kernel
theorem dX2_init_36 : decode cX2_init 36 = .ok (.aastore, 1) := by decide +kernel
theorem dX2_init_37 : decode cX2_init 37 = .ok (.iinc 1 1, 3) := by decide +kernel
theorem dX2_init_40 : decode cX2_init 40 = .ok (.goto (-25), 3) := by decide +kernel
theorem dX2_init_43 : decode cX2_init 43 = .ok (.return_, 1) := by decide +kernel
theorem dX2_remember_0 : decode cX2_remember 0 = .ok (.aload_n 0, 1) := by decide +kernel
theorem dX2_remember_1 : decode cX2_remember 1 = .ok (.aload_n 0, 1) := by decide +kernel
theorem dX2_remember_2 : decode cX2_remember 2 = .ok (.getfield 18, 3) := by decide +kernel
theorem dX2_remember_5 : decode cX2_remember 5 = .ok (.invokevirtual 22, 3) := by decide +kernel
theorem dX2_remember_8 : decode cX2_remember 8 = .ok (.astore_n 2, 1) := by decide +kernel
theorem dX2_remember_9 : decode cX2_remember 9 = .ok (.aload_n 2, 1) := by decide +kernel
theorem dX2_remember_10 : decode cX2_remember 10 = .ok (.ifnull 36, 3) := by decide +kernel
theorem dX2_remember_13 : decode cX2_remember 13 = .ok (.aload_n 2, 1) := by decide +kernel
theorem dX2_remember_14 : decode cX2_remember 14 = .ok (.aload_n 1, 1) := by decide +kernel
theorem dX2_remember_15 : decode cX2_remember 15 = .ok (.invokevirtual 26, 3) := by decide +kernel
theorem dX2_remember_18 : decode cX2_remember 18 = .ok (.aload_n 0, 1) := by decide +kernel
theorem dX2_remember_19 : decode cX2_remember 19 = .ok (.aload_n 0, 1) := by decide +kernel
theorem dX2_remember_20 : decode cX2_remember 20 = .ok (.getfield 18, 3) := by decide +kernel
theorem dX2_remember_23 : decode cX2_remember 23 = .ok (.iconst 1, 1) := by decide +kernel
theorem dX2_remember_24 : decode cX2_remember 24 = .ok (.iadd, 1) := by decide +kernel
theorem dX2_remember_25 : decode cX2_remember 25 = .ok (.bipush 12, 2) := by decide +kernel
theorem dX2_remember_27 : decode cX2_remember 27 = .ok (.irem, 1) := by decide +kernel
theorem dX2_remember_28 : decode cX2_remember 28 = .ok (.putfield 18, 3) := by decide +kernel
theorem dX2_remember_31 : decode cX2_remember 31 = .ok (.aload_n 0, 1) := by decide +kernel
theorem dX2_remember_32 : decode cX2_remember 32 = .ok (.aload_n 0, 1) := by decide +kernel
theorem dX2_remember_33 : decode cX2_remember 33 = .ok (.getfield 30, 3) := by decide +kernel
theorem dX2_remember_36 : decode cX2_remember 36 = .ok (.iconst 1, 1) := by decide +kernel
theorem dX2_remember_37 : decode cX2_remember 37 = .ok (.iadd, 1) := by decide +kernel
theorem dX2_remember_38 : decode cX2_remember 38 = .ok (.bipush 12, 2) := by decide +kernel
theorem dX2_remember_40 : decode cX2_remember 40 = .ok (.invokestatic 33, 3) := by decide +kernel
theorem dX2_remember_43 : decode cX2_remember 43 = .ok (.putfield 30, 3) := by decide +kernel
theorem dX2_remember_46 : decode cX2_remember 46 = .ok (.return_, 1) := by decide +kernel
theorem dX2_recall_0 : decode cX2_recall 0 = .ok (.aload_n 0, 1) := by decide +kernel
theorem dX2_recall_1 : decode cX2_recall 1 = .ok (.getfield 18, 3) := by decide +kernel
theorem dX2_recall_4 : decode cX2_recall 4 = .ok (.bipush 12, 2) := by decide +kernel
theorem dX2_recall_6 : decode cX2_recall 6 = .ok (.iadd, 1) := by decide +kernel
theorem dX2_recall_7 : decode cX2_recall 7 = .ok (.iconst 1, 1) := by decide +kernel
theorem dX2_recall_8 : decode cX2_recall 8 = .ok (.isub, 1) := by decide +kernel
theorem dX2_recall_9 : decode cX2_recall 9 = .ok (.bipush 12, 2) := by decide +kernel
theorem dX2_recall_11 : decode cX2_recall 11 = .ok (.irem, 1) := by decide +kernel
theorem dX2_recall_12 : decode cX2_recall 12 = .ok (.istore_n 2, 1) := by decide +kernel
theorem dX2_recall_13 : decode cX2_recall 13 = .ok (.aload_n 0, 1) := by decide +kernel
theorem dX2_recall_14 : decode cX2_recall 14 = .ok (.iload_n 2, 1) := by decide +kernel
theorem dX2_recall_15 : decode cX2_recall 15 = .ok (.invokevirtual 22, 3) := by decide +kernel
theorem dX2_recall_18 : decode cX2_recall 18 = .ok (.astore_n 3, 1) := by decide +kernel
theorem dX2_recall_19 : decode cX2_recall 19 = .ok (.aload_n 0, 1) := by decide +kernel
theorem dX2_recall_20 : decode cX2_recall 20 = .ok (.getfield 30, 3) := by decide +kernel
theorem dX2_recall_23 : decode cX2_recall 23 = .ok (.ifCond .le 7, 3) := by decide +kernel
theorem dX2_recall_26 : decode cX2_recall 26 = .ok (.aload_n 3, 1) := by decide +kernel
theorem dX2_recall_27 : decode cX2_recall 27 = .ok (.ifnonnull 5, 3) := by decide +kernel
theorem dX2_recall_30 : decode cX2_recall 30 = .ok (.iconst 0, 1) := by decide +kernel
theorem dX2_recall_31 : decode cX2_recall 31 = .ok (.ireturn, 1) := by decide +kernel
theorem dX2_recall_32 : decode cX2_recall 32 = .ok (.aload_n 1, 1) := by decide +kernel
theorem dX2_recall_33 : decode cX2_recall 33 = .ok (.aload_n 3, 1) := by decide +kernel
theorem dX2_recall_34 : decode cX2_recall 34 = .ok (.invokevirtual 26, 3) := by decide +kernel
theorem dX2_recall_37 : decode cX2_recall 37 = .ok (.aload_n 0, 1) := by decide +kernel
theorem dX2_recall_38 : decode cX2_recall 38 = .ok (.iload_n 2, 1) := by decide +kernel
theorem dX2_recall_39 : decode cX2_recall 39 = .ok (.putfield 18, 3) := by decide +kernel
theorem dX2_recall_42 : decode cX2_recall 42 = .ok (.aload_n 0, 1) := by decide +kernel
theorem dX2_recall_43 : decode cX2_recall 43 = .ok (.dup, 1) := by decide +kernel
theorem dX2_recall_44 : decode cX2_recall 44 = .ok (.getfield 30, 3) := by decide +kernel
theorem dX2_recall_47 : decode cX2_recall 47 = .ok (.iconst 1, 1) := by decide +kernel
theorem dX2_recall_48 : decode cX2_recall 48 = .ok (.isub, 1) := by decide +kernel
theorem dX2_recall_49 : decode cX2_recall 49 = .ok (.putfield 30, 3) := by decide +kernel
theorem dX2_recall_52 : decode cX2_recall 52 = .ok (.iconst 1, 1) := by decide +kernel
theorem dX2_recall_53 : decode cX2_recall 53 = .ok (.ireturn, 1) := by decide +kernel
theorem dX2_forget_0 : decode cX2_forget 0 = .ok (.aload_n 0, 1) := by decide +kernel
theorem dX2_forget_1 : decode cX2_forget 1 = .ok (.iconst 0, 1) := by decide +kernel
theorem dX2_forget_2 : decode cX2_forget 2 = .ok (.putfield 30, 3) := by decide +kernel
theorem dX2_forget_5 : decode cX2_forget 5 = .ok (.return_, 1) := by decide +kernel
theorem dX2_slotAt_0 : decode cX2_slotAt 0 = .ok (.iload_n 1, 1) := by decide +kernel
theorem dX2_slotAt_1 : decode cX2_slotAt 1 = .ok (.ifCond .lt 21, 3) := by decide +kernel
theorem dX2_slotAt_4 : decode cX2_slotAt 4 = .ok (.iload_n 1, 1) := by decide +kernel
theorem dX2_slotAt_5 : decode cX2_slotAt 5 = .ok (.aload_n 0, 1) := by decide +kernel
theorem dX2_slotAt_6 : decode cX2_slotAt 6 = .ok (.getfield 11, 3) := by decide +kernel
theorem dX2_slotAt_9 : decode cX2_slotAt 9 = .ok (.arraylength, 1) := by decide +kernel
theorem dX2_slotAt_10 : decode cX2_slotAt 10 = .ok (.if_icmp .ge 12, 3) := by decide +kernel
theorem dX2_slotAt_13 : decode cX2_slotAt 13 = .ok (.aload_n 0, 1) := by decide +kernel
theorem dX2_slotAt_14 : decode cX2_slotAt 14 = .ok (.getfield 11, 3) := by decide +kernel
theorem dX2_slotAt_17 : decode cX2_slotAt 17 = .ok (.iload_n 1, 1) := by decide +kernel
theorem dX2_slotAt_18 : decode cX2_slotAt 18 = .ok (.aaload, 1) := by decide +kernel
theorem dX2_slotAt_19 : decode cX2_slotAt 19 = .ok (.goto 4, 3) := by decide +kernel
theorem dX2_slotAt_22 : decode cX2_slotAt 22 = .ok (.aconst_null, 1) := by decide +kernel
theorem dX2_slotAt_23 : decode cX2_slotAt 23 = .ok (.areturn, 1) := by decide +kernel
theorem dX3_init_0 : decode cX3_init 0 = .ok (.aload_n 0, 1) := by decide +kernel
theorem dX3_init_1 : decode cX3_init 1 = .ok (.invokespecial 3, 3) := by decide +kernel
theorem dX3_init_4 : decode cX3_init 4 = .ok (.aload_n 0, 1) := by decide +kernel
theorem dX3_init_5 : decode cX3_init 5 = .ok (.iconst (-1), 1) := by decide +kernel
theorem dX3_init_6 : decode cX3_init 6 = .ok (.putfield 9, 3) := by decide +kernel
theorem dX3_init_9 : decode cX3_init 9 = .ok (.aload_n 0, 1) := by decide +kernel
theorem dX3_init_10 : decode cX3_init 10 = .ok (.new 15, 3) := by decide +kernel
theorem dX3_init_13 : decode cX3_init 13 = .ok (.dup, 1) := by decide +kernel
theorem dX3_init_14 : decode cX3_init 14 = .ok (.bipush 12, 2) := by decide +kernel
theorem dX3_init_16 : decode cX3_init 16 = .ok (.invokespecial 17, 3) := by decide +kernel
theorem dX3_init_19 : decode cX3_init 19 = .ok (.putfield 20, 3) := by decide +kernel
theorem dX3_init_22 : decode cX3_init 22 = .ok (.aload_n 0, 1) := by decide +kernel
theorem dX3_init_23 : decode cX3_init 23 = .ok (.new 15, 3) := by decide +kernel
theorem dX3_init_26 : decode cX3_init 26 = .ok (.dup, 1) := by decide +kernel
theorem dX3_init_27 : decode cX3_init 27 = .ok (.bipush 12, 2) := by decide +kernel
theorem dX3_init_29 : decode cX3_init 29 = .ok (.invokespecial 17, 3) := by decide +kernel
theorem dX3_init_32 : decode cX3_init 32 = .ok (.putfield 24, 3) := by decide +kernel
theorem dX3_init_35 : decode cX3_init 35 = .ok (.aload_n 0, 1) := by decide +kernel
theorem dX3_init_36 : decode cX3_init 36 = .ok (.new 15, 3) := by decide +kernel
theorem dX3_init_39 : decode cX3_init 39 = .ok (.dup, 1) := by decide +kernel
theorem dX3_init_40 : decode cX3_init 40 = .ok (.bipush 12, 2) := by decide +kernel
theorem dX3_init_42 : decode cX3_init 42 = .ok (.invokespecial 17, 3) := by decide +kernel
theorem dX3_init_45 : decode cX3_init 45 = .ok (.putfield 27, 3) := by decide +kernel
theorem dX3_init_48 : decode cX3_init 48 = .ok (.aload_n 0, 1) := by decide +kernel
theorem dX3_init_49 : decode cX3_init 49 = .ok (.new 15, 3) := by decide +kernel
theorem dX3_init_52 : decode cX3_init 52 = .ok (.dup, 1) := by decide +kernel
theorem dX3_init_53 : decode cX3_init 53 = .ok (.sipush 400, 3) := by decide +kernel
theorem dX3_init_56 : decode cX3_init 56 = .ok (.invokespecial 17, 3) := by decide +kernel
theorem dX3_init_59 : decode cX3_init 59 = .ok (.putfield 30, 3) := by decide +kernel
theorem dX3_init_62 : decode cX3_init 62 = .ok (.aload_n 0, 1) := by decide +kernel
theorem dX3_init_63 : decode cX3_init 63 = .ok (.new 15, 3) := by decide +kernel
theorem dX3_init_66 : decode cX3_init 66 = .ok (.dup, 1) := by decide +kernel
theorem dX3_init_67 : decode cX3_init 67 = .ok (.getstatic 33, 3) := by decide +kernel
theorem dX3_init_70 : decode cX3_init 70 = .ok (.getfield 39, 3) := by decide +kernel
theorem dX3_init_73 : decode cX3_init 73 = .ok (.iconst 1, 1) := by decide +kernel
theorem dX3_init_74 : decode cX3_init 74 = .ok (.iadd, 1) := by decide +kernel
theorem dX3_init_75 : decode cX3_init 75 = .ok (.invokespecial 17, 3) := by decide +kernel
theorem dX3_init_78 : decode cX3_init 78 = .ok (.putfield 42, 3) := by decide +kernel
theorem dX3_init_81 : decode cX3_init 81 = .ok (.aload_n 0, 1) := by decide +kernel
theorem dX3_init_82 : decode cX3_init 82 = .ok (.new 15, 3) := by decide +kernel
theorem dX3_init_85 : decode cX3_init 85 = .ok (.dup, 1) := by decide +kernel
theorem dX3_init_86 : decode cX3_init 86 = .ok (.bipush 64, 2) := by decide +kernel
theorem dX3_init_88 : decode cX3_init 88 = .ok (.invokespecial 17, 3) := by decide +kernel
theorem dX3_init_91 : decode cX3_init 91 = .ok (.putfield 45, 3) := by decide +kernel
theorem dX3_init_94 : decode cX3_init 94 = .ok (.return_, 1) := by decide +kernel
theorem dX3_begin_0 : decode cX3_begin 0 = .ok (.aload_n 0, 1) := by decide +kernel
theorem dX3_begin_1 : decode cX3_begin 1 = .ok (.iconst 0, 1) := by decide +kernel
theorem dX3_begin_2 : decode cX3_begin 2 = .ok (.putfield 9, 3) := by decide +kernel
theorem dX3_begin_5 : decode cX3_begin 5 = .ok (.aload_n 0, 1) := by decide +kernel
theorem dX3_begin_6 : decode cX3_begin 6 = .ok (.iconst 0, 1) := by decide +kernel
theorem dX3_begin_7 : decode cX3_begin 7 = .ok (.putfield 48, 3) := by decide +kernel
theorem dX3_begin_10 : decode cX3_begin 10 = .ok (.return_, 1) := by decide +kernel
theorem dX3_beginLine_0 : decode cX3_beginLine 0 = .ok (.aload_n 0, 1) := by decide +kernel
theorem dX3_beginLine_1 : decode cX3_beginLine 1 = .ok (.getfield 20, 3) := by decide +kernel
theorem dX3_beginLine_4 : decode cX3_beginLine 4 = .ok (.aload_n 0, 1) := by decide +kernel
theorem dX3_beginLine_5 : decode cX3_beginLine 5 = .ok (.getfield 9, 3) := by decide +kernel
theorem dX3_beginLine_8 : decode cX3_beginLine 8 = .ok (.iload_n 1, 1) := by decide +kernel
theorem dX3_beginLine_9 : decode cX3_beginLine 9 = .ok (.invokevirtual 51, 3) := by decide +kernel
theorem dX3_beginLine_12 : decode cX3_beginLine 12 = .ok (.aload_n 0, 1) := by decide +kernel
theorem dX3_beginLine_13 : decode cX3_beginLine 13 = .ok (.getfield 24, 3) := by decide +kernel
theorem dX3_beginLine_16 : decode cX3_beginLine 16 = .ok (.aload_n 0, 1) := by decide +kernel
theorem dX3_beginLine_17 : decode cX3_beginLine 17 = .ok (.getfield 9, 3) := by decide +kernel
theorem dX3_beginLine_20 : decode cX3_beginLine 20 = .ok (.iload_n 2, 1) := by decide +kernel
theorem dX3_beginLine_21 : decode cX3_beginLine 21 = .ok (.ifCond .eq 7, 3) := by decide +kernel
theorem dX3_beginLine_24 : decode cX3_beginLine 24 = .ok (.iconst 1, 1) := by decide +kernel
theorem dX3_beginLine_25 : decode cX3_beginLine 25 = .ok (.goto 4, 3) := by decide +kernel
theorem dX3_beginLine_28 : decode cX3_beginLine 28 = .ok (.iconst 0, 1) := by decide +kernel
theorem dX3_beginLine_29 : decode cX3_beginLine 29 = .ok (.invokevirtual 51, 3) := by decide +kernel
theorem dX3_beginLine_32 : decode cX3_beginLine 32 = .ok (.return_, 1) := by decide +kernel
theorem dX3_emit_0 : decode cX3_emit 0 = .ok (.aload_n 0, 1) := by decide +kernel
theorem dX3_emit_1 : decode cX3_emit 1 = .ok (.getfield 30, 3) := by decide +kernel
theorem dX3_emit_4 : decode cX3_emit 4 = .ok (.aload_n 0, 1) := by decide +kernel
theorem dX3_emit_5 : decode cX3_emit 5 = .ok (.getfield 48, 3) := by decide +kernel
theorem dX3_emit_8 : decode cX3_emit 8 = .ok (.iload_n 1, 1) := by decide +kernel
theorem dX3_emit_9 : decode cX3_emit 9 = .ok (.invokevirtual 51, 3) := by decide +kernel
theorem dX3_emit_12 : decode cX3_emit 12 = .ok (.aload_n 0, 1) := by decide +kernel
theorem dX3_emit_13 : decode cX3_emit 13 = .ok (.dup, 1) := by decide +kernel
theorem dX3_emit_14 : decode cX3_emit 14 = .ok (.getfield 48, 3) := by decide +kernel
theorem dX3_emit_17 : decode cX3_emit 17 = .ok (.iconst 1, 1) := by decide +kernel
theorem dX3_emit_18 : decode cX3_emit 18 = .ok (.iadd, 1) := by decide +kernel
theorem dX3_emit_19 : decode cX3_emit 19 = .ok (.putfield 48, 3) := by decide +kernel
theorem dX3_emit_22 : decode cX3_emit 22 = .ok (.return_, 1) := by decide +kernel
theorem dX3_endLine_0 : decode cX3_endLine 0 = .ok (.aload_n 0, 1) := by decide +kernel
theorem dX3_endLine_1 : decode cX3_endLine 1 = .ok (.getfield 27, 3) := by decide +kernel
theorem dX3_endLine_4 : decode cX3_endLine 4 = .ok (.aload_n 0, 1) := by decide +kernel
theorem dX3_endLine_5 : decode cX3_endLine 5 = .ok (.getfield 9, 3) := by decide +kernel
theorem dX3_endLine_8 : decode cX3_endLine 8 = .ok (.aload_n 0, 1) := by decide +kernel
theorem dX3_endLine_9 : decode cX3_endLine 9 = .ok (.getfield 48, 3) := by decide +kernel
theorem dX3_endLine_12 : decode cX3_endLine 12 = .ok (.invokevirtual 51, 3) := by decide +kernel
theorem dX3_endLine_15 : decode cX3_endLine 15 = .ok (.aload_n 0, 1) := by decide +kernel
theorem dX3_endLine_16 : decode cX3_endLine 16 = .ok (.dup, 1) := by decide +kernel
theorem dX3_endLine_17 : decode cX3_endLine 17 = .ok (.getfield 9, 3) := by decide +kernel
theorem dX3_endLine_20 : decode cX3_endLine 20 = .ok (.iconst 1, 1) := by decide +kernel
theorem dX3_endLine_21 : decode cX3_endLine 21 = .ok (.iadd, 1) := by decide +kernel
theorem dX3_endLine_22 : decode cX3_endLine 22 = .ok (.putfield 9, 3) := by decide +kernel
theorem dX3_endLine_25 : decode cX3_endLine 25 = .ok (.return_, 1) := by decide +kernel
theorem dX3_copyFrom_0 : decode cX3_copyFrom 0 = .ok (.aload_n 0, 1) := by decide +kernel
theorem dX3_copyFrom_1 : decode cX3_copyFrom 1 = .ok (.aload_n 1, 1) := by decide +kernel
theorem dX3_copyFrom_2 : decode cX3_copyFrom 2 = .ok (.getfield 9, 3) := by decide +kernel
theorem dX3_copyFrom_5 : decode cX3_copyFrom 5 = .ok (.putfield 9, 3) := by decide +kernel
theorem dX3_copyFrom_8 : decode cX3_copyFrom 8 = .ok (.aload_n 0, 1) := by decide +kernel
theorem dX3_copyFrom_9 : decode cX3_copyFrom 9 = .ok (.getfield 20, 3) := by decide +kernel
theorem dX3_copyFrom_12 : decode cX3_copyFrom 12 = .ok (.aload_n 1, 1) := by decide +kernel
theorem dX3_copyFrom_13 : decode cX3_copyFrom 13 = .ok (.getfield 20, 3) := by decide +kernel
theorem dX3_copyFrom_16 : decode cX3_copyFrom 16 = .ok (.invokevirtual 55, 3) := by decide +kernel
theorem dX3_copyFrom_19 : decode cX3_copyFrom 19 = .ok (.aload_n 0, 1) := by decide +kernel
theorem dX3_copyFrom_20 : decode cX3_copyFrom 20 = .ok (.getfield 24, 3) := by decide +kernel
theorem dX3_copyFrom_23 : decode cX3_copyFrom 23 = .ok (.aload_n 1, 1) := by decide +kernel
theorem dX3_copyFrom_24 : decode cX3_copyFrom 24 = .ok (.getfield 24, 3) := by decide +kernel
theorem dX3_copyFrom_27 : decode cX3_copyFrom 27 = .ok (.invokevirtual 55, 3) := by decide +kernel
theorem dX3_copyFrom_30 : decode cX3_copyFrom 30 = .ok (.aload_n 0, 1) := by decide +kernel
theorem dX3_copyFrom_31 : decode cX3_copyFrom 31 = .ok (.getfield 27, 3) := by decide +kernel
theorem dX3_copyFrom_34 : decode cX3_copyFrom 34 = .ok (.aload_n 1, 1) := by decide +kernel
theorem dX3_copyFrom_35 : decode cX3_copyFrom 35 = .ok (.getfield 27, 3) := by decide +kernel
theorem dX3_copyFrom_38 : decode cX3_copyFrom 38 = .ok (.invokevirtual 55, 3) := by decide +kernel
theorem dX3_copyFrom_41 : decode cX3_copyFrom 41 = .ok (.aload_n 0, 1) := by decide +kernel
theorem dX3_copyFrom_42 : decode cX3_copyFrom 42 = .ok (.getfield 30, 3) := by decide +kernel
theorem dX3_copyFrom_45 : decode cX3_copyFrom 45 = .ok (.aload_n 1, 1) := by decide +kernel
theorem dX3_copyFrom_46 : decode cX3_copyFrom 46 = .ok (.getfield 30, 3) := by decide +kernel
theorem dX3_copyFrom_49 : decode cX3_copyFrom 49 = .ok (.invokevirtual 55, 3) := by decide +kernel
theorem dX3_copyFrom_52 : decode cX3_copyFrom 52 = .ok (.aload_n 0, 1) := by decide +kernel
theorem dX3_copyFrom_53 : decode cX3_copyFrom 53 = .ok (.aload_n 1, 1) := by decide +kernel
theorem dX3_copyFrom_54 : decode cX3_copyFrom 54 = .ok (.getfield 48, 3) := by decide +kernel
theorem dX3_copyFrom_57 : decode cX3_copyFrom 57 = .ok (.putfield 48, 3) := by decide +kernel
theorem dX3_copyFrom_60 : decode cX3_copyFrom 60 = .ok (.return_, 1) := by decide +kernel
theorem dX3_look_0 : decode cX3_look 0 = .ok (.aload_n 0, 1) := by decide +kernel
theorem dX3_look_1 : decode cX3_look 1 = .ok (.getfield 42, 3) := by decide +kernel
theorem dX3_look_4 : decode cX3_look 4 = .ok (.getstatic 59, 3) := by decide +kernel
theorem dX3_look_7 : decode cX3_look 7 = .ok (.getfield 39, 3) := by decide +kernel
theorem dX3_look_10 : decode cX3_look 10 = .ok (.iload_n 2, 1) := by decide +kernel
theorem dX3_look_11 : decode cX3_look 11 = .ok (.invokevirtual 51, 3) := by decide +kernel
theorem dX3_look_14 : decode cX3_look 14 = .ok (.aload_n 0, 1) := by decide +kernel
theorem dX3_look_15 : decode cX3_look 15 = .ok (.getfield 42, 3) := by decide +kernel
theorem dX3_look_18 : decode cX3_look 18 = .ok (.getstatic 62, 3) := by decide +kernel
theorem dX3_look_21 : decode cX3_look 21 = .ok (.getfield 39, 3) := by decide +kernel
theorem dX3_look_24 : decode cX3_look 24 = .ok (.iload_n 3, 1) := by decide +kernel
theorem dX3_look_25 : decode cX3_look 25 = .ok (.invokevirtual 51, 3) := by decide +kernel
theorem dX3_look_28 : decode cX3_look 28 = .ok (.aload_n 0, 1) := by decide +kernel
theorem dX3_look_29 : decode cX3_look 29 = .ok (.getfield 42, 3) := by decide +kernel
theorem dX3_look_32 : decode cX3_look 32 = .ok (.getstatic 65, 3) := by decide +kernel
theorem dX3_look_35 : decode cX3_look 35 = .ok (.getfield 39, 3) := by decide +kernel
theorem dX3_look_38 : decode cX3_look 38 = .ok (.aload_n 1, 1) := by decide +kernel
theorem dX3_look_39 : decode cX3_look 39 = .ok (.getfield 68, 3) := by decide +kernel
theorem dX3_look_42 : decode cX3_look 42 = .ok (.iload_n 3, 1) := by decide +kernel
theorem dX3_look_43 : decode cX3_look 43 = .ok (.invokevirtual 73, 3) := by decide +kernel
theorem dX3_look_46 : decode cX3_look 46 = .ok (.invokevirtual 51, 3) := by decide +kernel
theorem dX3_look_49 : decode cX3_look 49 = .ok (.aload_n 0, 1) := by decide +kernel
theorem dX3_look_50 : decode cX3_look 50 = .ok (.getfield 42, 3) := by decide +kernel
theorem dX3_look_53 : decode cX3_look 53 = .ok (.getstatic 77, 3) := by decide +kernel
theorem dX3_look_56 : decode cX3_look 56 = .ok (.getfield 39, 3) := by decide +kernel
theorem dX3_look_59 : decode cX3_look 59 = .ok (.aload_n 1, 1) := by decide +kernel
theorem dX3_look_60 : decode cX3_look 60 = .ok (.getfield 80, 3) := by decide +kernel
theorem dX3_look_63 : decode cX3_look 63 = .ok (.iload_n 3, 1) := by decide +kernel
theorem dX3_look_64 : decode cX3_look 64 = .ok (.invokevirtual 73, 3) := by decide +kernel
theorem dX3_look_67 : decode cX3_look 67 = .ok (.invokevirtual 51, 3) := by decide +kernel
theorem dX3_look_70 : decode cX3_look 70 = .ok (.aload_n 0, 1) := by decide +kernel
theorem dX3_look_71 : decode cX3_look 71 = .ok (.getfield 42, 3) := by decide +kernel
theorem dX3_look_74 : decode cX3_look 74 = .ok (.getstatic 83, 3) := by decide +kernel
theorem dX3_look_77 : decode cX3_look 77 = .ok (.getfield 39, 3) := by decide +kernel
theorem dX3_look_80 : decode cX3_look 80 = .ok (.iload 5, 2) := by decide +kernel
theorem dX3_look_82 : decode cX3_look 82 = .ok (.invokevirtual 51, 3) := by decide +kernel
theorem dX3_look_85 : decode cX3_look 85 = .ok (.aload_n 0, 1) := by decide +kernel
theorem dX3_look_86 : decode cX3_look 86 = .ok (.getfield 42, 3) := by decide +kernel
theorem dX3_look_89 : decode cX3_look 89 = .ok (.getstatic 86, 3) := by decide +kernel
theorem dX3_look_92 : decode cX3_look 92 = .ok (.getfield 39, 3) := by decide +kernel
theorem dX3_look_95 : decode cX3_look 95 = .ok (.iload 4, 2) := by decide +kernel
theorem dX3_look_97 : decode cX3_look 97 = .ok (.invokevirtual 51, 3) := by decide +kernel
theorem dX3_look_100 : decode cX3_look 100 = .ok (.aload_n 0, 1) := by decide +kernel
theorem dX3_look_101 : decode cX3_look 101 = .ok (.getfield 42, 3) := by decide +kernel
theorem dX3_look_104 : decode cX3_look 104 = .ok (.getstatic 89, 3) := by decide +kernel
theorem dX3_look_107 : decode cX3_look 107 = .ok (.getfield 39, 3) := by decide +kernel
theorem dX3_look_110 : decode cX3_look 110 = .ok (.aload_n 1, 1) := by decide +kernel
theorem dX3_look_111 : decode cX3_look 111 = .ok (.getfield 92, 3) := by decide +kernel
theorem dX3_look_114 : decode cX3_look 114 = .ok (.invokevirtual 51, 3) := by decide +kernel
theorem dX3_look_117 : decode cX3_look 117 = .ok (.aload_n 0, 1) := by decide +kernel
theorem dX3_look_118 : decode cX3_look 118 = .ok (.getfield 42, 3) := by decide +kernel
theorem dX3_look_121 : decode cX3_look 121 = .ok (.getstatic 95, 3) := by decide +kernel
theorem dX3_look_124 : decode cX3_look 124 = .ok (.getfield 39, 3) := by decide +kernel
theorem dX3_look_127 : decode cX3_look 127 = .ok (.aload_n 1, 1) := by decide +kernel
theorem dX3_look_128 : decode cX3_look 128 = .ok (.getfield 98, 3) := by decide +kernel
theorem dX3_look_131 : decode cX3_look 131 = .ok (.iload_n 3, 1) := by decide +kernel
theorem dX3_look_132 : decode cX3_look 132 = .ok (.invokevirtual 73, 3) := by decide +kernel
theorem dX3_look_135 : decode cX3_look 135 = .ok (.iconst (-1), 1) := by decide +kernel
theorem dX3_look_136 : decode cX3_look 136 = .ok (.if_icmp .eq 7, 3) := by decide +kernel
theorem dX3_look_139 : decode cX3_look 139 = .ok (.iconst 1, 1) := by decide +kernel
theorem dX3_look_140 : decode cX3_look 140 = .ok (.goto 4, 3) := by decide +kernel
theorem dX3_look_143 : decode cX3_look 143 = .ok (.iconst 0, 1) := by decide +kernel
theorem dX3_look_144 : decode cX3_look 144 = .ok (.invokevirtual 51, 3) := by decide +kernel
theorem dX3_look_147 : decode cX3_look 147 = .ok (.aload_n 0, 1) := by decide +kernel
theorem dX3_look_148 : decode cX3_look 148 = .ok (.getfield 42, 3) := by decide +kernel
theorem dX3_look_151 : decode cX3_look 151 = .ok (.getstatic 33, 3) := by decide +kernel
theorem dX3_look_154 : decode cX3_look 154 = .ok (.getfield 39, 3) := by decide +kernel
theorem dX3_look_157 : decode cX3_look 157 = .ok (.aload_n 1, 1) := by decide +kernel
theorem dX3_look_158 : decode cX3_look 158 = .ok (.getfield 101, 3) := by decide +kernel
theorem dX3_look_161 : decode cX3_look 161 = .ok (.ifCond .eq 7, 3) := by decide +kernel
theorem dX3_look_164 : decode cX3_look 164 = .ok (.iconst 1, 1) := by decide +kernel
theorem dX3_look_165 : decode cX3_look 165 = .ok (.goto 4, 3) := by decide +kernel
theorem dX3_look_168 : decode cX3_look 168 = .ok (.iconst 0, 1) := by decide +kernel
theorem dX3_look_169 : decode cX3_look 169 = .ok (.invokevirtual 51, 3) := by decide +kernel
theorem dX3_look_172 : decode cX3_look 172 = .ok (.return_, 1) := by decide +kernel
theorem dX3_willNow_0 : decode cX3_willNow 0 = .ok (.aload_n 0, 1) := by decide +kernel
theorem dX3_willNow_1 : decode cX3_willNow 1 = .ok (.getfield 42, 3) := by decide +kernel
theorem dX3_willNow_4 : decode cX3_willNow 4 = .ok (.getstatic 86, 3) := by decide +kernel
theorem dX3_willNow_7 : decode cX3_willNow 7 = .ok (.getfield 39, 3) := by decide +kernel
theorem dX3_willNow_10 : decode cX3_willNow 10 = .ok (.invokevirtual 73, 3) := by decide +kernel
theorem dX3_willNow_13 : decode cX3_willNow 13 = .ok (.istore_n 1, 1) := by decide +kernel
theorem dX3_willNow_14 : decode cX3_willNow 14 = .ok (.iconst 0, 1) := by decide +kernel
theorem dX3_willNow_15 : decode cX3_willNow 15 = .ok (.istore_n 2, 1) := by decide +kernel
theorem dX3_willNow_16 : decode cX3_willNow 16 = .ok (.iload_n 2, 1) := by decide +kernel
theorem dX3_willNow_17 : decode cX3_willNow 17 = .ok (.aload_n 0, 1) := by decide +kernel
theorem dX3_willNow_18 : decode cX3_willNow 18 = .ok (.getfield 9, 3) := by decide +kernel
theorem dX3_willNow_21 : decode cX3_willNow 21 = .ok (.if_icmp .ge 39, 3) := by decide +kernel
theorem dX3_willNow_24 : decode cX3_willNow 24 = .ok (.aload_n 0, 1) := by decide +kernel
theorem dX3_willNow_25 : decode cX3_willNow 25 = .ok (.getfield 20, 3) := by decide +kernel
theorem dX3_willNow_28 : decode cX3_willNow 28 = .ok (.iload_n 2, 1) := by decide +kernel
theorem dX3_willNow_29 : decode cX3_willNow 29 = .ok (.invokevirtual 73, 3) := by decide +kernel
theorem dX3_willNow_32 : decode cX3_willNow 32 = .ok (.ifCond .eq 22, 3) := by decide +kernel
theorem dX3_willNow_35 : decode cX3_willNow 35 = .ok (.aload_n 0, 1) := by decide +kernel
theorem dX3_willNow_36 : decode cX3_willNow 36 = .ok (.iload_n 2, 1) := by decide +kernel
theorem dX3_willNow_37 : decode cX3_willNow 37 = .ok (.invokevirtual 105, 3) := by decide +kernel
theorem dX3_willNow_40 : decode cX3_willNow 40 = .ok (.ifCond .eq 14, 3) := by decide +kernel
theorem dX3_willNow_43 : decode cX3_willNow 43 = .ok (.iload_n 1, 1) := by decide +kernel
theorem dX3_willNow_44 : decode cX3_willNow 44 = .ok (.aload_n 0, 1) := by decide +kernel
theorem dX3_willNow_45 : decode cX3_willNow 45 = .ok (.getfield 20, 3) := by decide +kernel
theorem dX3_willNow_48 : decode cX3_willNow 48 = .ok (.iload_n 2, 1) := by decide +kernel
theorem dX3_willNow_49 : decode cX3_willNow 49 = .ok (.invokevirtual 73, 3) := by decide +kernel
theorem dX3_willNow_52 : decode cX3_willNow 52 = .ok (.iadd, 1) := by decide +kernel
theorem dX3_willNow_53 : decode cX3_willNow 53 = .ok (.istore_n 1, 1) := by decide +kernel
theorem dX3_willNow_54 : decode cX3_willNow 54 = .ok (.iinc 2 1, 3) := by decide +kernel
theorem dX3_willNow_57 : decode cX3_willNow 57 = .ok (.goto (-41), 3) := by decide +kernel
theorem dX3_willNow_60 : decode cX3_willNow 60 = .ok (.iload_n 1, 1) := by decide +kernel
theorem dX3_willNow_61 : decode cX3_willNow 61 = .ok (.ireturn, 1) := by decide +kernel
theorem dX3_passesNow_0 : decode cX3_passesNow 0 = .ok (.iconst 0, 1) := by decide +kernel
theorem dX3_passesNow_1 : decode cX3_passesNow 1 = .ok (.istore_n 1, 1) := by decide +kernel
theorem dX3_passesNow_2 : decode cX3_passesNow 2 = .ok (.iload_n 1, 1) := by decide +kernel
theorem dX3_passesNow_3 : decode cX3_passesNow 3 = .ok (.aload_n 0, 1) := by decide +kernel
theorem dX3_passesNow_4 : decode cX3_passesNow 4 = .ok (.getfield 9, 3) := by decide +kernel
theorem dX3_passesNow_7 : decode cX3_passesNow 7 = .ok (.if_icmp .ge 30, 3) := by decide +kernel
theorem dX3_passesNow_10 : decode cX3_passesNow 10 = .ok (.aload_n 0, 1) := by decide +kernel
theorem dX3_passesNow_11 : decode cX3_passesNow 11 = .ok (.getfield 24, 3) := by decide +kernel
theorem dX3_passesNow_14 : decode cX3_passesNow 14 = .ok (.iload_n 1, 1) := by decide +kernel
theorem dX3_passesNow_15 : decode cX3_passesNow 15 = .ok (.invokevirtual 73, 3) := by decide +kernel
theorem dX3_passesNow_18 : decode cX3_passesNow 18 = .ok (.ifCond .eq 13, 3) := by decide +kernel
theorem dX3_passesNow_21 : decode cX3_passesNow 21 = .ok (.aload_n 0, 1) := by decide +kernel
theorem dX3_passesNow_22 : decode cX3_passesNow 22 = .ok (.iload_n 1, 1) := by decide +kernel
theorem dX3_passesNow_23 : decode cX3_passesNow 23 = .ok (.invokevirtual 105, 3) := by decide +kernel
theorem dX3_passesNow_26 : decode cX3_passesNow 26 = .ok (.ifCond .eq 5, 3) := by decide +kernel
theorem dX3_passesNow_29 : decode cX3_passesNow 29 = .ok (.iconst 1, 1) := by decide +kernel
theorem dX3_passesNow_30 : decode cX3_passesNow 30 = .ok (.ireturn, 1) := by decide +kernel
theorem dX3_passesNow_31 : decode cX3_passesNow 31 = .ok (.iinc 1 1, 3) := by decide +kernel
theorem dX3_passesNow_34 : decode cX3_passesNow 34 = .ok (.goto (-32), 3) := by decide +kernel
theorem dX3_passesNow_37 : decode cX3_passesNow 37 = .ok (.iconst 0, 1) := by decide +kernel
theorem dX3_passesNow_38 : decode cX3_passesNow 38 = .ok (.ireturn, 1) := by decide +kernel
theorem dX3_letsLight_0 : decode cX3_letsLight 0 = .ok (.iload 5, 2) := by decide +kernel
theorem dX3_letsLight_2 : decode cX3_letsLight 2 = .ok (.ifCond .le 34, 3) := by decide +kernel
theorem dX3_letsLight_5 : decode cX3_letsLight 5 = .ok (.aload_n 1, 1) := by decide +kernel
theorem dX3_letsLight_6 : decode cX3_letsLight 6 = .ok (.iload_n 3, 1) := by decide +kernel
theorem dX3_letsLight_7 : decode cX3_letsLight 7 = .ok (.invokevirtual 109, 3) := by decide +kernel
theorem dX3_letsLight_10 : decode cX3_letsLight 10 = .ok (.ifCond .ne 26, 3) := by decide +kernel
theorem dX3_letsLight_13 : decode cX3_letsLight 13 = .ok (.aload_n 1, 1) := by decide +kernel
theorem dX3_letsLight_14 : decode cX3_letsLight 14 = .ok (.getfield 68, 3) := by decide +kernel
theorem dX3_letsLight_17 : decode cX3_letsLight 17 = .ok (.iload_n 3, 1) := by decide +kernel
theorem dX3_letsLight_18 : decode cX3_letsLight 18 = .ok (.invokevirtual 73, 3) := by decide +kernel
theorem dX3_letsLight_21 : decode cX3_letsLight 21 = .ok (.ifCond .le 15, 3) := by decide +kernel
theorem dX3_letsLight_24 : decode cX3_letsLight 24 = .ok (.aload_n 1, 1) := by decide +kernel
theorem dX3_letsLight_25 : decode cX3_letsLight 25 = .ok (.getfield 98, 3) := by decide +kernel
theorem dX3_letsLight_28 : decode cX3_letsLight 28 = .ok (.iload_n 3, 1) := by decide +kernel
theorem dX3_letsLight_29 : decode cX3_letsLight 29 = .ok (.invokevirtual 73, 3) := by decide +kernel
theorem dX3_letsLight_32 : decode cX3_letsLight 32 = .ok (.iload_n 2, 1) := by decide +kernel
theorem dX3_letsLight_33 : decode cX3_letsLight 33 = .ok (.if_icmp .ne 5, 3) := by decide +kernel
theorem dX3_letsLight_36 : decode cX3_letsLight 36 = .ok (.iconst 0, 1) := by decide +kernel
theorem dX3_letsLight_37 : decode cX3_letsLight 37 = .ok (.ireturn, 1) := by decide +kernel
theorem dX3_letsLight_38 : decode cX3_letsLight 38 = .ok (.aload_n 0, 1) := by decide +kernel
theorem dX3_letsLight_39 : decode cX3_letsLight 39 = .ok (.aload_n 1, 1) := by decide +kernel
theorem dX3_letsLight_40 : decode cX3_letsLight 40 = .ok (.iload_n 2, 1) := by decide +kernel
theorem dX3_letsLight_41 : decode cX3_letsLight 41 = .ok (.iload_n 3, 1) := by decide +kernel
theorem dX3_letsLight_42 : decode cX3_letsLight 42 = .ok (.iload 4, 2) := by decide +kernel
theorem dX3_letsLight_44 : decode cX3_letsLight 44 = .ok (.iload 5, 2) := by decide +kernel
theorem dX3_letsLight_46 : decode cX3_letsLight 46 = .ok (.invokevirtual 112, 3) := by decide +kernel
theorem dX3_letsLight_49 : decode cX3_letsLight 49 = .ok (.aload_n 0, 1) := by decide +kernel
theorem dX3_letsLight_50 : decode cX3_letsLight 50 = .ok (.invokevirtual 116, 3) := by decide +kernel
theorem dX3_letsLight_53 : decode cX3_letsLight 53 = .ok (.iconst 5, 1) := by decide +kernel
theorem dX3_letsLight_54 : decode cX3_letsLight 54 = .ok (.if_icmp .lt 14, 3) := by decide +kernel
theorem dX3_letsLight_57 : decode cX3_letsLight 57 = .ok (.aload_n 0, 1) := by decide +kernel
theorem dX3_letsLight_58 : decode cX3_letsLight 58 = .ok (.invokevirtual 120, 3) := by decide +kernel
theorem dX3_letsLight_61 : decode cX3_letsLight 61 = .ok (.ifCond .ne 7, 3) := by decide +kernel
theorem dX3_letsLight_64 : decode cX3_letsLight 64 = .ok (.iconst 1, 1) := by decide +kernel
theorem dX3_letsLight_65 : decode cX3_letsLight 65 = .ok (.goto 4, 3) := by decide +kernel
theorem dX3_letsLight_68 : decode cX3_letsLight 68 = .ok (.iconst 0, 1) := by decide +kernel
theorem dX3_letsLight_69 : decode cX3_letsLight 69 = .ok (.ireturn, 1) := by decide +kernel
theorem dX3_holds_0 : decode cX3_holds 0 = .ok (.iconst (-1), 1) := by decide +kernel
theorem dX3_holds_1 : decode cX3_holds 1 = .ok (.istore_n 2, 1) := by decide +kernel
theorem dX3_holds_2 : decode cX3_holds 2 = .ok (.iload_n 1, 1) := by decide +kernel
theorem dX3_holds_3 : decode cX3_holds 3 = .ok (.ifCond .le 16, 3) := by decide +kernel
theorem dX3_holds_6 : decode cX3_holds 6 = .ok (.aload_n 0, 1) := by decide +kernel
theorem dX3_holds_7 : decode cX3_holds 7 = .ok (.getfield 27, 3) := by decide +kernel
theorem dX3_holds_10 : decode cX3_holds 10 = .ok (.iload_n 1, 1) := by decide +kernel
theorem dX3_holds_11 : decode cX3_holds 11 = .ok (.iconst 1, 1) := by decide +kernel
theorem dX3_holds_12 : decode cX3_holds 12 = .ok (.isub, 1) := by decide +kernel
theorem dX3_holds_13 : decode cX3_holds 13 = .ok (.invokevirtual 73, 3) := by decide +kernel
theorem dX3_holds_16 : decode cX3_holds 16 = .ok (.goto 4, 3) := by decide +kernel
theorem dX3_holds_19 : decode cX3_holds 19 = .ok (.iconst 0, 1) := by decide +kernel
theorem dX3_holds_20 : decode cX3_holds 20 = .ok (.istore_n 3, 1) := by decide +kernel
theorem dX3_holds_21 : decode cX3_holds 21 = .ok (.iload_n 3, 1) := by decide +kernel
theorem dX3_holds_22 : decode cX3_holds 22 = .ok (.aload_n 0, 1) := by decide +kernel
theorem dX3_holds_23 : decode cX3_holds 23 = .ok (.getfield 27, 3) := by decide +kernel
theorem dX3_holds_26 : decode cX3_holds 26 = .ok (.iload_n 1, 1) := by decide +kernel
theorem dX3_holds_27 : decode cX3_holds 27 = .ok (.invokevirtual 73, 3) := by decide +kernel
theorem dX3_holds_30 : decode cX3_holds 30 = .ok (.if_icmp .ge 137, 3) := by decide +kernel
theorem dX3_holds_33 : decode cX3_holds 33 = .ok (.aload_n 0, 1) := by decide +kernel
theorem dX3_holds_34 : decode cX3_holds 34 = .ok (.getfield 30, 3) := by decide +kernel
theorem dX3_holds_37 : decode cX3_holds 37 = .ok (.iload_n 3, 1) := by decide +kernel
theorem dX3_holds_38 : decode cX3_holds 38 = .ok (.invokevirtual 73, 3) := by decide +kernel
theorem dX3_holds_41 : decode cX3_holds 41 = .ok (.istore 4, 2) := by decide +kernel
theorem dX3_holds_43 : decode cX3_holds 43 = .ok (.iload 4, 2) := by decide +kernel
theorem dX3_holds_45 : decode cX3_holds 45 = .ok (.sipush 1000, 3) := by decide +kernel
theorem dX3_holds_48 : decode cX3_holds 48 = .ok (.if_icmp .lt 30, 3) := by decide +kernel
theorem dX3_holds_51 : decode cX3_holds 51 = .ok (.iinc 2 1, 3) := by decide +kernel
theorem dX3_holds_54 : decode cX3_holds 54 = .ok (.aload_n 0, 1) := by decide +kernel
theorem dX3_holds_55 : decode cX3_holds 55 = .ok (.getfield 45, 3) := by decide +kernel
theorem dX3_holds_58 : decode cX3_holds 58 = .ok (.iload_n 2, 1) := by decide +kernel
theorem dX3_holds_59 : decode cX3_holds 59 = .ok (.aload_n 0, 1) := by decide +kernel
theorem dX3_holds_60 : decode cX3_holds 60 = .ok (.getfield 42, 3) := by decide +kernel
theorem dX3_holds_63 : decode cX3_holds 63 = .ok (.iload 4, 2) := by decide +kernel
theorem dX3_holds_65 : decode cX3_holds 65 = .ok (.sipush 1000, 3) := by decide +kernel
theorem dX3_holds_68 : decode cX3_holds 68 = .ok (.isub, 1) := by decide +kernel
theorem dX3_holds_69 : decode cX3_holds 69 = .ok (.invokevirtual 73, 3) := by decide +kernel
theorem dX3_holds_72 : decode cX3_holds 72 = .ok (.invokevirtual 51, 3) := by decide +kernel
theorem dX3_holds_75 : decode cX3_holds 75 = .ok (.goto 86, 3) := by decide +kernel
theorem dX3_holds_78 : decode cX3_holds 78 = .ok (.iload 4, 2) := by decide +kernel
theorem dX3_holds_80 : decode cX3_holds 80 = .ok (.ifCond .lt 19, 3) := by decide +kernel
theorem dX3_holds_83 : decode cX3_holds 83 = .ok (.iinc 2 1, 3) := by decide +kernel
theorem dX3_holds_86 : decode cX3_holds 86 = .ok (.aload_n 0, 1) := by decide +kernel
theorem dX3_holds_87 : decode cX3_holds 87 = .ok (.getfield 45, 3) := by decide +kernel
theorem dX3_holds_90 : decode cX3_holds 90 = .ok (.iload_n 2, 1) := by decide +kernel
theorem dX3_holds_91 : decode cX3_holds 91 = .ok (.iload 4, 2) := by decide +kernel
theorem dX3_holds_93 : decode cX3_holds 93 = .ok (.invokevirtual 51, 3) := by decide +kernel
theorem dX3_holds_96 : decode cX3_holds 96 = .ok (.goto 65, 3) := by decide +kernel
theorem dX3_holds_99 : decode cX3_holds 99 = .ok (.iload 4, 2) := by decide +kernel
theorem dX3_holds_101 : decode cX3_holds 101 = .ok (.bipush (-4), 2) := by decide +kernel
theorem dX3_holds_103 : decode cX3_holds 103 = .ok (.if_icmp .ne 24, 3) := by decide +kernel
theorem dX3_holds_106 : decode cX3_holds 106 = .ok (.aload_n 0, 1) := by decide +kernel
theorem dX3_holds_107 : decode cX3_holds 107 = .ok (.getfield 45, 3) := by decide +kernel
theorem dX3_holds_110 : decode cX3_holds 110 = .ok (.iload_n 2, 1) := by decide +kernel
theorem dX3_holds_111 : decode cX3_holds 111 = .ok (.iconst 1, 1) := by decide +kernel
theorem dX3_holds_112 : decode cX3_holds 112 = .ok (.aload_n 0, 1) := by decide +kernel
theorem dX3_holds_113 : decode cX3_holds 113 = .ok (.getfield 45, 3) := by decide +kernel
theorem dX3_holds_116 : decode cX3_holds 116 = .ok (.iload_n 2, 1) := by decide +kernel
theorem dX3_holds_117 : decode cX3_holds 117 = .ok (.invokevirtual 73, 3) := by decide +kernel
theorem dX3_holds_120 : decode cX3_holds 120 = .ok (.isub, 1) := by decide +kernel
theorem dX3_holds_121 : decode cX3_holds 121 = .ok (.invokevirtual 51, 3) := by decide +kernel
theorem dX3_holds_124 : decode cX3_holds 124 = .ok (.goto 37, 3) := by decide +kernel
theorem dX3_holds_127 : decode cX3_holds 127 = .ok (.iinc 2 (-1), 3) := by decide +kernel
theorem dX3_holds_130 : decode cX3_holds 130 = .ok (.aload_n 0, 1) := by decide +kernel
theorem dX3_holds_131 : decode cX3_holds 131 = .ok (.getfield 45, 3) := by decide +kernel
theorem dX3_holds_134 : decode cX3_holds 134 = .ok (.iload_n 2, 1) := by decide +kernel
theorem dX3_holds_135 : decode cX3_holds 135 = .ok (.iload 4, 2) := by decide +kernel
theorem dX3_holds_137 : decode cX3_holds 137 = .ok (.aload_n 0, 1) := by decide +kernel
theorem dX3_holds_138 : decode cX3_holds 138 = .ok (.getfield 45, 3) := by decide +kernel
theorem dX3_holds_141 : decode cX3_holds 141 = .ok (.iload_n 2, 1) := by decide +kernel
theorem dX3_holds_142 : decode cX3_holds 142 = .ok (.invokevirtual 73, 3) := by decide +kernel
theorem dX3_holds_145 : decode cX3_holds 145 = .ok (.aload_n 0, 1) := by decide +kernel
theorem dX3_holds_146 : decode cX3_holds 146 = .ok (.getfield 45, 3) := by decide +kernel
theorem dX3_holds_149 : decode cX3_holds 149 = .ok (.iload_n 2, 1) := by decide +kernel
theorem dX3_holds_150 : decode cX3_holds 150 = .ok (.iconst 1, 1) := by decide +kernel
theorem dX3_holds_151 : decode cX3_holds 151 = .ok (.iadd, 1) := by decide +kernel
theorem dX3_holds_152 : decode cX3_holds 152 = .ok (.invokevirtual 73, 3) := by decide +kernel
theorem dX3_holds_155 : decode cX3_holds 155 = .ok (.invokestatic 124, 3) := by decide +kernel
theorem dX3_holds_158 : decode cX3_holds 158 = .ok (.invokevirtual 51, 3) := by decide +kernel
theorem dX3_holds_161 : decode cX3_holds 161 = .ok (.iinc 3 1, 3) := by decide +kernel
theorem dX3_holds_164 : decode cX3_holds 164 = .ok (.goto (-143), 3) := by decide +kernel
theorem dX3_holds_167 : decode cX3_holds 167 = .ok (.iload_n 2, 1) := by decide +kernel
theorem dX3_holds_168 : decode cX3_holds 168 = .ok (.ifCond .lt 14, 3) := by decide +kernel
theorem dX3_holds_171 : decode cX3_holds 171 = .ok (.aload_n 0, 1) := by decide +kernel
theorem dX3_holds_172 : decode cX3_holds 172 = .ok (.getfield 45, 3) := by decide +kernel
theorem dX3_holds_175 : decode cX3_holds 175 = .ok (.iload_n 2, 1) := by decide +kernel
theorem dX3_holds_176 : decode cX3_holds 176 = .ok (.invokevirtual 73, 3) := by decide +kernel
theorem dX3_holds_179 : decode cX3_holds 179 = .ok (.ifCond .eq 7, 3) := by decide +kernel
theorem dX3_holds_182 : decode cX3_holds 182 = .ok (.iconst 1, 1) := by decide +kernel
theorem dX3_holds_183 : decode cX3_holds 183 = .ok (.goto 4, 3) := by decide +kernel
theorem dX3_holds_186 : decode cX3_holds 186 = .ok (.iconst 0, 1) := by decide +kernel
theorem dX3_holds_187 : decode cX3_holds 187 = .ok (.ireturn, 1) := by decide +kernel
theorem dX3_joined_0 : decode cX3_joined 0 = .ok (.iload_n 0, 1) := by decide +kernel
theorem dX3_joined_1 : decode cX3_joined 1 = .ok (.tableswitch 65 (-5) (-1) #[61, 65, 50, 39, 35], 35) := by decide +kernel
theorem dX3_joined_36 : decode cX3_joined 36 = .ok (.iload_n 1, 1) := by decide +kernel
theorem dX3_joined_37 : decode cX3_joined 37 = .ok (.iload_n 2, 1) := by decide +kernel
theorem dX3_joined_38 : decode cX3_joined 38 = .ok (.iadd, 1) := by decide +kernel
theorem dX3_joined_39 : decode cX3_joined 39 = .ok (.ireturn, 1) := by decide +kernel
theorem dX3_joined_40 : decode cX3_joined 40 = .ok (.iload_n 1, 1) := by decide +kernel
theorem dX3_joined_41 : decode cX3_joined 41 = .ok (.iload_n 2, 1) := by decide +kernel
theorem dX3_joined_42 : decode cX3_joined 42 = .ok (.if_icmp .ge 7, 3) := by decide +kernel
theorem dX3_joined_45 : decode cX3_joined 45 = .ok (.iconst 1, 1) := by decide +kernel
theorem dX3_joined_46 : decode cX3_joined 46 = .ok (.goto 4, 3) := by decide +kernel
theorem dX3_joined_49 : decode cX3_joined 49 = .ok (.iconst 0, 1) := by decide +kernel
theorem dX3_joined_50 : decode cX3_joined 50 = .ok (.ireturn, 1) := by decide +kernel
theorem dX3_joined_51 : decode cX3_joined 51 = .ok (.iload_n 1, 1) := by decide +kernel
theorem dX3_joined_52 : decode cX3_joined 52 = .ok (.iload_n 2, 1) := by decide +kernel
theorem dX3_joined_53 : decode cX3_joined 53 = .ok (.if_icmp .le 7, 3) := by decide +kernel
theorem dX3_joined_56 : decode cX3_joined 56 = .ok (.iconst 1, 1) := by decide +kernel
theorem dX3_joined_57 : decode cX3_joined 57 = .ok (.goto 4, 3) := by decide +kernel
theorem dX3_joined_60 : decode cX3_joined 60 = .ok (.iconst 0, 1) := by decide +kernel
theorem dX3_joined_61 : decode cX3_joined 61 = .ok (.ireturn, 1) := by decide +kernel
theorem dX3_joined_62 : decode cX3_joined 62 = .ok (.iload_n 1, 1) := by decide +kernel
theorem dX3_joined_63 : decode cX3_joined 63 = .ok (.iload_n 2, 1) := by decide +kernel
theorem dX3_joined_64 : decode cX3_joined 64 = .ok (.iand, 1) := by decide +kernel
theorem dX3_joined_65 : decode cX3_joined 65 = .ok (.ireturn, 1) := by decide +kernel
theorem dX3_joined_66 : decode cX3_joined 66 = .ok (.iload_n 1, 1) := by decide +kernel
theorem dX3_joined_67 : decode cX3_joined 67 = .ok (.iload_n 2, 1) := by decide +kernel
theorem dX3_joined_68 : decode cX3_joined 68 = .ok (.ior, 1) := by decide +kernel
theorem dX3_joined_69 : decode cX3_joined 69 = .ok (.ireturn, 1) := by decide +kernel
theorem dX4_readAll_0 : decode cX4_readAll 0 = .ok (.iconst 0, 1) := by decide +kernel
theorem dX4_readAll_1 : decode cX4_readAll 1 = .ok (.istore_n 2, 1) := by decide +kernel
theorem dX4_readAll_2 : decode cX4_readAll 2 = .ok (.iload_n 2, 1) := by decide +kernel
theorem dX4_readAll_3 : decode cX4_readAll 3 = .ok (.bipush 12, 2) := by decide +kernel
theorem dX4_readAll_5 : decode cX4_readAll 5 = .ok (.if_icmp .gt 29, 3) := by decide +kernel
theorem dX4_readAll_8 : decode cX4_readAll 8 = .ok (.aload_n 0, 1) := by decide +kernel
theorem dX4_readAll_9 : decode cX4_readAll 9 = .ok (.iload_n 2, 1) := by decide +kernel
theorem dX4_readAll_10 : decode cX4_readAll 10 = .ok (.bipush 12, 2) := by decide +kernel
theorem dX4_readAll_12 : decode cX4_readAll 12 = .ok (.invokevirtual 9, 3) := by decide +kernel
theorem dX4_readAll_15 : decode cX4_readAll 15 = .ok (.ifCond .eq 19, 3) := by decide +kernel
theorem dX4_readAll_18 : decode cX4_readAll 18 = .ok (.aload_n 0, 1) := by decide +kernel
theorem dX4_readAll_19 : decode cX4_readAll 19 = .ok (.aload_n 1, 1) := by decide +kernel
theorem dX4_readAll_20 : decode cX4_readAll 20 = .ok (.invokestatic 15, 3) := by decide +kernel
theorem dX4_readAll_23 : decode cX4_readAll 23 = .ok (.ifCond .ne 5, 3) := by decide +kernel
theorem dX4_readAll_26 : decode cX4_readAll 26 = .ok (.iconst 0, 1) := by decide +kernel
theorem dX4_readAll_27 : decode cX4_readAll 27 = .ok (.ireturn, 1) := by decide +kernel
theorem dX4_readAll_28 : decode cX4_readAll 28 = .ok (.iinc 2 1, 3) := by decide +kernel
theorem dX4_readAll_31 : decode cX4_readAll 31 = .ok (.goto (-29), 3) := by decide +kernel
theorem dX4_readAll_34 : decode cX4_readAll 34 = .ok (.aload_n 0, 1) := by decide +kernel
theorem dX4_readAll_35 : decode cX4_readAll 35 = .ok (.getfield 21, 3) := by decide +kernel
theorem dX4_readAll_38 : decode cX4_readAll 38 = .ok (.iconst (-1), 1) := by decide +kernel
theorem dX4_readAll_39 : decode cX4_readAll 39 = .ok (.if_icmp .ne 7, 3) := by decide +kernel
theorem dX4_readAll_42 : decode cX4_readAll 42 = .ok (.iconst 1, 1) := by decide +kernel
theorem dX4_readAll_43 : decode cX4_readAll 43 = .ok (.goto 4, 3) := by decide +kernel
theorem dX4_readAll_46 : decode cX4_readAll 46 = .ok (.iconst 0, 1) := by decide +kernel
theorem dX4_readAll_47 : decode cX4_readAll 47 = .ok (.ireturn, 1) := by decide +kernel
theorem dX4_readLine_0 : decode cX4_readLine 0 = .ok (.aload_n 0, 1) := by decide +kernel
theorem dX4_readLine_1 : decode cX4_readLine 1 = .ok (.invokevirtual 25, 3) := by decide +kernel
theorem dX4_readLine_4 : decode cX4_readLine 4 = .ok (.astore_n 2, 1) := by decide +kernel
theorem dX4_readLine_5 : decode cX4_readLine 5 = .ok (.iconst 0, 1) := by decide +kernel
theorem dX4_readLine_6 : decode cX4_readLine 6 = .ok (.istore_n 3, 1) := by decide +kernel
theorem dX4_readLine_7 : decode cX4_readLine 7 = .ok (.aload_n 0, 1) := by decide +kernel
theorem dX4_readLine_8 : decode cX4_readLine 8 = .ok (.getstatic 29, 3) := by decide +kernel
theorem dX4_readLine_11 : decode cX4_readLine 11 = .ok (.invokevirtual 35, 3) := by decide +kernel
theorem dX4_readLine_14 : decode cX4_readLine 14 = .ok (.ifCond .ne 13, 3) := by decide +kernel
theorem dX4_readLine_17 : decode cX4_readLine 17 = .ok (.aload_n 0, 1) := by decide +kernel
theorem dX4_readLine_18 : decode cX4_readLine 18 = .ok (.getstatic 39, 3) := by decide +kernel
theorem dX4_readLine_21 : decode cX4_readLine 21 = .ok (.invokevirtual 35, 3) := by decide +kernel
theorem dX4_readLine_24 : decode cX4_readLine 24 = .ok (.ifCond .eq 13, 3) := by decide +kernel
theorem dX4_readLine_27 : decode cX4_readLine 27 = .ok (.aload_n 0, 1) := by decide +kernel
theorem dX4_readLine_28 : decode cX4_readLine 28 = .ok (.bipush 20, 2) := by decide +kernel
theorem dX4_readLine_30 : decode cX4_readLine 30 = .ok (.invokevirtual 42, 3) := by decide +kernel
theorem dX4_readLine_33 : decode cX4_readLine 33 = .ok (.istore_n 3, 1) := by decide +kernel
theorem dX4_readLine_34 : decode cX4_readLine 34 = .ok (.goto 15, 3) := by decide +kernel
theorem dX4_readLine_37 : decode cX4_readLine 37 = .ok (.aload_n 0, 1) := by decide +kernel
theorem dX4_readLine_38 : decode cX4_readLine 38 = .ok (.getstatic 46, 3) := by decide +kernel
theorem dX4_readLine_41 : decode cX4_readLine 41 = .ok (.invokevirtual 49, 3) := by decide +kernel
theorem dX4_readLine_44 : decode cX4_readLine 44 = .ok (.ifCond .ne 5, 3) := by decide +kernel
theorem dX4_readLine_47 : decode cX4_readLine 47 = .ok (.iconst (-1), 1) := by decide +kernel
theorem dX4_readLine_48 : decode cX4_readLine 48 = .ok (.istore_n 3, 1) := by decide +kernel
theorem dX4_readLine_49 : decode cX4_readLine 49 = .ok (.iload_n 3, 1) := by decide +kernel
theorem dX4_readLine_50 : decode cX4_readLine 50 = .ok (.ifCond .ge 5, 3) := by decide +kernel
theorem dX4_readLine_53 : decode cX4_readLine 53 = .ok (.iconst 0, 1) := by decide +kernel
theorem dX4_readLine_54 : decode cX4_readLine 54 = .ok (.ireturn, 1) := by decide +kernel
theorem dX4_readLine_55 : decode cX4_readLine 55 = .ok (.aload_n 1, 1) := by decide +kernel
theorem dX4_readLine_56 : decode cX4_readLine 56 = .ok (.aload_n 2, 1) := by decide +kernel
theorem dX4_readLine_57 : decode cX4_readLine 57 = .ok (.getstatic 29, 3) := by decide +kernel
theorem dX4_readLine_60 : decode cX4_readLine 60 = .ok (.if_acmp .ne 7, 3) := by decide +kernel
theorem dX4_readLine_63 : decode cX4_readLine 63 = .ok (.iload_n 3, 1) := by decide +kernel
theorem dX4_readLine_64 : decode cX4_readLine 64 = .ok (.goto 5, 3) := by decide +kernel
theorem dX4_readLine_67 : decode cX4_readLine 67 = .ok (.iload_n 3, 1) := by decide +kernel
theorem dX4_readLine_68 : decode cX4_readLine 68 = .ok (.ineg, 1) := by decide +kernel
theorem dX4_readLine_69 : decode cX4_readLine 69 = .ok (.aload_n 2, 1) := by decide +kernel
theorem dX4_readLine_70 : decode cX4_readLine 70 = .ok (.getstatic 46, 3) := by decide +kernel
theorem dX4_readLine_73 : decode cX4_readLine 73 = .ok (.if_acmp .ne 7, 3) := by decide +kernel
theorem dX4_readLine_76 : decode cX4_readLine 76 = .ok (.iconst 1, 1) := by decide +kernel
theorem dX4_readLine_77 : decode cX4_readLine 77 = .ok (.goto 4, 3) := by decide +kernel
theorem dX4_readLine_80 : decode cX4_readLine 80 = .ok (.iconst 0, 1) := by decide +kernel
theorem dX4_readLine_81 : decode cX4_readLine 81 = .ok (.invokevirtual 52, 3) := by decide +kernel
theorem dX4_readLine_84 : decode cX4_readLine 84 = .ok (.aload_n 0, 1) := by decide +kernel
theorem dX4_readLine_85 : decode cX4_readLine 85 = .ok (.getstatic 58, 3) := by decide +kernel
theorem dX4_readLine_88 : decode cX4_readLine 88 = .ok (.invokevirtual 35, 3) := by decide +kernel
theorem dX4_readLine_91 : decode cX4_readLine 91 = .ok (.ifCond .eq 14, 3) := by decide +kernel
theorem dX4_readLine_94 : decode cX4_readLine 94 = .ok (.aload_n 0, 1) := by decide +kernel
theorem dX4_readLine_95 : decode cX4_readLine 95 = .ok (.aload_n 1, 1) := by decide +kernel
theorem dX4_readLine_96 : decode cX4_readLine 96 = .ok (.iconst 0, 1) := by decide +kernel
theorem dX4_readLine_97 : decode cX4_readLine 97 = .ok (.invokestatic 61, 3) := by decide +kernel
theorem dX4_readLine_100 : decode cX4_readLine 100 = .ok (.ifCond .ne 5, 3) := by decide +kernel
theorem dX4_readLine_103 : decode cX4_readLine 103 = .ok (.iconst 0, 1) := by decide +kernel
theorem dX4_readLine_104 : decode cX4_readLine 104 = .ok (.ireturn, 1) := by decide +kernel
theorem dX4_readLine_105 : decode cX4_readLine 105 = .ok (.aload_n 1, 1) := by decide +kernel
theorem dX4_readLine_106 : decode cX4_readLine 106 = .ok (.invokevirtual 65, 3) := by decide +kernel
theorem dX4_readLine_109 : decode cX4_readLine 109 = .ok (.iconst 1, 1) := by decide +kernel
theorem dX4_readLine_110 : decode cX4_readLine 110 = .ok (.ireturn, 1) := by decide +kernel
theorem dX4_readCondition_0 : decode cX4_readCondition 0 = .ok (.iconst 0, 1) := by decide +kernel
theorem dX4_readCondition_1 : decode cX4_readCondition 1 = .ok (.istore_n 3, 1) := by decide +kernel
theorem dX4_readCondition_2 : decode cX4_readCondition 2 = .ok (.iload_n 3, 1) := by decide +kernel
theorem dX4_readCondition_3 : decode cX4_readCondition 3 = .ok (.sipush 400, 3) := by decide +kernel
theorem dX4_readCondition_6 : decode cX4_readCondition 6 = .ok (.if_icmp .ge 84, 3) := by decide +kernel
theorem dX4_readCondition_9 : decode cX4_readCondition 9 = .ok (.iconst 0, 1) := by decide +kernel
theorem dX4_readCondition_10 : decode cX4_readCondition 10 = .ok (.istore 4, 2) := by decide +kernel
theorem dX4_readCondition_12 : decode cX4_readCondition 12 = .ok (.iload 4, 2) := by decide +kernel
theorem dX4_readCondition_14 : decode cX4_readCondition 14 = .ok (.sipush 400, 3) := by decide +kernel
theorem dX4_readCondition_17 : decode cX4_readCondition 17 = .ok (.if_icmp .ge 44, 3) := by decide +kernel
theorem dX4_readCondition_20 : decode cX4_readCondition 20 = .ok (.aload_n 0, 1) := by decide +kernel
theorem dX4_readCondition_21 : decode cX4_readCondition 21 = .ok (.aload_n 1, 1) := by decide +kernel
theorem dX4_readCondition_22 : decode cX4_readCondition 22 = .ok (.iload_n 2, 1) := by decide +kernel
theorem dX4_readCondition_23 : decode cX4_readCondition 23 = .ok (.invokestatic 68, 3) := by decide +kernel
theorem dX4_readCondition_26 : decode cX4_readCondition 26 = .ok (.ifCond .ne 5, 3) := by decide +kernel
theorem dX4_readCondition_29 : decode cX4_readCondition 29 = .ok (.iconst 0, 1) := by decide +kernel
theorem dX4_readCondition_30 : decode cX4_readCondition 30 = .ok (.ireturn, 1) := by decide +kernel
theorem dX4_readCondition_31 : decode cX4_readCondition 31 = .ok (.iload 4, 2) := by decide +kernel
theorem dX4_readCondition_33 : decode cX4_readCondition 33 = .ok (.ifCond .le 9, 3) := by decide +kernel
theorem dX4_readCondition_36 : decode cX4_readCondition 36 = .ok (.aload_n 1, 1) := by decide +kernel
theorem dX4_readCondition_37 : decode cX4_readCondition 37 = .ok (.bipush (-5), 2) := by decide +kernel
theorem dX4_readCondition_39 : decode cX4_readCondition 39 = .ok (.invokevirtual 71, 3) := by decide +kernel
theorem dX4_readCondition_42 : decode cX4_readCondition 42 = .ok (.aload_n 0, 1) := by decide +kernel
theorem dX4_readCondition_43 : decode cX4_readCondition 43 = .ok (.getstatic 75, 3) := by decide +kernel
theorem dX4_readCondition_46 : decode cX4_readCondition 46 = .ok (.invokevirtual 35, 3) := by decide +kernel
theorem dX4_readCondition_49 : decode cX4_readCondition 49 = .ok (.ifCond .ne 6, 3) := by decide +kernel
theorem dX4_readCondition_52 : decode cX4_readCondition 52 = .ok (.goto 9, 3) := by decide +kernel
theorem dX4_readCondition_55 : decode cX4_readCondition 55 = .ok (.iinc 4 1, 3) := by decide +kernel
theorem dX4_readCondition_58 : decode cX4_readCondition 58 = .ok (.goto (-46), 3) := by decide +kernel
theorem dX4_readCondition_61 : decode cX4_readCondition 61 = .ok (.iload_n 3, 1) := by decide +kernel
theorem dX4_readCondition_62 : decode cX4_readCondition 62 = .ok (.ifCond .le 9, 3) := by decide +kernel
theorem dX4_readCondition_65 : decode cX4_readCondition 65 = .ok (.aload_n 1, 1) := by decide +kernel
theorem dX4_readCondition_66 : decode cX4_readCondition 66 = .ok (.bipush (-6), 2) := by decide +kernel
theorem dX4_readCondition_68 : decode cX4_readCondition 68 = .ok (.invokevirtual 71, 3) := by decide +kernel
theorem dX4_readCondition_71 : decode cX4_readCondition 71 = .ok (.aload_n 0, 1) := by decide +kernel
theorem dX4_readCondition_72 : decode cX4_readCondition 72 = .ok (.getstatic 78, 3) := by decide +kernel
theorem dX4_readCondition_75 : decode cX4_readCondition 75 = .ok (.invokevirtual 35, 3) := by decide +kernel
theorem dX4_readCondition_78 : decode cX4_readCondition 78 = .ok (.ifCond .ne 6, 3) := by decide +kernel
theorem dX4_readCondition_81 : decode cX4_readCondition 81 = .ok (.goto 9, 3) := by decide +kernel
theorem dX4_readCondition_84 : decode cX4_readCondition 84 = .ok (.iinc 3 1, 3) := by decide +kernel
theorem dX4_readCondition_87 : decode cX4_readCondition 87 = .ok (.goto (-85), 3) := by decide +kernel
theorem dX4_readCondition_90 : decode cX4_readCondition 90 = .ok (.iconst 1, 1) := by decide +kernel
theorem dX4_readCondition_91 : decode cX4_readCondition 91 = .ok (.ireturn, 1) := by decide +kernel
theorem dX4_readAtom_0 : decode cX4_readAtom 0 = .ok (.aload_n 0, 1) := by decide +kernel
theorem dX4_readAtom_1 : decode cX4_readAtom 1 = .ok (.getstatic 81, 3) := by decide +kernel
theorem dX4_readAtom_4 : decode cX4_readAtom 4 = .ok (.invokevirtual 84, 3) := by decide +kernel
theorem dX4_readAtom_7 : decode cX4_readAtom 7 = .ok (.ifCond .ne 13, 3) := by decide +kernel
theorem dX4_readAtom_10 : decode cX4_readAtom 10 = .ok (.aload_n 0, 1) := by decide +kernel
theorem dX4_readAtom_11 : decode cX4_readAtom 11 = .ok (.getstatic 87, 3) := by decide +kernel
theorem dX4_readAtom_14 : decode cX4_readAtom 14 = .ok (.invokevirtual 84, 3) := by decide +kernel
theorem dX4_readAtom_17 : decode cX4_readAtom 17 = .ok (.ifCond .eq 7, 3) := by decide +kernel
theorem dX4_readAtom_20 : decode cX4_readAtom 20 = .ok (.iconst 1, 1) := by decide +kernel
theorem dX4_readAtom_21 : decode cX4_readAtom 21 = .ok (.goto 4, 3) := by decide +kernel
theorem dX4_readAtom_24 : decode cX4_readAtom 24 = .ok (.iconst 0, 1) := by decide +kernel
theorem dX4_readAtom_25 : decode cX4_readAtom 25 = .ok (.istore_n 3, 1) := by decide +kernel
theorem dX4_readAtom_26 : decode cX4_readAtom 26 = .ok (.iload_n 3, 1) := by decide +kernel
theorem dX4_readAtom_27 : decode cX4_readAtom 27 = .ok (.ifCond .eq 14, 3) := by decide +kernel
theorem dX4_readAtom_30 : decode cX4_readAtom 30 = .ok (.iload_n 2, 1) := by decide +kernel
theorem dX4_readAtom_31 : decode cX4_readAtom 31 = .ok (.bipush 6, 2) := by decide +kernel
theorem dX4_readAtom_33 : decode cX4_readAtom 33 = .ok (.if_icmp .lt 8, 3) := by decide +kernel
theorem dX4_readAtom_36 : decode cX4_readAtom 36 = .ok (.aload_n 0, 1) := by decide +kernel
theorem dX4_readAtom_37 : decode cX4_readAtom 37 = .ok (.invokevirtual 90, 3) := by decide +kernel
theorem dX4_readAtom_40 : decode cX4_readAtom 40 = .ok (.ireturn, 1) := by decide +kernel
theorem dX4_readAtom_41 : decode cX4_readAtom 41 = .ok (.aload_n 0, 1) := by decide +kernel
theorem dX4_readAtom_42 : decode cX4_readAtom 42 = .ok (.getstatic 87, 3) := by decide +kernel
theorem dX4_readAtom_45 : decode cX4_readAtom 45 = .ok (.invokevirtual 35, 3) := by decide +kernel
theorem dX4_readAtom_48 : decode cX4_readAtom 48 = .ok (.ifCond .eq 30, 3) := by decide +kernel
theorem dX4_readAtom_51 : decode cX4_readAtom 51 = .ok (.aload_n 0, 1) := by decide +kernel
theorem dX4_readAtom_52 : decode cX4_readAtom 52 = .ok (.aload_n 1, 1) := by decide +kernel
theorem dX4_readAtom_53 : decode cX4_readAtom 53 = .ok (.iload_n 2, 1) := by decide +kernel
theorem dX4_readAtom_54 : decode cX4_readAtom 54 = .ok (.iconst 1, 1) := by decide +kernel
theorem dX4_readAtom_55 : decode cX4_readAtom 55 = .ok (.iadd, 1) := by decide +kernel
theorem dX4_readAtom_56 : decode cX4_readAtom 56 = .ok (.invokestatic 61, 3) := by decide +kernel
theorem dX4_readAtom_59 : decode cX4_readAtom 59 = .ok (.ifCond .eq 17, 3) := by decide +kernel
theorem dX4_readAtom_62 : decode cX4_readAtom 62 = .ok (.aload_n 0, 1) := by decide +kernel
theorem dX4_readAtom_63 : decode cX4_readAtom 63 = .ok (.getstatic 94, 3) := by decide +kernel
theorem dX4_readAtom_66 : decode cX4_readAtom 66 = .ok (.invokevirtual 49, 3) := by decide +kernel
theorem dX4_readAtom_69 : decode cX4_readAtom 69 = .ok (.ifCond .eq 7, 3) := by decide +kernel
theorem dX4_readAtom_72 : decode cX4_readAtom 72 = .ok (.iconst 1, 1) := by decide +kernel
theorem dX4_readAtom_73 : decode cX4_readAtom 73 = .ok (.goto 4, 3) := by decide +kernel
theorem dX4_readAtom_76 : decode cX4_readAtom 76 = .ok (.iconst 0, 1) := by decide +kernel
theorem dX4_readAtom_77 : decode cX4_readAtom 77 = .ok (.ireturn, 1) := by decide +kernel
theorem dX4_readAtom_78 : decode cX4_readAtom 78 = .ok (.aload_n 0, 1) := by decide +kernel
theorem dX4_readAtom_79 : decode cX4_readAtom 79 = .ok (.getstatic 81, 3) := by decide +kernel
theorem dX4_readAtom_82 : decode cX4_readAtom 82 = .ok (.invokevirtual 35, 3) := by decide +kernel
theorem dX4_readAtom_85 : decode cX4_readAtom 85 = .ok (.ifCond .eq 22, 3) := by decide +kernel
theorem dX4_readAtom_88 : decode cX4_readAtom 88 = .ok (.aload_n 0, 1) := by decide +kernel
theorem dX4_readAtom_89 : decode cX4_readAtom 89 = .ok (.aload_n 1, 1) := by decide +kernel
theorem dX4_readAtom_90 : decode cX4_readAtom 90 = .ok (.iload_n 2, 1) := by decide +kernel
theorem dX4_readAtom_91 : decode cX4_readAtom 91 = .ok (.iconst 1, 1) := by decide +kernel
theorem dX4_readAtom_92 : decode cX4_readAtom 92 = .ok (.iadd, 1) := by decide +kernel
theorem dX4_readAtom_93 : decode cX4_readAtom 93 = .ok (.invokestatic 68, 3) := by decide +kernel
theorem dX4_readAtom_96 : decode cX4_readAtom 96 = .ok (.istore 4, 2) := by decide +kernel
theorem dX4_readAtom_98 : decode cX4_readAtom 98 = .ok (.aload_n 1, 1) := by decide +kernel
theorem dX4_readAtom_99 : decode cX4_readAtom 99 = .ok (.bipush (-4), 2) := by decide +kernel
theorem dX4_readAtom_101 : decode cX4_readAtom 101 = .ok (.invokevirtual 71, 3) := by decide +kernel
theorem dX4_readAtom_104 : decode cX4_readAtom 104 = .ok (.iload 4, 2) := by decide +kernel
theorem dX4_readAtom_106 : decode cX4_readAtom 106 = .ok (.ireturn, 1) := by decide +kernel
theorem dX4_readAtom_107 : decode cX4_readAtom 107 = .ok (.aload_n 0, 1) := by decide +kernel
theorem dX4_readAtom_108 : decode cX4_readAtom 108 = .ok (.invokevirtual 25, 3) := by decide +kernel
theorem dX4_readAtom_111 : decode cX4_readAtom 111 = .ok (.invokevirtual 97, 3) := by decide +kernel
theorem dX4_readAtom_114 : decode cX4_readAtom 114 = .ok (.ifCond .eq 24, 3) := by decide +kernel
theorem dX4_readAtom_117 : decode cX4_readAtom 117 = .ok (.aload_n 1, 1) := by decide +kernel
theorem dX4_readAtom_118 : decode cX4_readAtom 118 = .ok (.sipush 1000, 3) := by decide +kernel
theorem dX4_readAtom_121 : decode cX4_readAtom 121 = .ok (.aload_n 0, 1) := by decide +kernel
theorem dX4_readAtom_122 : decode cX4_readAtom 122 = .ok (.invokevirtual 25, 3) := by decide +kernel
theorem dX4_readAtom_125 : decode cX4_readAtom 125 = .ok (.getfield 100, 3) := by decide +kernel
theorem dX4_readAtom_128 : decode cX4_readAtom 128 = .ok (.iadd, 1) := by decide +kernel
theorem dX4_readAtom_129 : decode cX4_readAtom 129 = .ok (.invokevirtual 71, 3) := by decide +kernel
theorem dX4_readAtom_132 : decode cX4_readAtom 132 = .ok (.aload_n 0, 1) := by decide +kernel
theorem dX4_readAtom_133 : decode cX4_readAtom 133 = .ok (.invokevirtual 103, 3) := by decide +kernel
theorem dX4_readAtom_136 : decode cX4_readAtom 136 = .ok (.iconst 1, 1) := by decide +kernel
theorem dX4_readAtom_137 : decode cX4_readAtom 137 = .ok (.ireturn, 1) := by decide +kernel
theorem dX4_readAtom_138 : decode cX4_readAtom 138 = .ok (.aload_n 0, 1) := by decide +kernel
theorem dX4_readAtom_139 : decode cX4_readAtom 139 = .ok (.aload_n 1, 1) := by decide +kernel
theorem dX4_readAtom_140 : decode cX4_readAtom 140 = .ok (.invokestatic 106, 3) := by decide +kernel
theorem dX4_readAtom_143 : decode cX4_readAtom 143 = .ok (.ifCond .ne 5, 3) := by decide +kernel
theorem dX4_readAtom_146 : decode cX4_readAtom 146 = .ok (.iconst 0, 1) := by decide +kernel
theorem dX4_readAtom_147 : decode cX4_readAtom 147 = .ok (.ireturn, 1) := by decide +kernel
theorem dX4_readAtom_148 : decode cX4_readAtom 148 = .ok (.aload_n 0, 1) := by decide +kernel
theorem dX4_readAtom_149 : decode cX4_readAtom 149 = .ok (.getstatic 109, 3) := by decide +kernel
theorem dX4_readAtom_152 : decode cX4_readAtom 152 = .ok (.invokevirtual 35, 3) := by decide +kernel
theorem dX4_readAtom_155 : decode cX4_readAtom 155 = .ok (.istore 4, 2) := by decide +kernel
theorem dX4_readAtom_157 : decode cX4_readAtom 157 = .ok (.iload 4, 2) := by decide +kernel
theorem dX4_readAtom_159 : decode cX4_readAtom 159 = .ok (.ifCond .ne 13, 3) := by decide +kernel
theorem dX4_readAtom_162 : decode cX4_readAtom 162 = .ok (.aload_n 0, 1) := by decide +kernel
theorem dX4_readAtom_163 : decode cX4_readAtom 163 = .ok (.getstatic 112, 3) := by decide +kernel
theorem dX4_readAtom_166 : decode cX4_readAtom 166 = .ok (.invokevirtual 49, 3) := by decide +kernel
theorem dX4_readAtom_169 : decode cX4_readAtom 169 = .ok (.ifCond .eq 11, 3) := by decide +kernel
theorem dX4_readAtom_172 : decode cX4_readAtom 172 = .ok (.aload_n 0, 1) := by decide +kernel
theorem dX4_readAtom_173 : decode cX4_readAtom 173 = .ok (.aload_n 1, 1) := by decide +kernel
theorem dX4_readAtom_174 : decode cX4_readAtom 174 = .ok (.invokestatic 106, 3) := by decide +kernel
theorem dX4_readAtom_177 : decode cX4_readAtom 177 = .ok (.ifCond .ne 5, 3) := by decide +kernel
theorem dX4_readAtom_180 : decode cX4_readAtom 180 = .ok (.iconst 0, 1) := by decide +kernel
theorem dX4_readAtom_181 : decode cX4_readAtom 181 = .ok (.ireturn, 1) := by decide +kernel
theorem dX4_readAtom_182 : decode cX4_readAtom 182 = .ok (.aload_n 1, 1) := by decide +kernel
theorem dX4_readAtom_183 : decode cX4_readAtom 183 = .ok (.iload 4, 2) := by decide +kernel
theorem dX4_readAtom_185 : decode cX4_readAtom 185 = .ok (.ifCond .eq 8, 3) := by decide +kernel
theorem dX4_readAtom_188 : decode cX4_readAtom 188 = .ok (.bipush (-2), 2) := by decide +kernel
theorem dX4_readAtom_190 : decode cX4_readAtom 190 = .ok (.goto 5, 3) := by decide +kernel
theorem dX4_readAtom_193 : decode cX4_readAtom 193 = .ok (.bipush (-3), 2) := by decide +kernel
theorem dX4_readAtom_195 : decode cX4_readAtom 195 = .ok (.invokevirtual 71, 3) := by decide +kernel
theorem dX4_readAtom_198 : decode cX4_readAtom 198 = .ok (.iconst 1, 1) := by decide +kernel
theorem dX4_readAtom_199 : decode cX4_readAtom 199 = .ok (.ireturn, 1) := by decide +kernel
theorem dX4_readSum_0 : decode cX4_readSum 0 = .ok (.iconst 0, 1) := by decide +kernel
theorem dX4_readSum_1 : decode cX4_readSum 1 = .ok (.istore_n 2, 1) := by decide +kernel
theorem dX4_readSum_2 : decode cX4_readSum 2 = .ok (.iload_n 2, 1) := by decide +kernel
theorem dX4_readSum_3 : decode cX4_readSum 3 = .ok (.sipush 400, 3) := by decide +kernel
theorem dX4_readSum_6 : decode cX4_readSum 6 = .ok (.if_icmp .ge 81, 3) := by decide +kernel
theorem dX4_readSum_9 : decode cX4_readSum 9 = .ok (.aload_n 0, 1) := by decide +kernel
theorem dX4_readSum_10 : decode cX4_readSum 10 = .ok (.invokevirtual 25, 3) := by decide +kernel
theorem dX4_readSum_13 : decode cX4_readSum 13 = .ok (.invokevirtual 115, 3) := by decide +kernel
theorem dX4_readSum_16 : decode cX4_readSum 16 = .ok (.ifCond .eq 25, 3) := by decide +kernel
theorem dX4_readSum_19 : decode cX4_readSum 19 = .ok (.aload_n 1, 1) := by decide +kernel
theorem dX4_readSum_20 : decode cX4_readSum 20 = .ok (.sipush 1000, 3) := by decide +kernel
theorem dX4_readSum_23 : decode cX4_readSum 23 = .ok (.aload_n 0, 1) := by decide +kernel
theorem dX4_readSum_24 : decode cX4_readSum 24 = .ok (.invokevirtual 25, 3) := by decide +kernel
theorem dX4_readSum_27 : decode cX4_readSum 27 = .ok (.getfield 100, 3) := by decide +kernel
theorem dX4_readSum_30 : decode cX4_readSum 30 = .ok (.iadd, 1) := by decide +kernel
theorem dX4_readSum_31 : decode cX4_readSum 31 = .ok (.invokevirtual 71, 3) := by decide +kernel
theorem dX4_readSum_34 : decode cX4_readSum 34 = .ok (.aload_n 0, 1) := by decide +kernel
theorem dX4_readSum_35 : decode cX4_readSum 35 = .ok (.invokevirtual 103, 3) := by decide +kernel
theorem dX4_readSum_38 : decode cX4_readSum 38 = .ok (.goto 22, 3) := by decide +kernel
theorem dX4_readSum_41 : decode cX4_readSum 41 = .ok (.aload_n 0, 1) := by decide +kernel
theorem dX4_readSum_42 : decode cX4_readSum 42 = .ok (.sipush 999, 3) := by decide +kernel
theorem dX4_readSum_45 : decode cX4_readSum 45 = .ok (.invokevirtual 42, 3) := by decide +kernel
theorem dX4_readSum_48 : decode cX4_readSum 48 = .ok (.istore_n 3, 1) := by decide +kernel
theorem dX4_readSum_49 : decode cX4_readSum 49 = .ok (.iload_n 3, 1) := by decide +kernel
theorem dX4_readSum_50 : decode cX4_readSum 50 = .ok (.ifCond .ge 5, 3) := by decide +kernel
theorem dX4_readSum_53 : decode cX4_readSum 53 = .ok (.iconst 0, 1) := by decide +kernel
theorem dX4_readSum_54 : decode cX4_readSum 54 = .ok (.ireturn, 1) := by decide +kernel
theorem dX4_readSum_55 : decode cX4_readSum 55 = .ok (.aload_n 1, 1) := by decide +kernel
theorem dX4_readSum_56 : decode cX4_readSum 56 = .ok (.iload_n 3, 1) := by decide +kernel
theorem dX4_readSum_57 : decode cX4_readSum 57 = .ok (.invokevirtual 71, 3) := by decide +kernel
theorem dX4_readSum_60 : decode cX4_readSum 60 = .ok (.iload_n 2, 1) := by decide +kernel
theorem dX4_readSum_61 : decode cX4_readSum 61 = .ok (.ifCond .le 8, 3) := by decide +kernel
theorem dX4_readSum_64 : decode cX4_readSum 64 = .ok (.aload_n 1, 1) := by decide +kernel
theorem dX4_readSum_65 : decode cX4_readSum 65 = .ok (.iconst (-1), 1) := by decide +kernel
theorem dX4_readSum_66 : decode cX4_readSum 66 = .ok (.invokevirtual 71, 3) := by decide +kernel
theorem dX4_readSum_69 : decode cX4_readSum 69 = .ok (.aload_n 0, 1) := by decide +kernel
theorem dX4_readSum_70 : decode cX4_readSum 70 = .ok (.getstatic 118, 3) := by decide +kernel
theorem dX4_readSum_73 : decode cX4_readSum 73 = .ok (.invokevirtual 35, 3) := by decide +kernel
theorem dX4_readSum_76 : decode cX4_readSum 76 = .ok (.ifCond .ne 5, 3) := by decide +kernel
theorem dX4_readSum_79 : decode cX4_readSum 79 = .ok (.iconst 1, 1) := by decide +kernel
theorem dX4_readSum_80 : decode cX4_readSum 80 = .ok (.ireturn, 1) := by decide +kernel
theorem dX4_readSum_81 : decode cX4_readSum 81 = .ok (.iinc 2 1, 3) := by decide +kernel
theorem dX4_readSum_84 : decode cX4_readSum 84 = .ok (.goto (-82), 3) := by decide +kernel
theorem dX4_readSum_87 : decode cX4_readSum 87 = .ok (.aload_n 0, 1) := by decide +kernel
theorem dX4_readSum_88 : decode cX4_readSum 88 = .ok (.invokevirtual 90, 3) := by decide +kernel
theorem dX4_readSum_91 : decode cX4_readSum 91 = .ok (.ireturn, 1) := by decide +kernel
theorem dX5_init_0 : decode cX5_init 0 = .ok (.aload_n 0, 1) := by decide +kernel
theorem dX5_init_1 : decode cX5_init 1 = .ok (.invokespecial 3, 3) := by decide +kernel
theorem dX5_init_4 : decode cX5_init 4 = .ok (.aload_n 0, 1) := by decide +kernel
theorem dX5_init_5 : decode cX5_init 5 = .ok (.new 9, 3) := by decide +kernel
theorem dX5_init_8 : decode cX5_init 8 = .ok (.dup, 1) := by decide +kernel
theorem dX5_init_9 : decode cX5_init 9 = .ok (.bipush 81, 2) := by decide +kernel
theorem dX5_init_11 : decode cX5_init 11 = .ok (.invokespecial 11, 3) := by decide +kernel
theorem dX5_init_14 : decode cX5_init 14 = .ok (.putfield 14, 3) := by decide +kernel
theorem dX5_init_17 : decode cX5_init 17 = .ok (.aload_n 0, 1) := by decide +kernel
theorem dX5_init_18 : decode cX5_init 18 = .ok (.new 9, 3) := by decide +kernel
theorem dX5_init_21 : decode cX5_init 21 = .ok (.dup, 1) := by decide +kernel
theorem dX5_init_22 : decode cX5_init 22 = .ok (.sipush 4608, 3) := by decide +kernel
theorem dX5_init_25 : decode cX5_init 25 = .ok (.invokespecial 11, 3) := by decide +kernel
theorem dX5_init_28 : decode cX5_init 28 = .ok (.putfield 20, 3) := by decide +kernel
theorem dX5_init_31 : decode cX5_init 31 = .ok (.aload_n 0, 1) := by decide +kernel
theorem dX5_init_32 : decode cX5_init 32 = .ok (.new 9, 3) := by decide +kernel
theorem dX5_init_35 : decode cX5_init 35 = .ok (.dup, 1) := by decide +kernel
theorem dX5_init_36 : decode cX5_init 36 = .ok (.bipush 21, 2) := by decide +kernel
theorem dX5_init_38 : decode cX5_init 38 = .ok (.invokespecial 11, 3) := by decide +kernel
theorem dX5_init_41 : decode cX5_init 41 = .ok (.putfield 23, 3) := by decide +kernel
theorem dX5_init_44 : decode cX5_init 44 = .ok (.aload_n 0, 1) := by decide +kernel
theorem dX5_init_45 : decode cX5_init 45 = .ok (.new 9, 3) := by decide +kernel
theorem dX5_init_48 : decode cX5_init 48 = .ok (.dup, 1) := by decide +kernel
theorem dX5_init_49 : decode cX5_init 49 = .ok (.bipush 10, 2) := by decide +kernel
theorem dX5_init_51 : decode cX5_init 51 = .ok (.invokespecial 11, 3) := by decide +kernel
theorem dX5_init_54 : decode cX5_init 54 = .ok (.putfield 26, 3) := by decide +kernel
theorem dX5_init_57 : decode cX5_init 57 = .ok (.return_, 1) := by decide +kernel
theorem dX5_toldPanes_0 : decode cX5_toldPanes 0 = .ok (.iload_n 3, 1) := by decide +kernel
theorem dX5_toldPanes_1 : decode cX5_toldPanes 1 = .ok (.bipush 8, 2) := by decide +kernel
theorem dX5_toldPanes_3 : decode cX5_toldPanes 3 = .ok (.if_icmp .le 5, 3) := by decide +kernel
theorem dX5_toldPanes_6 : decode cX5_toldPanes 6 = .ok (.iconst (-1), 1) := by decide +kernel
theorem dX5_toldPanes_7 : decode cX5_toldPanes 7 = .ok (.ireturn, 1) := by decide +kernel
theorem dX5_toldPanes_8 : decode cX5_toldPanes 8 = .ok (.iconst 0, 1) := by decide +kernel
theorem dX5_toldPanes_9 : decode cX5_toldPanes 9 = .ok (.istore 4, 2) := by decide +kernel
theorem dX5_toldPanes_11 : decode cX5_toldPanes 11 = .ok (.iconst 0, 1) := by decide +kernel
theorem dX5_toldPanes_12 : decode cX5_toldPanes 12 = .ok (.istore 5, 2) := by decide +kernel
theorem dX5_toldPanes_14 : decode cX5_toldPanes 14 = .ok (.iload 5, 2) := by decide +kernel
theorem dX5_toldPanes_16 : decode cX5_toldPanes 16 = .ok (.iload_n 3, 1) := by decide +kernel
theorem dX5_toldPanes_17 : decode cX5_toldPanes 17 = .ok (.if_icmp .ge 48, 3) := by decide +kernel
theorem dX5_toldPanes_20 : decode cX5_toldPanes 20 = .ok (.aload_n 2, 1) := by decide +kernel
theorem dX5_toldPanes_21 : decode cX5_toldPanes 21 = .ok (.iload 5, 2) := by decide +kernel
theorem dX5_toldPanes_23 : decode cX5_toldPanes 23 = .ok (.invokevirtual 29, 3) := by decide +kernel
theorem dX5_toldPanes_26 : decode cX5_toldPanes 26 = .ok (.istore 6, 2) := by decide +kernel
theorem dX5_toldPanes_28 : decode cX5_toldPanes 28 = .ok (.iload 6, 2) := by decide +kernel
theorem dX5_toldPanes_30 : decode cX5_toldPanes 30 = .ok (.aload_n 1, 1) := by decide +kernel
theorem dX5_toldPanes_31 : decode cX5_toldPanes 31 = .ok (.getfield 35, 3) := by decide +kernel
theorem dX5_toldPanes_34 : decode cX5_toldPanes 34 = .ok (.if_icmp .ge 13, 3) := by decide +kernel
theorem dX5_toldPanes_37 : decode cX5_toldPanes 37 = .ok (.iload 4, 2) := by decide +kernel
theorem dX5_toldPanes_39 : decode cX5_toldPanes 39 = .ok (.iload 6, 2) := by decide +kernel
theorem dX5_toldPanes_41 : decode cX5_toldPanes 41 = .ok (.invokestatic 41, 3) := by decide +kernel
theorem dX5_toldPanes_44 : decode cX5_toldPanes 44 = .ok (.ifCond .eq 5, 3) := by decide +kernel
theorem dX5_toldPanes_47 : decode cX5_toldPanes 47 = .ok (.iconst (-1), 1) := by decide +kernel
theorem dX5_toldPanes_48 : decode cX5_toldPanes 48 = .ok (.ireturn, 1) := by decide +kernel
theorem dX5_toldPanes_49 : decode cX5_toldPanes 49 = .ok (.iload 4, 2) := by decide +kernel
theorem dX5_toldPanes_51 : decode cX5_toldPanes 51 = .ok (.iload 6, 2) := by decide +kernel
theorem dX5_toldPanes_53 : decode cX5_toldPanes 53 = .ok (.invokestatic 45, 3) := by decide +kernel
theorem dX5_toldPanes_56 : decode cX5_toldPanes 56 = .ok (.ior, 1) := by decide +kernel
theorem dX5_toldPanes_57 : decode cX5_toldPanes 57 = .ok (.istore 4, 2) := by decide +kernel
theorem dX5_toldPanes_59 : decode cX5_toldPanes 59 = .ok (.iinc 5 1, 3) := by decide +kernel
theorem dX5_toldPanes_62 : decode cX5_toldPanes 62 = .ok (.goto (-48), 3) := by decide +kernel
theorem dX5_toldPanes_65 : decode cX5_toldPanes 65 = .ok (.iload 4, 2) := by decide +kernel
theorem dX5_toldPanes_67 : decode cX5_toldPanes 67 = .ok (.ireturn, 1) := by decide +kernel
theorem dX5_roundSteps_0 : decode cX5_roundSteps 0 = .ok (.iload_n 3, 1) := by decide +kernel
theorem dX5_roundSteps_1 : decode cX5_roundSteps 1 = .ok (.aload_n 1, 1) := by decide +kernel
theorem dX5_roundSteps_2 : decode cX5_roundSteps 2 = .ok (.iload_n 2, 1) := by decide +kernel
theorem dX5_roundSteps_3 : decode cX5_roundSteps 3 = .ok (.iconst (-1), 1) := by decide +kernel
theorem dX5_roundSteps_4 : decode cX5_roundSteps 4 = .ok (.invokevirtual 48, 3) := by decide +kernel
theorem dX5_roundSteps_7 : decode cX5_roundSteps 7 = .ok (.iconst (-1), 1) := by decide +kernel
theorem dX5_roundSteps_8 : decode cX5_roundSteps 8 = .ok (.ixor, 1) := by decide +kernel
theorem dX5_roundSteps_9 : decode cX5_roundSteps 9 = .ok (.iand, 1) := by decide +kernel
theorem dX5_roundSteps_10 : decode cX5_roundSteps 10 = .ok (.ifCond .eq 5, 3) := by decide +kernel
theorem dX5_roundSteps_13 : decode cX5_roundSteps 13 = .ok (.iconst (-1), 1) := by decide +kernel
theorem dX5_roundSteps_14 : decode cX5_roundSteps 14 = .ok (.ireturn, 1) := by decide +kernel
theorem dX5_roundSteps_15 : decode cX5_roundSteps 15 = .ok (.aload_n 0, 1) := by decide +kernel
theorem dX5_roundSteps_16 : decode cX5_roundSteps 16 = .ok (.aload_n 1, 1) := by decide +kernel
theorem dX5_roundSteps_17 : decode cX5_roundSteps 17 = .ok (.invokevirtual 52, 3) := by decide +kernel
theorem dX5_roundSteps_20 : decode cX5_roundSteps 20 = .ok (.iconst 1, 1) := by decide +kernel
theorem dX5_roundSteps_21 : decode cX5_roundSteps 21 = .ok (.istore 4, 2) := by decide +kernel
theorem dX5_roundSteps_23 : decode cX5_roundSteps 23 = .ok (.iload 4, 2) := by decide +kernel
theorem dX5_roundSteps_25 : decode cX5_roundSteps 25 = .ok (.iload_n 3, 1) := by decide +kernel
theorem dX5_roundSteps_26 : decode cX5_roundSteps 26 = .ok (.if_icmp .gt 59, 3) := by decide +kernel
theorem dX5_roundSteps_29 : decode cX5_roundSteps 29 = .ok (.iload 4, 2) := by decide +kernel
theorem dX5_roundSteps_31 : decode cX5_roundSteps 31 = .ok (.iload_n 3, 1) := by decide +kernel
theorem dX5_roundSteps_32 : decode cX5_roundSteps 32 = .ok (.iconst (-1), 1) := by decide +kernel
theorem dX5_roundSteps_33 : decode cX5_roundSteps 33 = .ok (.ixor, 1) := by decide +kernel
theorem dX5_roundSteps_34 : decode cX5_roundSteps 34 = .ok (.iand, 1) := by decide +kernel
theorem dX5_roundSteps_35 : decode cX5_roundSteps 35 = .ok (.ifCond .ne 44, 3) := by decide +kernel
theorem dX5_roundSteps_38 : decode cX5_roundSteps 38 = .ok (.iconst 0, 1) := by decide +kernel
theorem dX5_roundSteps_39 : decode cX5_roundSteps 39 = .ok (.istore 5, 2) := by decide +kernel
theorem dX5_roundSteps_41 : decode cX5_roundSteps 41 = .ok (.iload 5, 2) := by decide +kernel
theorem dX5_roundSteps_43 : decode cX5_roundSteps 43 = .ok (.aload_n 1, 1) := by decide +kernel
theorem dX5_roundSteps_44 : decode cX5_roundSteps 44 = .ok (.getfield 35, 3) := by decide +kernel
theorem dX5_roundSteps_47 : decode cX5_roundSteps 47 = .ok (.if_icmp .ge 32, 3) := by decide +kernel
theorem dX5_roundSteps_50 : decode cX5_roundSteps 50 = .ok (.aload_n 0, 1) := by decide +kernel
theorem dX5_roundSteps_51 : decode cX5_roundSteps 51 = .ok (.getfield 20, 3) := by decide +kernel
theorem dX5_roundSteps_54 : decode cX5_roundSteps 54 = .ok (.iload 4, 2) := by decide +kernel
theorem dX5_roundSteps_56 : decode cX5_roundSteps 56 = .ok (.bipush 9, 2) := by decide +kernel
theorem dX5_roundSteps_58 : decode cX5_roundSteps 58 = .ok (.imul, 1) := by decide +kernel
theorem dX5_roundSteps_59 : decode cX5_roundSteps 59 = .ok (.iload 5, 2) := by decide +kernel
theorem dX5_roundSteps_61 : decode cX5_roundSteps 61 = .ok (.iadd, 1) := by decide +kernel
theorem dX5_roundSteps_62 : decode cX5_roundSteps 62 = .ok (.aload_n 0, 1) := by decide +kernel
theorem dX5_roundSteps_63 : decode cX5_roundSteps 63 = .ok (.iload 4, 2) := by decide +kernel
theorem dX5_roundSteps_65 : decode cX5_roundSteps 65 = .ok (.iload 5, 2) := by decide +kernel
theorem dX5_roundSteps_67 : decode cX5_roundSteps 67 = .ok (.invokevirtual 56, 3) := by decide +kernel
theorem dX5_roundSteps_70 : decode cX5_roundSteps 70 = .ok (.invokevirtual 59, 3) := by decide +kernel
theorem dX5_roundSteps_73 : decode cX5_roundSteps 73 = .ok (.iinc 5 1, 3) := by decide +kernel
theorem dX5_roundSteps_76 : decode cX5_roundSteps 76 = .ok (.goto (-35), 3) := by decide +kernel
theorem dX5_roundSteps_79 : decode cX5_roundSteps 79 = .ok (.iinc 4 1, 3) := by decide +kernel
theorem dX5_roundSteps_82 : decode cX5_roundSteps 82 = .ok (.goto (-59), 3) := by decide +kernel
theorem dX5_roundSteps_85 : decode cX5_roundSteps 85 = .ok (.aload_n 0, 1) := by decide +kernel
theorem dX5_roundSteps_86 : decode cX5_roundSteps 86 = .ok (.getfield 20, 3) := by decide +kernel
theorem dX5_roundSteps_89 : decode cX5_roundSteps 89 = .ok (.iload_n 3, 1) := by decide +kernel
theorem dX5_roundSteps_90 : decode cX5_roundSteps 90 = .ok (.bipush 9, 2) := by decide +kernel
theorem dX5_roundSteps_92 : decode cX5_roundSteps 92 = .ok (.imul, 1) := by decide +kernel
theorem dX5_roundSteps_93 : decode cX5_roundSteps 93 = .ok (.iload_n 2, 1) := by decide +kernel
theorem dX5_roundSteps_94 : decode cX5_roundSteps 94 = .ok (.iadd, 1) := by decide +kernel
theorem dX5_roundSteps_95 : decode cX5_roundSteps 95 = .ok (.invokevirtual 63, 3) := by decide +kernel
theorem dX5_roundSteps_98 : decode cX5_roundSteps 98 = .ok (.ireturn, 1) := by decide +kernel
theorem dX5_roundBegin_0 : decode cX5_roundBegin 0 = .ok (.iconst 0, 1) := by decide +kernel
theorem dX5_roundBegin_1 : decode cX5_roundBegin 1 = .ok (.istore 4, 2) := by decide +kernel
theorem dX5_roundBegin_3 : decode cX5_roundBegin 3 = .ok (.iload 4, 2) := by decide +kernel
theorem dX5_roundBegin_5 : decode cX5_roundBegin 5 = .ok (.bipush 9, 2) := by decide +kernel
theorem dX5_roundBegin_7 : decode cX5_roundBegin 7 = .ok (.if_icmp .ge 33, 3) := by decide +kernel
theorem dX5_roundBegin_10 : decode cX5_roundBegin 10 = .ok (.iload_n 2, 1) := by decide +kernel
theorem dX5_roundBegin_11 : decode cX5_roundBegin 11 = .ok (.iload 4, 2) := by decide +kernel
theorem dX5_roundBegin_13 : decode cX5_roundBegin 13 = .ok (.invokestatic 41, 3) := by decide +kernel
theorem dX5_roundBegin_16 : decode cX5_roundBegin 16 = .ok (.ifCond .eq 18, 3) := by decide +kernel
theorem dX5_roundBegin_19 : decode cX5_roundBegin 19 = .ok (.aload_n 0, 1) := by decide +kernel
theorem dX5_roundBegin_20 : decode cX5_roundBegin 20 = .ok (.iload_n 2, 1) := by decide +kernel
theorem dX5_roundBegin_21 : decode cX5_roundBegin 21 = .ok (.iload_n 1, 1) := by decide +kernel
theorem dX5_roundBegin_22 : decode cX5_roundBegin 22 = .ok (.iload 4, 2) := by decide +kernel
theorem dX5_roundBegin_24 : decode cX5_roundBegin 24 = .ok (.invokevirtual 66, 3) := by decide +kernel
theorem dX5_roundBegin_27 : decode cX5_roundBegin 27 = .ok (.iload_n 3, 1) := by decide +kernel
theorem dX5_roundBegin_28 : decode cX5_roundBegin 28 = .ok (.if_icmp .ne 6, 3) := by decide +kernel
theorem dX5_roundBegin_31 : decode cX5_roundBegin 31 = .ok (.iload 4, 2) := by decide +kernel
theorem dX5_roundBegin_33 : decode cX5_roundBegin 33 = .ok (.ireturn, 1) := by decide +kernel
theorem dX5_roundBegin_34 : decode cX5_roundBegin 34 = .ok (.iinc 4 1, 3) := by decide +kernel
theorem dX5_roundBegin_37 : decode cX5_roundBegin 37 = .ok (.goto (-34), 3) := by decide +kernel
theorem dX5_roundBegin_40 : decode cX5_roundBegin 40 = .ok (.iconst (-1), 1) := by decide +kernel
theorem dX5_roundBegin_41 : decode cX5_roundBegin 41 = .ok (.ireturn, 1) := by decide +kernel
theorem dX5_measure_0 : decode cX5_measure 0 = .ok (.iconst 0, 1) := by decide +kernel
theorem dX5_measure_1 : decode cX5_measure 1 = .ok (.istore_n 2, 1) := by decide +kernel
theorem dX5_measure_2 : decode cX5_measure 2 = .ok (.iload_n 2, 1) := by decide +kernel
theorem dX5_measure_3 : decode cX5_measure 3 = .ok (.aload_n 1, 1) := by decide +kernel
theorem dX5_measure_4 : decode cX5_measure 4 = .ok (.getfield 35, 3) := by decide +kernel
theorem dX5_measure_7 : decode cX5_measure 7 = .ok (.if_icmp .ge 44, 3) := by decide +kernel
theorem dX5_measure_10 : decode cX5_measure 10 = .ok (.iconst 0, 1) := by decide +kernel
theorem dX5_measure_11 : decode cX5_measure 11 = .ok (.istore_n 3, 1) := by decide +kernel
theorem dX5_measure_12 : decode cX5_measure 12 = .ok (.iload_n 3, 1) := by decide +kernel
theorem dX5_measure_13 : decode cX5_measure 13 = .ok (.aload_n 1, 1) := by decide +kernel
theorem dX5_measure_14 : decode cX5_measure 14 = .ok (.getfield 35, 3) := by decide +kernel
theorem dX5_measure_17 : decode cX5_measure 17 = .ok (.if_icmp .ge 28, 3) := by decide +kernel
theorem dX5_measure_20 : decode cX5_measure 20 = .ok (.aload_n 0, 1) := by decide +kernel
theorem dX5_measure_21 : decode cX5_measure 21 = .ok (.getfield 14, 3) := by decide +kernel
theorem dX5_measure_24 : decode cX5_measure 24 = .ok (.iload_n 2, 1) := by decide +kernel
theorem dX5_measure_25 : decode cX5_measure 25 = .ok (.bipush 9, 2) := by decide +kernel
theorem dX5_measure_27 : decode cX5_measure 27 = .ok (.imul, 1) := by decide +kernel
theorem dX5_measure_28 : decode cX5_measure 28 = .ok (.iload_n 3, 1) := by decide +kernel
theorem dX5_measure_29 : decode cX5_measure 29 = .ok (.iadd, 1) := by decide +kernel
theorem dX5_measure_30 : decode cX5_measure 30 = .ok (.aload_n 1, 1) := by decide +kernel
theorem dX5_measure_31 : decode cX5_measure 31 = .ok (.iload_n 2, 1) := by decide +kernel
theorem dX5_measure_32 : decode cX5_measure 32 = .ok (.iload_n 3, 1) := by decide +kernel
theorem dX5_measure_33 : decode cX5_measure 33 = .ok (.invokevirtual 70, 3) := by decide +kernel
theorem dX5_measure_36 : decode cX5_measure 36 = .ok (.invokevirtual 59, 3) := by decide +kernel
theorem dX5_measure_39 : decode cX5_measure 39 = .ok (.iinc 3 1, 3) := by decide +kernel
theorem dX5_measure_42 : decode cX5_measure 42 = .ok (.goto (-30), 3) := by decide +kernel
theorem dX5_measure_45 : decode cX5_measure 45 = .ok (.iinc 2 1, 3) := by decide +kernel
theorem dX5_measure_48 : decode cX5_measure 48 = .ok (.goto (-46), 3) := by decide +kernel
theorem dX5_measure_51 : decode cX5_measure 51 = .ok (.return_, 1) := by decide +kernel
theorem dX5_fewestSteps_0 : decode cX5_fewestSteps 0 = .ok (.sipush 1000, 3) := by decide +kernel
theorem dX5_fewestSteps_3 : decode cX5_fewestSteps 3 = .ok (.istore_n 3, 1) := by decide +kernel
theorem dX5_fewestSteps_4 : decode cX5_fewestSteps 4 = .ok (.iconst 0, 1) := by decide +kernel
theorem dX5_fewestSteps_5 : decode cX5_fewestSteps 5 = .ok (.istore 4, 2) := by decide +kernel
theorem dX5_fewestSteps_7 : decode cX5_fewestSteps 7 = .ok (.iload 4, 2) := by decide +kernel
theorem dX5_fewestSteps_9 : decode cX5_fewestSteps 9 = .ok (.bipush 9, 2) := by decide +kernel
theorem dX5_fewestSteps_11 : decode cX5_fewestSteps 11 = .ok (.if_icmp .ge 31, 3) := by decide +kernel
theorem dX5_fewestSteps_14 : decode cX5_fewestSteps 14 = .ok (.iload_n 1, 1) := by decide +kernel
theorem dX5_fewestSteps_15 : decode cX5_fewestSteps 15 = .ok (.iload 4, 2) := by decide +kernel
theorem dX5_fewestSteps_17 : decode cX5_fewestSteps 17 = .ok (.invokestatic 41, 3) := by decide +kernel
theorem dX5_fewestSteps_20 : decode cX5_fewestSteps 20 = .ok (.ifCond .eq 16, 3) := by decide +kernel
theorem dX5_fewestSteps_23 : decode cX5_fewestSteps 23 = .ok (.iload_n 3, 1) := by decide +kernel
theorem dX5_fewestSteps_24 : decode cX5_fewestSteps 24 = .ok (.aload_n 0, 1) := by decide +kernel
theorem dX5_fewestSteps_25 : decode cX5_fewestSteps 25 = .ok (.iload_n 1, 1) := by decide +kernel
theorem dX5_fewestSteps_26 : decode cX5_fewestSteps 26 = .ok (.iload_n 2, 1) := by decide +kernel
theorem dX5_fewestSteps_27 : decode cX5_fewestSteps 27 = .ok (.iload 4, 2) := by decide +kernel
theorem dX5_fewestSteps_29 : decode cX5_fewestSteps 29 = .ok (.invokevirtual 66, 3) := by decide +kernel
theorem dX5_fewestSteps_32 : decode cX5_fewestSteps 32 = .ok (.invokestatic 73, 3) := by decide +kernel
theorem dX5_fewestSteps_35 : decode cX5_fewestSteps 35 = .ok (.istore_n 3, 1) := by decide +kernel
theorem dX5_fewestSteps_36 : decode cX5_fewestSteps 36 = .ok (.iinc 4 1, 3) := by decide +kernel
theorem dX5_fewestSteps_39 : decode cX5_fewestSteps 39 = .ok (.goto (-32), 3) := by decide +kernel
theorem dX5_fewestSteps_42 : decode cX5_fewestSteps 42 = .ok (.iload_n 3, 1) := by decide +kernel
theorem dX5_fewestSteps_43 : decode cX5_fewestSteps 43 = .ok (.ireturn, 1) := by decide +kernel
theorem dX5_stepsBy_0 : decode cX5_stepsBy 0 = .ok (.iload_n 1, 1) := by decide +kernel
theorem dX5_stepsBy_1 : decode cX5_stepsBy 1 = .ok (.iload_n 3, 1) := by decide +kernel
theorem dX5_stepsBy_2 : decode cX5_stepsBy 2 = .ok (.invokestatic 45, 3) := by decide +kernel
theorem dX5_stepsBy_5 : decode cX5_stepsBy 5 = .ok (.iconst (-1), 1) := by decide +kernel
theorem dX5_stepsBy_6 : decode cX5_stepsBy 6 = .ok (.ixor, 1) := by decide +kernel
theorem dX5_stepsBy_7 : decode cX5_stepsBy 7 = .ok (.iand, 1) := by decide +kernel
theorem dX5_stepsBy_8 : decode cX5_stepsBy 8 = .ok (.istore 4, 2) := by decide +kernel
theorem dX5_stepsBy_10 : decode cX5_stepsBy 10 = .ok (.aload_n 0, 1) := by decide +kernel
theorem dX5_stepsBy_11 : decode cX5_stepsBy 11 = .ok (.getfield 14, 3) := by decide +kernel
theorem dX5_stepsBy_14 : decode cX5_stepsBy 14 = .ok (.iload_n 2, 1) := by decide +kernel
theorem dX5_stepsBy_15 : decode cX5_stepsBy 15 = .ok (.bipush 9, 2) := by decide +kernel
theorem dX5_stepsBy_17 : decode cX5_stepsBy 17 = .ok (.imul, 1) := by decide +kernel
theorem dX5_stepsBy_18 : decode cX5_stepsBy 18 = .ok (.iload_n 3, 1) := by decide +kernel
theorem dX5_stepsBy_19 : decode cX5_stepsBy 19 = .ok (.iadd, 1) := by decide +kernel
theorem dX5_stepsBy_20 : decode cX5_stepsBy 20 = .ok (.invokevirtual 63, 3) := by decide +kernel
theorem dX5_stepsBy_23 : decode cX5_stepsBy 23 = .ok (.aload_n 0, 1) := by decide +kernel
theorem dX5_stepsBy_24 : decode cX5_stepsBy 24 = .ok (.getfield 20, 3) := by decide +kernel
theorem dX5_stepsBy_27 : decode cX5_stepsBy 27 = .ok (.iload 4, 2) := by decide +kernel
theorem dX5_stepsBy_29 : decode cX5_stepsBy 29 = .ok (.bipush 9, 2) := by decide +kernel
theorem dX5_stepsBy_31 : decode cX5_stepsBy 31 = .ok (.imul, 1) := by decide +kernel
theorem dX5_stepsBy_32 : decode cX5_stepsBy 32 = .ok (.iload_n 3, 1) := by decide +kernel
theorem dX5_stepsBy_33 : decode cX5_stepsBy 33 = .ok (.iadd, 1) := by decide +kernel
theorem dX5_stepsBy_34 : decode cX5_stepsBy 34 = .ok (.invokevirtual 63, 3) := by decide +kernel
theorem dX5_stepsBy_37 : decode cX5_stepsBy 37 = .ok (.iadd, 1) := by decide +kernel
theorem dX5_stepsBy_38 : decode cX5_stepsBy 38 = .ok (.ireturn, 1) := by decide +kernel
theorem dX5_fewestBeats_0 : decode cX5_fewestBeats 0 = .ok (.aload_n 1, 1) := by decide +kernel
theorem dX5_fewestBeats_1 : decode cX5_fewestBeats 1 = .ok (.getfield 35, 3) := by decide +kernel
theorem dX5_fewestBeats_4 : decode cX5_fewestBeats 4 = .ok (.invokestatic 45, 3) := by decide +kernel
theorem dX5_fewestBeats_7 : decode cX5_fewestBeats 7 = .ok (.iconst 1, 1) := by decide +kernel
theorem dX5_fewestBeats_8 : decode cX5_fewestBeats 8 = .ok (.isub, 1) := by decide +kernel
theorem dX5_fewestBeats_9 : decode cX5_fewestBeats 9 = .ok (.istore_n 2, 1) := by decide +kernel
theorem dX5_fewestBeats_10 : decode cX5_fewestBeats 10 = .ok (.iload_n 2, 1) := by decide +kernel
theorem dX5_fewestBeats_11 : decode cX5_fewestBeats 11 = .ok (.istore_n 3, 1) := by decide +kernel
theorem dX5_fewestBeats_12 : decode cX5_fewestBeats 12 = .ok (.iconst 0, 1) := by decide +kernel
theorem dX5_fewestBeats_13 : decode cX5_fewestBeats 13 = .ok (.istore 4, 2) := by decide +kernel
theorem dX5_fewestBeats_15 : decode cX5_fewestBeats 15 = .ok (.iload 4, 2) := by decide +kernel
theorem dX5_fewestBeats_17 : decode cX5_fewestBeats 17 = .ok (.iload_n 2, 1) := by decide +kernel
theorem dX5_fewestBeats_18 : decode cX5_fewestBeats 18 = .ok (.if_icmp .ge 49, 3) := by decide +kernel
theorem dX5_fewestBeats_21 : decode cX5_fewestBeats 21 = .ok (.iload 4, 2) := by decide +kernel
theorem dX5_fewestBeats_23 : decode cX5_fewestBeats 23 = .ok (.invokestatic 78, 3) := by decide +kernel
theorem dX5_fewestBeats_26 : decode cX5_fewestBeats 26 = .ok (.iload_n 3, 1) := by decide +kernel
theorem dX5_fewestBeats_27 : decode cX5_fewestBeats 27 = .ok (.invokestatic 78, 3) := by decide +kernel
theorem dX5_fewestBeats_30 : decode cX5_fewestBeats 30 = .ok (.if_icmp .ge 7, 3) := by decide +kernel
theorem dX5_fewestBeats_33 : decode cX5_fewestBeats 33 = .ok (.iconst 1, 1) := by decide +kernel
theorem dX5_fewestBeats_34 : decode cX5_fewestBeats 34 = .ok (.goto 4, 3) := by decide +kernel
theorem dX5_fewestBeats_37 : decode cX5_fewestBeats 37 = .ok (.iconst 0, 1) := by decide +kernel
theorem dX5_fewestBeats_38 : decode cX5_fewestBeats 38 = .ok (.istore 5, 2) := by decide +kernel
theorem dX5_fewestBeats_40 : decode cX5_fewestBeats 40 = .ok (.iload 5, 2) := by decide +kernel
theorem dX5_fewestBeats_42 : decode cX5_fewestBeats 42 = .ok (.ifCond .eq 19, 3) := by decide +kernel
theorem dX5_fewestBeats_45 : decode cX5_fewestBeats 45 = .ok (.iload 4, 2) := by decide +kernel
theorem dX5_fewestBeats_47 : decode cX5_fewestBeats 47 = .ok (.aload_n 1, 1) := by decide +kernel
theorem dX5_fewestBeats_48 : decode cX5_fewestBeats 48 = .ok (.iload 4, 2) := by decide +kernel
theorem dX5_fewestBeats_50 : decode cX5_fewestBeats 50 = .ok (.invokevirtual 83, 3) := by decide +kernel
theorem dX5_fewestBeats_53 : decode cX5_fewestBeats 53 = .ok (.ior, 1) := by decide +kernel
theorem dX5_fewestBeats_54 : decode cX5_fewestBeats 54 = .ok (.iload_n 2, 1) := by decide +kernel
theorem dX5_fewestBeats_55 : decode cX5_fewestBeats 55 = .ok (.if_icmp .ne 6, 3) := by decide +kernel
theorem dX5_fewestBeats_58 : decode cX5_fewestBeats 58 = .ok (.iload 4, 2) := by decide +kernel
theorem dX5_fewestBeats_60 : decode cX5_fewestBeats 60 = .ok (.istore_n 3, 1) := by decide +kernel
theorem dX5_fewestBeats_61 : decode cX5_fewestBeats 61 = .ok (.iinc 4 1, 3) := by decide +kernel
theorem dX5_fewestBeats_64 : decode cX5_fewestBeats 64 = .ok (.goto (-49), 3) := by decide +kernel
theorem dX5_fewestBeats_67 : decode cX5_fewestBeats 67 = .ok (.iload_n 3, 1) := by decide +kernel
theorem dX5_fewestBeats_68 : decode cX5_fewestBeats 68 = .ok (.ireturn, 1) := by decide +kernel
theorem dX5_pieces_0 : decode cX5_pieces 0 = .ok (.aload_n 1, 1) := by decide +kernel
theorem dX5_pieces_1 : decode cX5_pieces 1 = .ok (.getfield 35, 3) := by decide +kernel
theorem dX5_pieces_4 : decode cX5_pieces 4 = .ok (.invokestatic 45, 3) := by decide +kernel
theorem dX5_pieces_7 : decode cX5_pieces 7 = .ok (.iconst 1, 1) := by decide +kernel
theorem dX5_pieces_8 : decode cX5_pieces 8 = .ok (.isub, 1) := by decide +kernel
theorem dX5_pieces_9 : decode cX5_pieces 9 = .ok (.istore_n 2, 1) := by decide +kernel
theorem dX5_pieces_10 : decode cX5_pieces 10 = .ok (.iconst 0, 1) := by decide +kernel
theorem dX5_pieces_11 : decode cX5_pieces 11 = .ok (.istore_n 3, 1) := by decide +kernel
theorem dX5_pieces_12 : decode cX5_pieces 12 = .ok (.iconst 0, 1) := by decide +kernel
theorem dX5_pieces_13 : decode cX5_pieces 13 = .ok (.istore 4, 2) := by decide +kernel
theorem dX5_pieces_15 : decode cX5_pieces 15 = .ok (.iload 4, 2) := by decide +kernel
theorem dX5_pieces_17 : decode cX5_pieces 17 = .ok (.aload_n 1, 1) := by decide +kernel
theorem dX5_pieces_18 : decode cX5_pieces 18 = .ok (.getfield 35, 3) := by decide +kernel
theorem dX5_pieces_21 : decode cX5_pieces 21 = .ok (.if_icmp .ge 33, 3) := by decide +kernel
theorem dX5_pieces_24 : decode cX5_pieces 24 = .ok (.iload_n 2, 1) := by decide +kernel
theorem dX5_pieces_25 : decode cX5_pieces 25 = .ok (.iload 4, 2) := by decide +kernel
theorem dX5_pieces_27 : decode cX5_pieces 27 = .ok (.invokestatic 41, 3) := by decide +kernel
theorem dX5_pieces_30 : decode cX5_pieces 30 = .ok (.ifCond .eq 18, 3) := by decide +kernel
theorem dX5_pieces_33 : decode cX5_pieces 33 = .ok (.iload_n 2, 1) := by decide +kernel
theorem dX5_pieces_34 : decode cX5_pieces 34 = .ok (.aload_n 1, 1) := by decide +kernel
theorem dX5_pieces_35 : decode cX5_pieces 35 = .ok (.iload 4, 2) := by decide +kernel
theorem dX5_pieces_37 : decode cX5_pieces 37 = .ok (.iload_n 2, 1) := by decide +kernel
theorem dX5_pieces_38 : decode cX5_pieces 38 = .ok (.invokevirtual 48, 3) := by decide +kernel
theorem dX5_pieces_41 : decode cX5_pieces 41 = .ok (.iconst (-1), 1) := by decide +kernel
theorem dX5_pieces_42 : decode cX5_pieces 42 = .ok (.ixor, 1) := by decide +kernel
theorem dX5_pieces_43 : decode cX5_pieces 43 = .ok (.iand, 1) := by decide +kernel
theorem dX5_pieces_44 : decode cX5_pieces 44 = .ok (.istore_n 2, 1) := by decide +kernel
theorem dX5_pieces_45 : decode cX5_pieces 45 = .ok (.iinc 3 1, 3) := by decide +kernel
theorem dX5_pieces_48 : decode cX5_pieces 48 = .ok (.iinc 4 1, 3) := by decide +kernel
theorem dX5_pieces_51 : decode cX5_pieces 51 = .ok (.goto (-36), 3) := by decide +kernel
theorem dX5_pieces_54 : decode cX5_pieces 54 = .ok (.iload_n 3, 1) := by decide +kernel
theorem dX5_pieces_55 : decode cX5_pieces 55 = .ok (.ireturn, 1) := by decide +kernel
theorem dX5_partingPanes_0 : decode cX5_partingPanes 0 = .ok (.iconst 0, 1) := by decide +kernel
theorem dX5_partingPanes_1 : decode cX5_partingPanes 1 = .ok (.istore_n 2, 1) := by decide +kernel
theorem dX5_partingPanes_2 : decode cX5_partingPanes 2 = .ok (.iconst 0, 1) := by decide +kernel
theorem dX5_partingPanes_3 : decode cX5_partingPanes 3 = .ok (.istore_n 3, 1) := by decide +kernel
theorem dX5_partingPanes_4 : decode cX5_partingPanes 4 = .ok (.iload_n 3, 1) := by decide +kernel
theorem dX5_partingPanes_5 : decode cX5_partingPanes 5 = .ok (.aload_n 1, 1) := by decide +kernel
theorem dX5_partingPanes_6 : decode cX5_partingPanes 6 = .ok (.getfield 35, 3) := by decide +kernel
theorem dX5_partingPanes_9 : decode cX5_partingPanes 9 = .ok (.if_icmp .ge 52, 3) := by decide +kernel
theorem dX5_partingPanes_12 : decode cX5_partingPanes 12 = .ok (.aload_n 1, 1) := by decide +kernel
theorem dX5_partingPanes_13 : decode cX5_partingPanes 13 = .ok (.iload_n 3, 1) := by decide +kernel
theorem dX5_partingPanes_14 : decode cX5_partingPanes 14 = .ok (.iconst (-1), 1) := by decide +kernel
theorem dX5_partingPanes_15 : decode cX5_partingPanes 15 = .ok (.invokevirtual 48, 3) := by decide +kernel
theorem dX5_partingPanes_18 : decode cX5_partingPanes 18 = .ok (.iload_n 3, 1) := by decide +kernel
theorem dX5_partingPanes_19 : decode cX5_partingPanes 19 = .ok (.invokestatic 45, 3) := by decide +kernel
theorem dX5_partingPanes_22 : decode cX5_partingPanes 22 = .ok (.iconst (-1), 1) := by decide +kernel
theorem dX5_partingPanes_23 : decode cX5_partingPanes 23 = .ok (.ixor, 1) := by decide +kernel
theorem dX5_partingPanes_24 : decode cX5_partingPanes 24 = .ok (.iand, 1) := by decide +kernel
theorem dX5_partingPanes_25 : decode cX5_partingPanes 25 = .ok (.istore 4, 2) := by decide +kernel
theorem dX5_partingPanes_27 : decode cX5_partingPanes 27 = .ok (.iload 4, 2) := by decide +kernel
theorem dX5_partingPanes_29 : decode cX5_partingPanes 29 = .ok (.ifCond .eq 26, 3) := by decide +kernel
theorem dX5_partingPanes_32 : decode cX5_partingPanes 32 = .ok (.aload_n 1, 1) := by decide +kernel
theorem dX5_partingPanes_33 : decode cX5_partingPanes 33 = .ok (.iload 4, 2) := by decide +kernel
theorem dX5_partingPanes_35 : decode cX5_partingPanes 35 = .ok (.invokestatic 86, 3) := by decide +kernel
theorem dX5_partingPanes_38 : decode cX5_partingPanes 38 = .ok (.iload 4, 2) := by decide +kernel
theorem dX5_partingPanes_40 : decode cX5_partingPanes 40 = .ok (.invokevirtual 48, 3) := by decide +kernel
theorem dX5_partingPanes_43 : decode cX5_partingPanes 43 = .ok (.iload 4, 2) := by decide +kernel
theorem dX5_partingPanes_45 : decode cX5_partingPanes 45 = .ok (.if_icmp .eq 10, 3) := by decide +kernel
theorem dX5_partingPanes_48 : decode cX5_partingPanes 48 = .ok (.iload_n 2, 1) := by decide +kernel
theorem dX5_partingPanes_49 : decode cX5_partingPanes 49 = .ok (.iload_n 3, 1) := by decide +kernel
theorem dX5_partingPanes_50 : decode cX5_partingPanes 50 = .ok (.invokestatic 45, 3) := by decide +kernel
theorem dX5_partingPanes_53 : decode cX5_partingPanes 53 = .ok (.ior, 1) := by decide +kernel
theorem dX5_partingPanes_54 : decode cX5_partingPanes 54 = .ok (.istore_n 2, 1) := by decide +kernel
theorem dX5_partingPanes_55 : decode cX5_partingPanes 55 = .ok (.iinc 3 1, 3) := by decide +kernel
theorem dX5_partingPanes_58 : decode cX5_partingPanes 58 = .ok (.goto (-54), 3) := by decide +kernel
theorem dX5_partingPanes_61 : decode cX5_partingPanes 61 = .ok (.iload_n 2, 1) := by decide +kernel
theorem dX5_partingPanes_62 : decode cX5_partingPanes 62 = .ok (.ireturn, 1) := by decide +kernel
theorem dX5_fewestClosed_0 : decode cX5_fewestClosed 0 = .ok (.iload_n 2, 1) := by decide +kernel
theorem dX5_fewestClosed_1 : decode cX5_fewestClosed 1 = .ok (.iload_n 3, 1) := by decide +kernel
theorem dX5_fewestClosed_2 : decode cX5_fewestClosed 2 = .ok (.if_icmp .ne 5, 3) := by decide +kernel
theorem dX5_fewestClosed_5 : decode cX5_fewestClosed 5 = .ok (.iconst (-1), 1) := by decide +kernel
theorem dX5_fewestClosed_6 : decode cX5_fewestClosed 6 = .ok (.ireturn, 1) := by decide +kernel
theorem dX5_fewestClosed_7 : decode cX5_fewestClosed 7 = .ok (.sipush 1000, 3) := by decide +kernel
theorem dX5_fewestClosed_10 : decode cX5_fewestClosed 10 = .ok (.istore 4, 2) := by decide +kernel
theorem dX5_fewestClosed_12 : decode cX5_fewestClosed 12 = .ok (.iconst 0, 1) := by decide +kernel
theorem dX5_fewestClosed_13 : decode cX5_fewestClosed 13 = .ok (.istore 5, 2) := by decide +kernel
theorem dX5_fewestClosed_15 : decode cX5_fewestClosed 15 = .ok (.iload 5, 2) := by decide +kernel
theorem dX5_fewestClosed_17 : decode cX5_fewestClosed 17 = .ok (.aload_n 1, 1) := by decide +kernel
theorem dX5_fewestClosed_18 : decode cX5_fewestClosed 18 = .ok (.getfield 35, 3) := by decide +kernel
theorem dX5_fewestClosed_21 : decode cX5_fewestClosed 21 = .ok (.invokestatic 45, 3) := by decide +kernel
theorem dX5_fewestClosed_24 : decode cX5_fewestClosed 24 = .ok (.if_icmp .ge 41, 3) := by decide +kernel
theorem dX5_fewestClosed_27 : decode cX5_fewestClosed 27 = .ok (.iload 5, 2) := by decide +kernel
theorem dX5_fewestClosed_29 : decode cX5_fewestClosed 29 = .ok (.iload_n 2, 1) := by decide +kernel
theorem dX5_fewestClosed_30 : decode cX5_fewestClosed 30 = .ok (.invokestatic 41, 3) := by decide +kernel
theorem dX5_fewestClosed_33 : decode cX5_fewestClosed 33 = .ok (.ifCond .eq 26, 3) := by decide +kernel
theorem dX5_fewestClosed_36 : decode cX5_fewestClosed 36 = .ok (.iload 5, 2) := by decide +kernel
theorem dX5_fewestClosed_38 : decode cX5_fewestClosed 38 = .ok (.iload_n 3, 1) := by decide +kernel
theorem dX5_fewestClosed_39 : decode cX5_fewestClosed 39 = .ok (.invokestatic 41, 3) := by decide +kernel
theorem dX5_fewestClosed_42 : decode cX5_fewestClosed 42 = .ok (.ifCond .ne 17, 3) := by decide +kernel
theorem dX5_fewestClosed_45 : decode cX5_fewestClosed 45 = .ok (.iload 4, 2) := by decide +kernel
theorem dX5_fewestClosed_47 : decode cX5_fewestClosed 47 = .ok (.aload_n 0, 1) := by decide +kernel
theorem dX5_fewestClosed_48 : decode cX5_fewestClosed 48 = .ok (.aload_n 1, 1) := by decide +kernel
theorem dX5_fewestClosed_49 : decode cX5_fewestClosed 49 = .ok (.iload 5, 2) := by decide +kernel
theorem dX5_fewestClosed_51 : decode cX5_fewestClosed 51 = .ok (.invokevirtual 89, 3) := by decide +kernel
theorem dX5_fewestClosed_54 : decode cX5_fewestClosed 54 = .ok (.invokestatic 73, 3) := by decide +kernel
theorem dX5_fewestClosed_57 : decode cX5_fewestClosed 57 = .ok (.istore 4, 2) := by decide +kernel
theorem dX5_fewestClosed_59 : decode cX5_fewestClosed 59 = .ok (.iinc 5 1, 3) := by decide +kernel
theorem dX5_fewestClosed_62 : decode cX5_fewestClosed 62 = .ok (.goto (-47), 3) := by decide +kernel
theorem dX5_fewestClosed_65 : decode cX5_fewestClosed 65 = .ok (.iload 4, 2) := by decide +kernel
theorem dX5_fewestClosed_67 : decode cX5_fewestClosed 67 = .ok (.ireturn, 1) := by decide +kernel
theorem dX5_waysOutOf_0 : decode cX5_waysOutOf 0 = .ok (.iconst 0, 1) := by decide +kernel
theorem dX5_waysOutOf_1 : decode cX5_waysOutOf 1 = .ok (.istore_n 3, 1) := by decide +kernel
theorem dX5_waysOutOf_2 : decode cX5_waysOutOf 2 = .ok (.iconst 0, 1) := by decide +kernel
theorem dX5_waysOutOf_3 : decode cX5_waysOutOf 3 = .ok (.istore 4, 2) := by decide +kernel
theorem dX5_waysOutOf_5 : decode cX5_waysOutOf 5 = .ok (.iload 4, 2) := by decide +kernel
theorem dX5_waysOutOf_7 : decode cX5_waysOutOf 7 = .ok (.aload_n 1, 1) := by decide +kernel
theorem dX5_waysOutOf_8 : decode cX5_waysOutOf 8 = .ok (.getfield 35, 3) := by decide +kernel
theorem dX5_waysOutOf_11 : decode cX5_waysOutOf 11 = .ok (.if_icmp .ge 37, 3) := by decide +kernel
theorem dX5_waysOutOf_14 : decode cX5_waysOutOf 14 = .ok (.iload_n 2, 1) := by decide +kernel
theorem dX5_waysOutOf_15 : decode cX5_waysOutOf 15 = .ok (.iload 4, 2) := by decide +kernel
theorem dX5_waysOutOf_17 : decode cX5_waysOutOf 17 = .ok (.invokestatic 41, 3) := by decide +kernel
theorem dX5_waysOutOf_20 : decode cX5_waysOutOf 20 = .ok (.ifCond .eq 22, 3) := by decide +kernel
theorem dX5_waysOutOf_23 : decode cX5_waysOutOf 23 = .ok (.iload_n 3, 1) := by decide +kernel
theorem dX5_waysOutOf_24 : decode cX5_waysOutOf 24 = .ok (.aload_n 1, 1) := by decide +kernel
theorem dX5_waysOutOf_25 : decode cX5_waysOutOf 25 = .ok (.getfield 93, 3) := by decide +kernel
theorem dX5_waysOutOf_28 : decode cX5_waysOutOf 28 = .ok (.iload 4, 2) := by decide +kernel
theorem dX5_waysOutOf_30 : decode cX5_waysOutOf 30 = .ok (.invokevirtual 63, 3) := by decide +kernel
theorem dX5_waysOutOf_33 : decode cX5_waysOutOf 33 = .ok (.iload_n 2, 1) := by decide +kernel
theorem dX5_waysOutOf_34 : decode cX5_waysOutOf 34 = .ok (.iconst (-1), 1) := by decide +kernel
theorem dX5_waysOutOf_35 : decode cX5_waysOutOf 35 = .ok (.ixor, 1) := by decide +kernel
theorem dX5_waysOutOf_36 : decode cX5_waysOutOf 36 = .ok (.iand, 1) := by decide +kernel
theorem dX5_waysOutOf_37 : decode cX5_waysOutOf 37 = .ok (.invokestatic 78, 3) := by decide +kernel
theorem dX5_waysOutOf_40 : decode cX5_waysOutOf 40 = .ok (.iadd, 1) := by decide +kernel
theorem dX5_waysOutOf_41 : decode cX5_waysOutOf 41 = .ok (.istore_n 3, 1) := by decide +kernel
theorem dX5_waysOutOf_42 : decode cX5_waysOutOf 42 = .ok (.iinc 4 1, 3) := by decide +kernel
theorem dX5_waysOutOf_45 : decode cX5_waysOutOf 45 = .ok (.goto (-40), 3) := by decide +kernel
theorem dX5_waysOutOf_48 : decode cX5_waysOutOf 48 = .ok (.iload_n 3, 1) := by decide +kernel
theorem dX5_waysOutOf_49 : decode cX5_waysOutOf 49 = .ok (.ireturn, 1) := by decide +kernel
theorem dX5_isWalk_0 : decode cX5_isWalk 0 = .ok (.iload_n 3, 1) := by decide +kernel
theorem dX5_isWalk_1 : decode cX5_isWalk 1 = .ok (.bipush 40, 2) := by decide +kernel
theorem dX5_isWalk_3 : decode cX5_isWalk 3 = .ok (.if_icmp .gt 9, 3) := by decide +kernel
theorem dX5_isWalk_6 : decode cX5_isWalk 6 = .ok (.iload_n 3, 1) := by decide +kernel
theorem dX5_isWalk_7 : decode cX5_isWalk 7 = .ok (.iconst 2, 1) := by decide +kernel
theorem dX5_isWalk_8 : decode cX5_isWalk 8 = .ok (.irem, 1) := by decide +kernel
theorem dX5_isWalk_9 : decode cX5_isWalk 9 = .ok (.ifCond .eq 5, 3) := by decide +kernel
theorem dX5_isWalk_12 : decode cX5_isWalk 12 = .ok (.iconst 0, 1) := by decide +kernel
theorem dX5_isWalk_13 : decode cX5_isWalk 13 = .ok (.ireturn, 1) := by decide +kernel
theorem dX5_isWalk_14 : decode cX5_isWalk 14 = .ok (.iconst 0, 1) := by decide +kernel
theorem dX5_isWalk_15 : decode cX5_isWalk 15 = .ok (.istore 4, 2) := by decide +kernel
theorem dX5_isWalk_17 : decode cX5_isWalk 17 = .ok (.iload 4, 2) := by decide +kernel
theorem dX5_isWalk_19 : decode cX5_isWalk 19 = .ok (.iload_n 3, 1) := by decide +kernel
theorem dX5_isWalk_20 : decode cX5_isWalk 20 = .ok (.if_icmp .ge 37, 3) := by decide +kernel
theorem dX5_isWalk_23 : decode cX5_isWalk 23 = .ok (.aload_n 2, 1) := by decide +kernel
theorem dX5_isWalk_24 : decode cX5_isWalk 24 = .ok (.iload 4, 2) := by decide +kernel
theorem dX5_isWalk_26 : decode cX5_isWalk 26 = .ok (.invokevirtual 29, 3) := by decide +kernel
theorem dX5_isWalk_29 : decode cX5_isWalk 29 = .ok (.aload_n 1, 1) := by decide +kernel
theorem dX5_isWalk_30 : decode cX5_isWalk 30 = .ok (.getfield 35, 3) := by decide +kernel
theorem dX5_isWalk_33 : decode cX5_isWalk 33 = .ok (.if_icmp .ge 16, 3) := by decide +kernel
theorem dX5_isWalk_36 : decode cX5_isWalk 36 = .ok (.aload_n 2, 1) := by decide +kernel
theorem dX5_isWalk_37 : decode cX5_isWalk 37 = .ok (.iload 4, 2) := by decide +kernel
theorem dX5_isWalk_39 : decode cX5_isWalk 39 = .ok (.iconst 1, 1) := by decide +kernel
theorem dX5_isWalk_40 : decode cX5_isWalk 40 = .ok (.iadd, 1) := by decide +kernel
theorem dX5_isWalk_41 : decode cX5_isWalk 41 = .ok (.invokevirtual 29, 3) := by decide +kernel
theorem dX5_isWalk_44 : decode cX5_isWalk 44 = .ok (.bipush 20, 2) := by decide +kernel
theorem dX5_isWalk_46 : decode cX5_isWalk 46 = .ok (.if_icmp .le 5, 3) := by decide +kernel
theorem dX5_isWalk_49 : decode cX5_isWalk 49 = .ok (.iconst 0, 1) := by decide +kernel
theorem dX5_isWalk_50 : decode cX5_isWalk 50 = .ok (.ireturn, 1) := by decide +kernel
theorem dX5_isWalk_51 : decode cX5_isWalk 51 = .ok (.iinc 4 2, 3) := by decide +kernel
theorem dX5_isWalk_54 : decode cX5_isWalk 54 = .ok (.goto (-37), 3) := by decide +kernel
theorem dX5_isWalk_57 : decode cX5_isWalk 57 = .ok (.iconst 1, 1) := by decide +kernel
theorem dX5_isWalk_58 : decode cX5_isWalk 58 = .ok (.ireturn, 1) := by decide +kernel
theorem dX5_placesAfterWalk_0 : decode cX5_placesAfterWalk 0 = .ok (.aload_n 1, 1) := by decide +kernel
theorem dX5_placesAfterWalk_1 : decode cX5_placesAfterWalk 1 = .ok (.getfield 35, 3) := by decide +kernel
theorem dX5_placesAfterWalk_4 : decode cX5_placesAfterWalk 4 = .ok (.invokestatic 45, 3) := by decide +kernel
theorem dX5_placesAfterWalk_7 : decode cX5_placesAfterWalk 7 = .ok (.iconst 1, 1) := by decide +kernel
theorem dX5_placesAfterWalk_8 : decode cX5_placesAfterWalk 8 = .ok (.isub, 1) := by decide +kernel
theorem dX5_placesAfterWalk_9 : decode cX5_placesAfterWalk 9 = .ok (.istore 4, 2) := by decide +kernel
theorem dX5_placesAfterWalk_11 : decode cX5_placesAfterWalk 11 = .ok (.aload_n 0, 1) := by decide +kernel
theorem dX5_placesAfterWalk_12 : decode cX5_placesAfterWalk 12 = .ok (.getfield 23, 3) := by decide +kernel
theorem dX5_placesAfterWalk_15 : decode cX5_placesAfterWalk 15 = .ok (.iload 4, 2) := by decide +kernel
theorem dX5_placesAfterWalk_17 : decode cX5_placesAfterWalk 17 = .ok (.invokevirtual 96, 3) := by decide +kernel
theorem dX5_placesAfterWalk_20 : decode cX5_placesAfterWalk 20 = .ok (.iconst 0, 1) := by decide +kernel
theorem dX5_placesAfterWalk_21 : decode cX5_placesAfterWalk 21 = .ok (.istore 5, 2) := by decide +kernel
theorem dX5_placesAfterWalk_23 : decode cX5_placesAfterWalk 23 = .ok (.iload 5, 2) := by decide +kernel
theorem dX5_placesAfterWalk_25 : decode cX5_placesAfterWalk 25 = .ok (.iload_n 3, 1) := by decide +kernel
theorem dX5_placesAfterWalk_26 : decode cX5_placesAfterWalk 26 = .ok (.if_icmp .ge 47, 3) := by decide +kernel
theorem dX5_placesAfterWalk_29 : decode cX5_placesAfterWalk 29 = .ok (.aload_n 2, 1) := by decide +kernel
theorem dX5_placesAfterWalk_30 : decode cX5_placesAfterWalk 30 = .ok (.iload 5, 2) := by decide +kernel
theorem dX5_placesAfterWalk_32 : decode cX5_placesAfterWalk 32 = .ok (.iconst 1, 1) := by decide +kernel
theorem dX5_placesAfterWalk_33 : decode cX5_placesAfterWalk 33 = .ok (.iadd, 1) := by decide +kernel
theorem dX5_placesAfterWalk_34 : decode cX5_placesAfterWalk 34 = .ok (.invokevirtual 29, 3) := by decide +kernel
theorem dX5_placesAfterWalk_37 : decode cX5_placesAfterWalk 37 = .ok (.istore 6, 2) := by decide +kernel
theorem dX5_placesAfterWalk_39 : decode cX5_placesAfterWalk 39 = .ok (.aload_n 0, 1) := by decide +kernel
theorem dX5_placesAfterWalk_40 : decode cX5_placesAfterWalk 40 = .ok (.getfield 23, 3) := by decide +kernel
theorem dX5_placesAfterWalk_43 : decode cX5_placesAfterWalk 43 = .ok (.iload 6, 2) := by decide +kernel
theorem dX5_placesAfterWalk_45 : decode cX5_placesAfterWalk 45 = .ok (.aload_n 0, 1) := by decide +kernel
theorem dX5_placesAfterWalk_46 : decode cX5_placesAfterWalk 46 = .ok (.getfield 23, 3) := by decide +kernel
theorem dX5_placesAfterWalk_49 : decode cX5_placesAfterWalk 49 = .ok (.iload 6, 2) := by decide +kernel
theorem dX5_placesAfterWalk_51 : decode cX5_placesAfterWalk 51 = .ok (.invokevirtual 63, 3) := by decide +kernel
theorem dX5_placesAfterWalk_54 : decode cX5_placesAfterWalk 54 = .ok (.aload_n 2, 1) := by decide +kernel
theorem dX5_placesAfterWalk_55 : decode cX5_placesAfterWalk 55 = .ok (.iload 5, 2) := by decide +kernel
theorem dX5_placesAfterWalk_57 : decode cX5_placesAfterWalk 57 = .ok (.invokevirtual 29, 3) := by decide +kernel
theorem dX5_placesAfterWalk_60 : decode cX5_placesAfterWalk 60 = .ok (.invokestatic 45, 3) := by decide +kernel
theorem dX5_placesAfterWalk_63 : decode cX5_placesAfterWalk 63 = .ok (.iand, 1) := by decide +kernel
theorem dX5_placesAfterWalk_64 : decode cX5_placesAfterWalk 64 = .ok (.invokevirtual 59, 3) := by decide +kernel
theorem dX5_placesAfterWalk_67 : decode cX5_placesAfterWalk 67 = .ok (.iinc 5 2, 3) := by decide +kernel
theorem dX5_placesAfterWalk_70 : decode cX5_placesAfterWalk 70 = .ok (.goto (-47), 3) := by decide +kernel
theorem dX5_placesAfterWalk_73 : decode cX5_placesAfterWalk 73 = .ok (.bipush 20, 2) := by decide +kernel
theorem dX5_placesAfterWalk_75 : decode cX5_placesAfterWalk 75 = .ok (.istore 5, 2) := by decide +kernel
theorem dX5_placesAfterWalk_77 : decode cX5_placesAfterWalk 77 = .ok (.iload 5, 2) := by decide +kernel
theorem dX5_placesAfterWalk_79 : decode cX5_placesAfterWalk 79 = .ok (.ifCond .le 34, 3) := by decide +kernel
theorem dX5_placesAfterWalk_82 : decode cX5_placesAfterWalk 82 = .ok (.iload 4, 2) := by decide +kernel
theorem dX5_placesAfterWalk_84 : decode cX5_placesAfterWalk 84 = .ok (.aload_n 0, 1) := by decide +kernel
theorem dX5_placesAfterWalk_85 : decode cX5_placesAfterWalk 85 = .ok (.getfield 23, 3) := by decide +kernel
theorem dX5_placesAfterWalk_88 : decode cX5_placesAfterWalk 88 = .ok (.iload 5, 2) := by decide +kernel
theorem dX5_placesAfterWalk_90 : decode cX5_placesAfterWalk 90 = .ok (.invokevirtual 63, 3) := by decide +kernel
theorem dX5_placesAfterWalk_93 : decode cX5_placesAfterWalk 93 = .ok (.iand, 1) := by decide +kernel
theorem dX5_placesAfterWalk_94 : decode cX5_placesAfterWalk 94 = .ok (.istore 4, 2) := by decide +kernel
theorem dX5_placesAfterWalk_96 : decode cX5_placesAfterWalk 96 = .ok (.iload 4, 2) := by decide +kernel
theorem dX5_placesAfterWalk_98 : decode cX5_placesAfterWalk 98 = .ok (.aload_n 1, 1) := by decide +kernel
theorem dX5_placesAfterWalk_99 : decode cX5_placesAfterWalk 99 = .ok (.iload 4, 2) := by decide +kernel
theorem dX5_placesAfterWalk_101 : decode cX5_placesAfterWalk 101 = .ok (.invokevirtual 83, 3) := by decide +kernel
theorem dX5_placesAfterWalk_104 : decode cX5_placesAfterWalk 104 = .ok (.ior, 1) := by decide +kernel
theorem dX5_placesAfterWalk_105 : decode cX5_placesAfterWalk 105 = .ok (.istore 4, 2) := by decide +kernel
theorem dX5_placesAfterWalk_107 : decode cX5_placesAfterWalk 107 = .ok (.iinc 5 (-1), 3) := by decide +kernel
theorem dX5_placesAfterWalk_110 : decode cX5_placesAfterWalk 110 = .ok (.goto (-33), 3) := by decide +kernel
theorem dX5_placesAfterWalk_113 : decode cX5_placesAfterWalk 113 = .ok (.iload 4, 2) := by decide +kernel
theorem dX5_placesAfterWalk_115 : decode cX5_placesAfterWalk 115 = .ok (.aload_n 0, 1) := by decide +kernel
theorem dX5_placesAfterWalk_116 : decode cX5_placesAfterWalk 116 = .ok (.getfield 23, 3) := by decide +kernel
theorem dX5_placesAfterWalk_119 : decode cX5_placesAfterWalk 119 = .ok (.iconst 0, 1) := by decide +kernel
theorem dX5_placesAfterWalk_120 : decode cX5_placesAfterWalk 120 = .ok (.invokevirtual 63, 3) := by decide +kernel
theorem dX5_placesAfterWalk_123 : decode cX5_placesAfterWalk 123 = .ok (.iand, 1) := by decide +kernel
theorem dX5_placesAfterWalk_124 : decode cX5_placesAfterWalk 124 = .ok (.ireturn, 1) := by decide +kernel
theorem dX5_paneToAsk_0 : decode cX5_paneToAsk 0 = .ok (.iload_n 2, 1) := by decide +kernel
theorem dX5_paneToAsk_1 : decode cX5_paneToAsk 1 = .ok (.invokestatic 78, 3) := by decide +kernel
theorem dX5_paneToAsk_4 : decode cX5_paneToAsk 4 = .ok (.iconst 2, 1) := by decide +kernel
theorem dX5_paneToAsk_5 : decode cX5_paneToAsk 5 = .ok (.if_icmp .ge 5, 3) := by decide +kernel
theorem dX5_paneToAsk_8 : decode cX5_paneToAsk 8 = .ok (.iconst (-1), 1) := by decide +kernel
theorem dX5_paneToAsk_9 : decode cX5_paneToAsk 9 = .ok (.ireturn, 1) := by decide +kernel
theorem dX5_paneToAsk_10 : decode cX5_paneToAsk 10 = .ok (.iconst (-1), 1) := by decide +kernel
theorem dX5_paneToAsk_11 : decode cX5_paneToAsk 11 = .ok (.istore_n 3, 1) := by decide +kernel
theorem dX5_paneToAsk_12 : decode cX5_paneToAsk 12 = .ok (.sipush 1000, 3) := by decide +kernel
theorem dX5_paneToAsk_15 : decode cX5_paneToAsk 15 = .ok (.istore 4, 2) := by decide +kernel
theorem dX5_paneToAsk_17 : decode cX5_paneToAsk 17 = .ok (.iconst 0, 1) := by decide +kernel
theorem dX5_paneToAsk_18 : decode cX5_paneToAsk 18 = .ok (.istore 5, 2) := by decide +kernel
theorem dX5_paneToAsk_20 : decode cX5_paneToAsk 20 = .ok (.iload 5, 2) := by decide +kernel
theorem dX5_paneToAsk_22 : decode cX5_paneToAsk 22 = .ok (.aload_n 1, 1) := by decide +kernel
theorem dX5_paneToAsk_23 : decode cX5_paneToAsk 23 = .ok (.getfield 35, 3) := by decide +kernel
theorem dX5_paneToAsk_26 : decode cX5_paneToAsk 26 = .ok (.if_icmp .ge 33, 3) := by decide +kernel
theorem dX5_paneToAsk_29 : decode cX5_paneToAsk 29 = .ok (.aload_n 0, 1) := by decide +kernel
theorem dX5_paneToAsk_30 : decode cX5_paneToAsk 30 = .ok (.aload_n 1, 1) := by decide +kernel
theorem dX5_paneToAsk_31 : decode cX5_paneToAsk 31 = .ok (.iload_n 2, 1) := by decide +kernel
theorem dX5_paneToAsk_32 : decode cX5_paneToAsk 32 = .ok (.iload 5, 2) := by decide +kernel
theorem dX5_paneToAsk_34 : decode cX5_paneToAsk 34 = .ok (.invokevirtual 99, 3) := by decide +kernel
theorem dX5_paneToAsk_37 : decode cX5_paneToAsk 37 = .ok (.istore 6, 2) := by decide +kernel
theorem dX5_paneToAsk_39 : decode cX5_paneToAsk 39 = .ok (.iload 6, 2) := by decide +kernel
theorem dX5_paneToAsk_41 : decode cX5_paneToAsk 41 = .ok (.iload 4, 2) := by decide +kernel
theorem dX5_paneToAsk_43 : decode cX5_paneToAsk 43 = .ok (.if_icmp .ge 10, 3) := by decide +kernel
theorem dX5_paneToAsk_46 : decode cX5_paneToAsk 46 = .ok (.iload 6, 2) := by decide +kernel
theorem dX5_paneToAsk_48 : decode cX5_paneToAsk 48 = .ok (.istore 4, 2) := by decide +kernel
theorem dX5_paneToAsk_50 : decode cX5_paneToAsk 50 = .ok (.iload 5, 2) := by decide +kernel
theorem dX5_paneToAsk_52 : decode cX5_paneToAsk 52 = .ok (.istore_n 3, 1) := by decide +kernel
theorem dX5_paneToAsk_53 : decode cX5_paneToAsk 53 = .ok (.iinc 5 1, 3) := by decide +kernel
theorem dX5_paneToAsk_56 : decode cX5_paneToAsk 56 = .ok (.goto (-36), 3) := by decide +kernel
theorem dX5_paneToAsk_59 : decode cX5_paneToAsk 59 = .ok (.iload_n 3, 1) := by decide +kernel
theorem dX5_paneToAsk_60 : decode cX5_paneToAsk 60 = .ok (.ireturn, 1) := by decide +kernel
theorem dX5_greatestPart_0 : decode cX5_greatestPart 0 = .ok (.iconst 0, 1) := by decide +kernel
theorem dX5_greatestPart_1 : decode cX5_greatestPart 1 = .ok (.istore 4, 2) := by decide +kernel
theorem dX5_greatestPart_3 : decode cX5_greatestPart 3 = .ok (.aload_n 0, 1) := by decide +kernel
theorem dX5_greatestPart_4 : decode cX5_greatestPart 4 = .ok (.getfield 26, 3) := by decide +kernel
theorem dX5_greatestPart_7 : decode cX5_greatestPart 7 = .ok (.iconst 0, 1) := by decide +kernel
theorem dX5_greatestPart_8 : decode cX5_greatestPart 8 = .ok (.invokevirtual 96, 3) := by decide +kernel
theorem dX5_greatestPart_11 : decode cX5_greatestPart 11 = .ok (.iconst 0, 1) := by decide +kernel
theorem dX5_greatestPart_12 : decode cX5_greatestPart 12 = .ok (.istore 5, 2) := by decide +kernel
theorem dX5_greatestPart_14 : decode cX5_greatestPart 14 = .ok (.iload 5, 2) := by decide +kernel
theorem dX5_greatestPart_16 : decode cX5_greatestPart 16 = .ok (.aload_n 1, 1) := by decide +kernel
theorem dX5_greatestPart_17 : decode cX5_greatestPart 17 = .ok (.getfield 35, 3) := by decide +kernel
theorem dX5_greatestPart_20 : decode cX5_greatestPart 20 = .ok (.if_icmp .ge 55, 3) := by decide +kernel
theorem dX5_greatestPart_23 : decode cX5_greatestPart 23 = .ok (.iload_n 2, 1) := by decide +kernel
theorem dX5_greatestPart_24 : decode cX5_greatestPart 24 = .ok (.iload 5, 2) := by decide +kernel
theorem dX5_greatestPart_26 : decode cX5_greatestPart 26 = .ok (.invokestatic 41, 3) := by decide +kernel
theorem dX5_greatestPart_29 : decode cX5_greatestPart 29 = .ok (.ifCond .eq 40, 3) := by decide +kernel
theorem dX5_greatestPart_32 : decode cX5_greatestPart 32 = .ok (.aload_n 1, 1) := by decide +kernel
theorem dX5_greatestPart_33 : decode cX5_greatestPart 33 = .ok (.iload_n 3, 1) := by decide +kernel
theorem dX5_greatestPart_34 : decode cX5_greatestPart 34 = .ok (.iload 5, 2) := by decide +kernel
theorem dX5_greatestPart_36 : decode cX5_greatestPart 36 = .ok (.invokevirtual 70, 3) := by decide +kernel
theorem dX5_greatestPart_39 : decode cX5_greatestPart 39 = .ok (.iconst (-1), 1) := by decide +kernel
theorem dX5_greatestPart_40 : decode cX5_greatestPart 40 = .ok (.isub, 1) := by decide +kernel
theorem dX5_greatestPart_41 : decode cX5_greatestPart 41 = .ok (.istore 6, 2) := by decide +kernel
theorem dX5_greatestPart_43 : decode cX5_greatestPart 43 = .ok (.aload_n 0, 1) := by decide +kernel
theorem dX5_greatestPart_44 : decode cX5_greatestPart 44 = .ok (.getfield 26, 3) := by decide +kernel
theorem dX5_greatestPart_47 : decode cX5_greatestPart 47 = .ok (.iload 6, 2) := by decide +kernel
theorem dX5_greatestPart_49 : decode cX5_greatestPart 49 = .ok (.iconst 1, 1) := by decide +kernel
theorem dX5_greatestPart_50 : decode cX5_greatestPart 50 = .ok (.invokevirtual 103, 3) := by decide +kernel
theorem dX5_greatestPart_53 : decode cX5_greatestPart 53 = .ok (.iload 4, 2) := by decide +kernel
theorem dX5_greatestPart_55 : decode cX5_greatestPart 55 = .ok (.aload_n 0, 1) := by decide +kernel
theorem dX5_greatestPart_56 : decode cX5_greatestPart 56 = .ok (.getfield 26, 3) := by decide +kernel
theorem dX5_greatestPart_59 : decode cX5_greatestPart 59 = .ok (.iload 6, 2) := by decide +kernel
theorem dX5_greatestPart_61 : decode cX5_greatestPart 61 = .ok (.invokevirtual 63, 3) := by decide +kernel
theorem dX5_greatestPart_64 : decode cX5_greatestPart 64 = .ok (.invokestatic 106, 3) := by decide +kernel
theorem dX5_greatestPart_67 : decode cX5_greatestPart 67 = .ok (.istore 4, 2) := by decide +kernel
theorem dX5_greatestPart_69 : decode cX5_greatestPart 69 = .ok (.iinc 5 1, 3) := by decide +kernel
theorem dX5_greatestPart_72 : decode cX5_greatestPart 72 = .ok (.goto (-58), 3) := by decide +kernel
theorem dX5_greatestPart_75 : decode cX5_greatestPart 75 = .ok (.iload 4, 2) := by decide +kernel
theorem dX5_greatestPart_77 : decode cX5_greatestPart 77 = .ok (.ireturn, 1) := by decide +kernel
theorem dX6_init_0 : decode cX6_init 0 = .ok (.aload_n 0, 1) := by decide +kernel
theorem dX6_init_1 : decode cX6_init 1 = .ok (.invokespecial 1, 3) := by decide +kernel
theorem dX6_init_4 : decode cX6_init 4 = .ok (.aload_n 0, 1) := by decide +kernel
theorem dX6_init_5 : decode cX6_init 5 = .ok (.iload_n 1, 1) := by decide +kernel
theorem dX6_init_6 : decode cX6_init 6 = .ok (.iconst 0, 1) := by decide +kernel
theorem dX6_init_7 : decode cX6_init 7 = .ok (.invokestatic 7, 3) := by decide +kernel
theorem dX6_init_10 : decode cX6_init 10 = .ok (.newarray .int, 2) := by decide +kernel
theorem dX6_init_12 : decode cX6_init 12 = .ok (.putfield 13, 3) := by decide +kernel
theorem dX6_init_15 : decode cX6_init 15 = .ok (.return_, 1) := by decide +kernel
theorem dX6_get_0 : decode cX6_get 0 = .ok (.iload_n 1, 1) := by decide +kernel
theorem dX6_get_1 : decode cX6_get 1 = .ok (.ifCond .lt 21, 3) := by decide +kernel
theorem dX6_get_4 : decode cX6_get 4 = .ok (.iload_n 1, 1) := by decide +kernel
theorem dX6_get_5 : decode cX6_get 5 = .ok (.aload_n 0, 1) := by decide +kernel
theorem dX6_get_6 : decode cX6_get 6 = .ok (.getfield 13, 3) := by decide +kernel
theorem dX6_get_9 : decode cX6_get 9 = .ok (.arraylength, 1) := by decide +kernel
theorem dX6_get_10 : decode cX6_get 10 = .ok (.if_icmp .ge 12, 3) := by decide +kernel
theorem dX6_get_13 : decode cX6_get 13 = .ok (.aload_n 0, 1) := by decide +kernel
theorem dX6_get_14 : decode cX6_get 14 = .ok (.getfield 13, 3) := by decide +kernel
theorem dX6_get_17 : decode cX6_get 17 = .ok (.iload_n 1, 1) := by decide +kernel
theorem dX6_get_18 : decode cX6_get 18 = .ok (.iaload, 1) := by decide +kernel
theorem dX6_get_19 : decode cX6_get 19 = .ok (.goto 4, 3) := by decide +kernel
theorem dX6_get_22 : decode cX6_get 22 = .ok (.iconst 0, 1) := by decide +kernel
theorem dX6_get_23 : decode cX6_get 23 = .ok (.ireturn, 1) := by decide +kernel
theorem dX6_set_0 : decode cX6_set 0 = .ok (.iload_n 1, 1) := by decide +kernel
theorem dX6_set_1 : decode cX6_set 1 = .ok (.ifCond .lt 19, 3) := by decide +kernel
theorem dX6_set_4 : decode cX6_set 4 = .ok (.iload_n 1, 1) := by decide +kernel
theorem dX6_set_5 : decode cX6_set 5 = .ok (.aload_n 0, 1) := by decide +kernel
theorem dX6_set_6 : decode cX6_set 6 = .ok (.getfield 13, 3) := by decide +kernel
theorem dX6_set_9 : decode cX6_set 9 = .ok (.arraylength, 1) := by decide +kernel
theorem dX6_set_10 : decode cX6_set 10 = .ok (.if_icmp .ge 10, 3) := by decide +kernel
theorem dX6_set_13 : decode cX6_set 13 = .ok (.aload_n 0, 1) := by decide +kernel
theorem dX6_set_14 : decode cX6_set 14 = .ok (.getfield 13, 3) := by decide +kernel
theorem dX6_set_17 : decode cX6_set 17 = .ok (.iload_n 1, 1) := by decide +kernel
theorem dX6_set_18 : decode cX6_set 18 = .ok (.iload_n 2, 1) := by decide +kernel
theorem dX6_set_19 : decode cX6_set 19 = .ok (.iastore, 1) := by decide +kernel
theorem dX6_set_20 : decode cX6_set 20 = .ok (.return_, 1) := by decide +kernel
theorem dX6_add_0 : decode cX6_add 0 = .ok (.iload_n 1, 1) := by decide +kernel
theorem dX6_add_1 : decode cX6_add 1 = .ok (.ifCond .lt 22, 3) := by decide +kernel
theorem dX6_add_4 : decode cX6_add 4 = .ok (.iload_n 1, 1) := by decide +kernel
theorem dX6_add_5 : decode cX6_add 5 = .ok (.aload_n 0, 1) := by decide +kernel
theorem dX6_add_6 : decode cX6_add 6 = .ok (.getfield 13, 3) := by decide +kernel
theorem dX6_add_9 : decode cX6_add 9 = .ok (.arraylength, 1) := by decide +kernel
theorem dX6_add_10 : decode cX6_add 10 = .ok (.if_icmp .ge 13, 3) := by decide +kernel
theorem dX6_add_13 : decode cX6_add 13 = .ok (.aload_n 0, 1) := by decide +kernel
theorem dX6_add_14 : decode cX6_add 14 = .ok (.getfield 13, 3) := by decide +kernel
theorem dX6_add_17 : decode cX6_add 17 = .ok (.iload_n 1, 1) := by decide +kernel
theorem dX6_add_18 : decode cX6_add 18 = .ok (.dup2, 1) := by decide +kernel
theorem dX6_add_19 : decode cX6_add 19 = .ok (.iaload, 1) := by decide +kernel
theorem dX6_add_20 : decode cX6_add 20 = .ok (.iload_n 2, 1) := by decide +kernel
theorem dX6_add_21 : decode cX6_add 21 = .ok (.iadd, 1) := by decide +kernel
theorem dX6_add_22 : decode cX6_add 22 = .ok (.iastore, 1) := by decide +kernel
theorem dX6_add_23 : decode cX6_add 23 = .ok (.return_, 1) := by decide +kernel
theorem dX6_fill_0 : decode cX6_fill 0 = .ok (.aload_n 0, 1) := by decide +kernel
theorem dX6_fill_1 : decode cX6_fill 1 = .ok (.getfield 13, 3) := by decide +kernel
theorem dX6_fill_4 : decode cX6_fill 4 = .ok (.iload_n 1, 1) := by decide +kernel
theorem dX6_fill_5 : decode cX6_fill 5 = .ok (.invokestatic 19, 3) := by decide +kernel
theorem dX6_fill_8 : decode cX6_fill 8 = .ok (.return_, 1) := by decide +kernel
theorem dX6_copyFrom_0 : decode cX6_copyFrom 0 = .ok (.aload_n 1, 1) := by decide +kernel
theorem dX6_copyFrom_1 : decode cX6_copyFrom 1 = .ok (.getfield 13, 3) := by decide +kernel
theorem dX6_copyFrom_4 : decode cX6_copyFrom 4 = .ok (.iconst 0, 1) := by decide +kernel
theorem dX6_copyFrom_5 : decode cX6_copyFrom 5 = .ok (.aload_n 0, 1) := by decide +kernel
theorem dX6_copyFrom_6 : decode cX6_copyFrom 6 = .ok (.getfield 13, 3) := by decide +kernel
theorem dX6_copyFrom_9 : decode cX6_copyFrom 9 = .ok (.iconst 0, 1) := by decide +kernel
theorem dX6_copyFrom_10 : decode cX6_copyFrom 10 = .ok (.aload_n 0, 1) := by decide +kernel
theorem dX6_copyFrom_11 : decode cX6_copyFrom 11 = .ok (.getfield 13, 3) := by decide +kernel
theorem dX6_copyFrom_14 : decode cX6_copyFrom 14 = .ok (.arraylength, 1) := by decide +kernel
theorem dX6_copyFrom_15 : decode cX6_copyFrom 15 = .ok (.aload_n 1, 1) := by decide +kernel
theorem dX6_copyFrom_16 : decode cX6_copyFrom 16 = .ok (.getfield 13, 3) := by decide +kernel
theorem dX6_copyFrom_19 : decode cX6_copyFrom 19 = .ok (.arraylength, 1) := by decide +kernel
theorem dX6_copyFrom_20 : decode cX6_copyFrom 20 = .ok (.invokestatic 25, 3) := by decide +kernel
theorem dX6_copyFrom_23 : decode cX6_copyFrom 23 = .ok (.invokestatic 28, 3) := by decide +kernel
theorem dX6_copyFrom_26 : decode cX6_copyFrom 26 = .ok (.return_, 1) := by decide +kernel
theorem dX7_init_0 : decode cX7_init 0 = .ok (.aload_n 0, 1) := by decide +kernel
theorem dX7_init_1 : decode cX7_init 1 = .ok (.invokespecial 3, 3) := by decide +kernel
theorem dX7_init_4 : decode cX7_init 4 = .ok (.aload_n 0, 1) := by decide +kernel
theorem dX7_init_5 : decode cX7_init 5 = .ok (.iconst 1, 1) := by decide +kernel
theorem dX7_init_6 : decode cX7_init 6 = .ok (.putfield 9, 3) := by decide +kernel
theorem dX7_init_9 : decode cX7_init 9 = .ok (.aload_n 0, 1) := by decide +kernel
theorem dX7_init_10 : decode cX7_init 10 = .ok (.new 15, 3) := by decide +kernel
theorem dX7_init_13 : decode cX7_init 13 = .ok (.dup, 1) := by decide +kernel
theorem dX7_init_14 : decode cX7_init 14 = .ok (.bipush 9, 2) := by decide +kernel
theorem dX7_init_16 : decode cX7_init 16 = .ok (.invokespecial 17, 3) := by decide +kernel
theorem dX7_init_19 : decode cX7_init 19 = .ok (.putfield 20, 3) := by decide +kernel
theorem dX7_init_22 : decode cX7_init 22 = .ok (.aload_n 0, 1) := by decide +kernel
theorem dX7_init_23 : decode cX7_init 23 = .ok (.new 15, 3) := by decide +kernel
theorem dX7_init_26 : decode cX7_init 26 = .ok (.dup, 1) := by decide +kernel
theorem dX7_init_27 : decode cX7_init 27 = .ok (.bipush 9, 2) := by decide +kernel
theorem dX7_init_29 : decode cX7_init 29 = .ok (.invokespecial 17, 3) := by decide +kernel
theorem dX7_init_32 : decode cX7_init 32 = .ok (.putfield 24, 3) := by decide +kernel
theorem dX7_init_35 : decode cX7_init 35 = .ok (.aload_n 0, 1) := by decide +kernel
theorem dX7_init_36 : decode cX7_init 36 = .ok (.new 15, 3) := by decide +kernel
theorem dX7_init_39 : decode cX7_init 39 = .ok (.dup, 1) := by decide +kernel
theorem dX7_init_40 : decode cX7_init 40 = .ok (.bipush 9, 2) := by decide +kernel
theorem dX7_init_42 : decode cX7_init 42 = .ok (.invokespecial 17, 3) := by decide +kernel
theorem dX7_init_45 : decode cX7_init 45 = .ok (.putfield 27, 3) := by decide +kernel
theorem dX7_init_48 : decode cX7_init 48 = .ok (.aload_n 0, 1) := by decide +kernel
theorem dX7_init_49 : decode cX7_init 49 = .ok (.new 15, 3) := by decide +kernel
theorem dX7_init_52 : decode cX7_init 52 = .ok (.dup, 1) := by decide +kernel
theorem dX7_init_53 : decode cX7_init 53 = .ok (.bipush 9, 2) := by decide +kernel
theorem dX7_init_55 : decode cX7_init 55 = .ok (.invokespecial 17, 3) := by decide +kernel
theorem dX7_init_58 : decode cX7_init 58 = .ok (.putfield 30, 3) := by decide +kernel
theorem dX7_init_61 : decode cX7_init 61 = .ok (.aload_n 0, 1) := by decide +kernel
theorem dX7_init_62 : decode cX7_init 62 = .ok (.new 15, 3) := by decide +kernel
theorem dX7_init_65 : decode cX7_init 65 = .ok (.dup, 1) := by decide +kernel
theorem dX7_init_66 : decode cX7_init 66 = .ok (.bipush 6, 2) := by decide +kernel
theorem dX7_init_68 : decode cX7_init 68 = .ok (.invokespecial 17, 3) := by decide +kernel
theorem dX7_init_71 : decode cX7_init 71 = .ok (.putfield 33, 3) := by decide +kernel
theorem dX7_init_74 : decode cX7_init 74 = .ok (.aload_n 0, 1) := by decide +kernel
theorem dX7_init_75 : decode cX7_init 75 = .ok (.new 15, 3) := by decide +kernel
theorem dX7_init_78 : decode cX7_init 78 = .ok (.dup, 1) := by decide +kernel
theorem dX7_init_79 : decode cX7_init 79 = .ok (.bipush 6, 2) := by decide +kernel
theorem dX7_init_81 : decode cX7_init 81 = .ok (.invokespecial 17, 3) := by decide +kernel
theorem dX7_init_84 : decode cX7_init 84 = .ok (.putfield 36, 3) := by decide +kernel
theorem dX7_init_87 : decode cX7_init 87 = .ok (.aload_n 0, 1) := by decide +kernel
theorem dX7_init_88 : decode cX7_init 88 = .ok (.new 15, 3) := by decide +kernel
theorem dX7_init_91 : decode cX7_init 91 = .ok (.dup, 1) := by decide +kernel
theorem dX7_init_92 : decode cX7_init 92 = .ok (.bipush 6, 2) := by decide +kernel
theorem dX7_init_94 : decode cX7_init 94 = .ok (.invokespecial 17, 3) := by decide +kernel
theorem dX7_init_97 : decode cX7_init 97 = .ok (.putfield 39, 3) := by decide +kernel
theorem dX7_init_100 : decode cX7_init 100 = .ok (.aload_n 0, 1) := by decide +kernel
theorem dX7_init_101 : decode cX7_init 101 = .ok (.new 15, 3) := by decide +kernel
theorem dX7_init_104 : decode cX7_init 104 = .ok (.dup, 1) := by decide +kernel
theorem dX7_init_105 : decode cX7_init 105 = .ok (.bipush 6, 2) := by decide +kernel
theorem dX7_init_107 : decode cX7_init 107 = .ok (.invokespecial 17, 3) := by decide +kernel
theorem dX7_init_110 : decode cX7_init 110 = .ok (.putfield 42, 3) := by decide +kernel
theorem dX7_init_113 : decode cX7_init 113 = .ok (.aload_n 0, 1) := by decide +kernel
theorem dX7_init_114 : decode cX7_init 114 = .ok (.new 15, 3) := by decide +kernel
theorem dX7_init_117 : decode cX7_init 117 = .ok (.dup, 1) := by decide +kernel
theorem dX7_init_118 : decode cX7_init 118 = .ok (.bipush 36, 2) := by decide +kernel
theorem dX7_init_120 : decode cX7_init 120 = .ok (.invokespecial 17, 3) := by decide +kernel
theorem dX7_init_123 : decode cX7_init 123 = .ok (.putfield 45, 3) := by decide +kernel
theorem dX7_init_126 : decode cX7_init 126 = .ok (.aload_n 0, 1) := by decide +kernel
theorem dX7_init_127 : decode cX7_init 127 = .ok (.new 15, 3) := by decide +kernel
theorem dX7_init_130 : decode cX7_init 130 = .ok (.dup, 1) := by decide +kernel
theorem dX7_init_131 : decode cX7_init 131 = .ok (.bipush 60, 2) := by decide +kernel
theorem dX7_init_133 : decode cX7_init 133 = .ok (.invokespecial 17, 3) := by decide +kernel
theorem dX7_init_136 : decode cX7_init 136 = .ok (.putfield 48, 3) := by decide +kernel
theorem dX7_init_139 : decode cX7_init 139 = .ok (.return_, 1) := by decide +kernel
theorem dX7_copyFrom_0 : decode cX7_copyFrom 0 = .ok (.aload_n 0, 1) := by decide +kernel
theorem dX7_copyFrom_1 : decode cX7_copyFrom 1 = .ok (.aload_n 1, 1) := by decide +kernel
theorem dX7_copyFrom_2 : decode cX7_copyFrom 2 = .ok (.getfield 51, 3) := by decide +kernel
theorem dX7_copyFrom_5 : decode cX7_copyFrom 5 = .ok (.putfield 51, 3) := by decide +kernel
theorem dX7_copyFrom_8 : decode cX7_copyFrom 8 = .ok (.aload_n 0, 1) := by decide +kernel
theorem dX7_copyFrom_9 : decode cX7_copyFrom 9 = .ok (.aload_n 1, 1) := by decide +kernel
theorem dX7_copyFrom_10 : decode cX7_copyFrom 10 = .ok (.getfield 54, 3) := by decide +kernel
theorem dX7_copyFrom_13 : decode cX7_copyFrom 13 = .ok (.putfield 54, 3) := by decide +kernel
theorem dX7_copyFrom_16 : decode cX7_copyFrom 16 = .ok (.aload_n 0, 1) := by decide +kernel
theorem dX7_copyFrom_17 : decode cX7_copyFrom 17 = .ok (.aload_n 1, 1) := by decide +kernel
theorem dX7_copyFrom_18 : decode cX7_copyFrom 18 = .ok (.getfield 57, 3) := by decide +kernel
theorem dX7_copyFrom_21 : decode cX7_copyFrom 21 = .ok (.putfield 57, 3) := by decide +kernel
theorem dX7_copyFrom_24 : decode cX7_copyFrom 24 = .ok (.aload_n 0, 1) := by decide +kernel
theorem dX7_copyFrom_25 : decode cX7_copyFrom 25 = .ok (.aload_n 1, 1) := by decide +kernel
theorem dX7_copyFrom_26 : decode cX7_copyFrom 26 = .ok (.getfield 60, 3) := by decide +kernel
theorem dX7_copyFrom_29 : decode cX7_copyFrom 29 = .ok (.putfield 60, 3) := by decide +kernel
theorem dX7_copyFrom_32 : decode cX7_copyFrom 32 = .ok (.aload_n 0, 1) := by decide +kernel
theorem dX7_copyFrom_33 : decode cX7_copyFrom 33 = .ok (.aload_n 1, 1) := by decide +kernel
theorem dX7_copyFrom_34 : decode cX7_copyFrom 34 = .ok (.getfield 63, 3) := by decide +kernel
theorem dX7_copyFrom_37 : decode cX7_copyFrom 37 = .ok (.putfield 63, 3) := by decide +kernel
theorem dX7_copyFrom_40 : decode cX7_copyFrom 40 = .ok (.aload_n 0, 1) := by decide +kernel
theorem dX7_copyFrom_41 : decode cX7_copyFrom 41 = .ok (.aload_n 1, 1) := by decide +kernel
theorem dX7_copyFrom_42 : decode cX7_copyFrom 42 = .ok (.getfield 66, 3) := by decide +kernel
theorem dX7_copyFrom_45 : decode cX7_copyFrom 45 = .ok (.putfield 66, 3) := by decide +kernel
theorem dX7_copyFrom_48 : decode cX7_copyFrom 48 = .ok (.aload_n 0, 1) := by decide +kernel
theorem dX7_copyFrom_49 : decode cX7_copyFrom 49 = .ok (.aload_n 1, 1) := by decide +kernel
theorem dX7_copyFrom_50 : decode cX7_copyFrom 50 = .ok (.getfield 69, 3) := by decide +kernel
theorem dX7_copyFrom_53 : decode cX7_copyFrom 53 = .ok (.putfield 69, 3) := by decide +kernel
theorem dX7_copyFrom_56 : decode cX7_copyFrom 56 = .ok (.aload_n 0, 1) := by decide +kernel
theorem dX7_copyFrom_57 : decode cX7_copyFrom 57 = .ok (.aload_n 1, 1) := by decide +kernel
theorem dX7_copyFrom_58 : decode cX7_copyFrom 58 = .ok (.getfield 9, 3) := by decide +kernel
theorem dX7_copyFrom_61 : decode cX7_copyFrom 61 = .ok (.putfield 9, 3) := by decide +kernel
theorem dX7_copyFrom_64 : decode cX7_copyFrom 64 = .ok (.aload_n 0, 1) := by decide +kernel
theorem dX7_copyFrom_65 : decode cX7_copyFrom 65 = .ok (.aload_n 1, 1) := by decide +kernel
theorem dX7_copyFrom_66 : decode cX7_copyFrom 66 = .ok (.getfield 73, 3) := by decide +kernel
theorem dX7_copyFrom_69 : decode cX7_copyFrom 69 = .ok (.putfield 73, 3) := by decide +kernel
theorem dX7_copyFrom_72 : decode cX7_copyFrom 72 = .ok (.aload_n 0, 1) := by decide +kernel
theorem dX7_copyFrom_73 : decode cX7_copyFrom 73 = .ok (.getfield 20, 3) := by decide +kernel
theorem dX7_copyFrom_76 : decode cX7_copyFrom 76 = .ok (.aload_n 1, 1) := by decide +kernel
theorem dX7_copyFrom_77 : decode cX7_copyFrom 77 = .ok (.getfield 20, 3) := by decide +kernel
theorem dX7_copyFrom_80 : decode cX7_copyFrom 80 = .ok (.invokevirtual 76, 3) := by decide +kernel
theorem dX7_copyFrom_83 : decode cX7_copyFrom 83 = .ok (.aload_n 0, 1) := by decide +kernel
theorem dX7_copyFrom_84 : decode cX7_copyFrom 84 = .ok (.getfield 24, 3) := by decide +kernel
theorem dX7_copyFrom_87 : decode cX7_copyFrom 87 = .ok (.aload_n 1, 1) := by decide +kernel
theorem dX7_copyFrom_88 : decode cX7_copyFrom 88 = .ok (.getfield 24, 3) := by decide +kernel
theorem dX7_copyFrom_91 : decode cX7_copyFrom 91 = .ok (.invokevirtual 76, 3) := by decide +kernel
theorem dX7_copyFrom_94 : decode cX7_copyFrom 94 = .ok (.aload_n 0, 1) := by decide +kernel
theorem dX7_copyFrom_95 : decode cX7_copyFrom 95 = .ok (.getfield 27, 3) := by decide +kernel
theorem dX7_copyFrom_98 : decode cX7_copyFrom 98 = .ok (.aload_n 1, 1) := by decide +kernel
theorem dX7_copyFrom_99 : decode cX7_copyFrom 99 = .ok (.getfield 27, 3) := by decide +kernel
theorem dX7_copyFrom_102 : decode cX7_copyFrom 102 = .ok (.invokevirtual 76, 3) := by decide +kernel
theorem dX7_copyFrom_105 : decode cX7_copyFrom 105 = .ok (.aload_n 0, 1) := by decide +kernel
theorem dX7_copyFrom_106 : decode cX7_copyFrom 106 = .ok (.getfield 30, 3) := by decide +kernel
theorem dX7_copyFrom_109 : decode cX7_copyFrom 109 = .ok (.aload_n 1, 1) := by decide +kernel
theorem dX7_copyFrom_110 : decode cX7_copyFrom 110 = .ok (.getfield 30, 3) := by decide +kernel
theorem dX7_copyFrom_113 : decode cX7_copyFrom 113 = .ok (.invokevirtual 76, 3) := by decide +kernel
theorem dX7_copyFrom_116 : decode cX7_copyFrom 116 = .ok (.aload_n 0, 1) := by decide +kernel
theorem dX7_copyFrom_117 : decode cX7_copyFrom 117 = .ok (.getfield 33, 3) := by decide +kernel
theorem dX7_copyFrom_120 : decode cX7_copyFrom 120 = .ok (.aload_n 1, 1) := by decide +kernel
theorem dX7_copyFrom_121 : decode cX7_copyFrom 121 = .ok (.getfield 33, 3) := by decide +kernel
theorem dX7_copyFrom_124 : decode cX7_copyFrom 124 = .ok (.invokevirtual 76, 3) := by decide +kernel
theorem dX7_copyFrom_127 : decode cX7_copyFrom 127 = .ok (.aload_n 0, 1) := by decide +kernel
theorem dX7_copyFrom_128 : decode cX7_copyFrom 128 = .ok (.getfield 36, 3) := by decide +kernel
theorem dX7_copyFrom_131 : decode cX7_copyFrom 131 = .ok (.aload_n 1, 1) := by decide +kernel
theorem dX7_copyFrom_132 : decode cX7_copyFrom 132 = .ok (.getfield 36, 3) := by decide +kernel
theorem dX7_copyFrom_135 : decode cX7_copyFrom 135 = .ok (.invokevirtual 76, 3) := by decide +kernel
theorem dX7_copyFrom_138 : decode cX7_copyFrom 138 = .ok (.aload_n 0, 1) := by decide +kernel
theorem dX7_copyFrom_139 : decode cX7_copyFrom 139 = .ok (.getfield 39, 3) := by decide +kernel
theorem dX7_copyFrom_142 : decode cX7_copyFrom 142 = .ok (.aload_n 1, 1) := by decide +kernel
theorem dX7_copyFrom_143 : decode cX7_copyFrom 143 = .ok (.getfield 39, 3) := by decide +kernel
theorem dX7_copyFrom_146 : decode cX7_copyFrom 146 = .ok (.invokevirtual 76, 3) := by decide +kernel
theorem dX7_copyFrom_149 : decode cX7_copyFrom 149 = .ok (.aload_n 0, 1) := by decide +kernel
theorem dX7_copyFrom_150 : decode cX7_copyFrom 150 = .ok (.getfield 42, 3) := by decide +kernel
theorem dX7_copyFrom_153 : decode cX7_copyFrom 153 = .ok (.aload_n 1, 1) := by decide +kernel
theorem dX7_copyFrom_154 : decode cX7_copyFrom 154 = .ok (.getfield 42, 3) := by decide +kernel
theorem dX7_copyFrom_157 : decode cX7_copyFrom 157 = .ok (.invokevirtual 76, 3) := by decide +kernel
theorem dX7_copyFrom_160 : decode cX7_copyFrom 160 = .ok (.aload_n 0, 1) := by decide +kernel
theorem dX7_copyFrom_161 : decode cX7_copyFrom 161 = .ok (.getfield 45, 3) := by decide +kernel
theorem dX7_copyFrom_164 : decode cX7_copyFrom 164 = .ok (.aload_n 1, 1) := by decide +kernel
theorem dX7_copyFrom_165 : decode cX7_copyFrom 165 = .ok (.getfield 45, 3) := by decide +kernel
theorem dX7_copyFrom_168 : decode cX7_copyFrom 168 = .ok (.invokevirtual 76, 3) := by decide +kernel
theorem dX7_copyFrom_171 : decode cX7_copyFrom 171 = .ok (.aload_n 0, 1) := by decide +kernel
theorem dX7_copyFrom_172 : decode cX7_copyFrom 172 = .ok (.getfield 48, 3) := by decide +kernel
theorem dX7_copyFrom_175 : decode cX7_copyFrom 175 = .ok (.aload_n 1, 1) := by decide +kernel
theorem dX7_copyFrom_176 : decode cX7_copyFrom 176 = .ok (.getfield 48, 3) := by decide +kernel
theorem dX7_copyFrom_179 : decode cX7_copyFrom 179 = .ok (.invokevirtual 76, 3) := by decide +kernel
theorem dX7_copyFrom_182 : decode cX7_copyFrom 182 = .ok (.aload_n 0, 1) := by decide +kernel
theorem dX7_copyFrom_183 : decode cX7_copyFrom 183 = .ok (.aload_n 1, 1) := by decide +kernel
theorem dX7_copyFrom_184 : decode cX7_copyFrom 184 = .ok (.getfield 80, 3) := by decide +kernel
theorem dX7_copyFrom_187 : decode cX7_copyFrom 187 = .ok (.putfield 80, 3) := by decide +kernel
theorem dX7_copyFrom_190 : decode cX7_copyFrom 190 = .ok (.return_, 1) := by decide +kernel
theorem dX7_addPane_0 : decode cX7_addPane 0 = .ok (.aload_n 0, 1) := by decide +kernel
theorem dX7_addPane_1 : decode cX7_addPane 1 = .ok (.getfield 51, 3) := by decide +kernel
theorem dX7_addPane_4 : decode cX7_addPane 4 = .ok (.istore_n 3, 1) := by decide +kernel
theorem dX7_addPane_5 : decode cX7_addPane 5 = .ok (.aload_n 0, 1) := by decide +kernel
theorem dX7_addPane_6 : decode cX7_addPane 6 = .ok (.dup, 1) := by decide +kernel
theorem dX7_addPane_7 : decode cX7_addPane 7 = .ok (.getfield 51, 3) := by decide +kernel
theorem dX7_addPane_10 : decode cX7_addPane 10 = .ok (.iconst 1, 1) := by decide +kernel
theorem dX7_addPane_11 : decode cX7_addPane 11 = .ok (.iadd, 1) := by decide +kernel
theorem dX7_addPane_12 : decode cX7_addPane 12 = .ok (.putfield 51, 3) := by decide +kernel
theorem dX7_addPane_15 : decode cX7_addPane 15 = .ok (.aload_n 0, 1) := by decide +kernel
theorem dX7_addPane_16 : decode cX7_addPane 16 = .ok (.getfield 20, 3) := by decide +kernel
theorem dX7_addPane_19 : decode cX7_addPane 19 = .ok (.iload_n 3, 1) := by decide +kernel
theorem dX7_addPane_20 : decode cX7_addPane 20 = .ok (.iload_n 1, 1) := by decide +kernel
theorem dX7_addPane_21 : decode cX7_addPane 21 = .ok (.invokevirtual 83, 3) := by decide +kernel
theorem dX7_addPane_24 : decode cX7_addPane 24 = .ok (.aload_n 0, 1) := by decide +kernel
theorem dX7_addPane_25 : decode cX7_addPane 25 = .ok (.getfield 24, 3) := by decide +kernel
theorem dX7_addPane_28 : decode cX7_addPane 28 = .ok (.iload_n 3, 1) := by decide +kernel
theorem dX7_addPane_29 : decode cX7_addPane 29 = .ok (.iconst (-1), 1) := by decide +kernel
theorem dX7_addPane_30 : decode cX7_addPane 30 = .ok (.invokevirtual 83, 3) := by decide +kernel
theorem dX7_addPane_33 : decode cX7_addPane 33 = .ok (.aload_n 0, 1) := by decide +kernel
theorem dX7_addPane_34 : decode cX7_addPane 34 = .ok (.getfield 27, 3) := by decide +kernel
theorem dX7_addPane_37 : decode cX7_addPane 37 = .ok (.iload_n 3, 1) := by decide +kernel
theorem dX7_addPane_38 : decode cX7_addPane 38 = .ok (.iconst 0, 1) := by decide +kernel
theorem dX7_addPane_39 : decode cX7_addPane 39 = .ok (.invokevirtual 83, 3) := by decide +kernel
theorem dX7_addPane_42 : decode cX7_addPane 42 = .ok (.aload_n 0, 1) := by decide +kernel
theorem dX7_addPane_43 : decode cX7_addPane 43 = .ok (.getfield 30, 3) := by decide +kernel
theorem dX7_addPane_46 : decode cX7_addPane 46 = .ok (.iload_n 3, 1) := by decide +kernel
theorem dX7_addPane_47 : decode cX7_addPane 47 = .ok (.iconst 0, 1) := by decide +kernel
theorem dX7_addPane_48 : decode cX7_addPane 48 = .ok (.invokevirtual 83, 3) := by decide +kernel
theorem dX7_addPane_51 : decode cX7_addPane 51 = .ok (.iload_n 2, 1) := by decide +kernel
theorem dX7_addPane_52 : decode cX7_addPane 52 = .ok (.ifCond .eq 16, 3) := by decide +kernel
theorem dX7_addPane_55 : decode cX7_addPane 55 = .ok (.aload_n 0, 1) := by decide +kernel
theorem dX7_addPane_56 : decode cX7_addPane 56 = .ok (.dup, 1) := by decide +kernel
theorem dX7_addPane_57 : decode cX7_addPane 57 = .ok (.getfield 73, 3) := by decide +kernel
theorem dX7_addPane_60 : decode cX7_addPane 60 = .ok (.iload_n 3, 1) := by decide +kernel
theorem dX7_addPane_61 : decode cX7_addPane 61 = .ok (.invokestatic 87, 3) := by decide +kernel
theorem dX7_addPane_64 : decode cX7_addPane 64 = .ok (.ior, 1) := by decide +kernel
theorem dX7_addPane_65 : decode cX7_addPane 65 = .ok (.putfield 73, 3) := by decide +kernel
theorem dX7_addPane_68 : decode cX7_addPane 68 = .ok (.return_, 1) := by decide +kernel
theorem dX7_addWalker_0 : decode cX7_addWalker 0 = .ok (.aload_n 0, 1) := by decide +kernel
theorem dX7_addWalker_1 : decode cX7_addWalker 1 = .ok (.getfield 54, 3) := by decide +kernel
theorem dX7_addWalker_4 : decode cX7_addWalker 4 = .ok (.istore 4, 2) := by decide +kernel
theorem dX7_addWalker_6 : decode cX7_addWalker 6 = .ok (.aload_n 0, 1) := by decide +kernel
theorem dX7_addWalker_7 : decode cX7_addWalker 7 = .ok (.dup, 1) := by decide +kernel
theorem dX7_addWalker_8 : decode cX7_addWalker 8 = .ok (.getfield 54, 3) := by decide +kernel
theorem dX7_addWalker_11 : decode cX7_addWalker 11 = .ok (.iconst 1, 1) := by decide +kernel
theorem dX7_addWalker_12 : decode cX7_addWalker 12 = .ok (.iadd, 1) := by decide +kernel
theorem dX7_addWalker_13 : decode cX7_addWalker 13 = .ok (.putfield 54, 3) := by decide +kernel
theorem dX7_addWalker_16 : decode cX7_addWalker 16 = .ok (.aload_n 0, 1) := by decide +kernel
theorem dX7_addWalker_17 : decode cX7_addWalker 17 = .ok (.getfield 33, 3) := by decide +kernel
theorem dX7_addWalker_20 : decode cX7_addWalker 20 = .ok (.iload 4, 2) := by decide +kernel
theorem dX7_addWalker_22 : decode cX7_addWalker 22 = .ok (.iload_n 1, 1) := by decide +kernel
theorem dX7_addWalker_23 : decode cX7_addWalker 23 = .ok (.invokevirtual 83, 3) := by decide +kernel
theorem dX7_addWalker_26 : decode cX7_addWalker 26 = .ok (.aload_n 0, 1) := by decide +kernel
theorem dX7_addWalker_27 : decode cX7_addWalker 27 = .ok (.getfield 36, 3) := by decide +kernel
theorem dX7_addWalker_30 : decode cX7_addWalker 30 = .ok (.iload 4, 2) := by decide +kernel
theorem dX7_addWalker_32 : decode cX7_addWalker 32 = .ok (.iload_n 2, 1) := by decide +kernel
theorem dX7_addWalker_33 : decode cX7_addWalker 33 = .ok (.invokevirtual 83, 3) := by decide +kernel
theorem dX7_addWalker_36 : decode cX7_addWalker 36 = .ok (.aload_n 0, 1) := by decide +kernel
theorem dX7_addWalker_37 : decode cX7_addWalker 37 = .ok (.getfield 39, 3) := by decide +kernel
theorem dX7_addWalker_40 : decode cX7_addWalker 40 = .ok (.iload 4, 2) := by decide +kernel
theorem dX7_addWalker_42 : decode cX7_addWalker 42 = .ok (.iload_n 3, 1) := by decide +kernel
theorem dX7_addWalker_43 : decode cX7_addWalker 43 = .ok (.invokevirtual 83, 3) := by decide +kernel
theorem dX7_addWalker_46 : decode cX7_addWalker 46 = .ok (.aload_n 0, 1) := by decide +kernel
theorem dX7_addWalker_47 : decode cX7_addWalker 47 = .ok (.getfield 42, 3) := by decide +kernel
theorem dX7_addWalker_50 : decode cX7_addWalker 50 = .ok (.iload 4, 2) := by decide +kernel
theorem dX7_addWalker_52 : decode cX7_addWalker 52 = .ok (.iconst 0, 1) := by decide +kernel
theorem dX7_addWalker_53 : decode cX7_addWalker 53 = .ok (.invokevirtual 83, 3) := by decide +kernel
theorem dX7_addWalker_56 : decode cX7_addWalker 56 = .ok (.iconst 0, 1) := by decide +kernel
theorem dX7_addWalker_57 : decode cX7_addWalker 57 = .ok (.istore 5, 2) := by decide +kernel
theorem dX7_addWalker_59 : decode cX7_addWalker 59 = .ok (.iload 5, 2) := by decide +kernel
theorem dX7_addWalker_61 : decode cX7_addWalker 61 = .ok (.iload 4, 2) := by decide +kernel
theorem dX7_addWalker_63 : decode cX7_addWalker 63 = .ok (.if_icmp .ge 27, 3) := by decide +kernel
theorem dX7_addWalker_66 : decode cX7_addWalker 66 = .ok (.aload_n 0, 1) := by decide +kernel
theorem dX7_addWalker_67 : decode cX7_addWalker 67 = .ok (.iload 4, 2) := by decide +kernel
theorem dX7_addWalker_69 : decode cX7_addWalker 69 = .ok (.iload 5, 2) := by decide +kernel
theorem dX7_addWalker_71 : decode cX7_addWalker 71 = .ok (.iconst 5, 1) := by decide +kernel
theorem dX7_addWalker_72 : decode cX7_addWalker 72 = .ok (.invokevirtual 91, 3) := by decide +kernel
theorem dX7_addWalker_75 : decode cX7_addWalker 75 = .ok (.aload_n 0, 1) := by decide +kernel
theorem dX7_addWalker_76 : decode cX7_addWalker 76 = .ok (.iload 5, 2) := by decide +kernel
theorem dX7_addWalker_78 : decode cX7_addWalker 78 = .ok (.iload 4, 2) := by decide +kernel
theorem dX7_addWalker_80 : decode cX7_addWalker 80 = .ok (.iconst 5, 1) := by decide +kernel
theorem dX7_addWalker_81 : decode cX7_addWalker 81 = .ok (.invokevirtual 91, 3) := by decide +kernel
theorem dX7_addWalker_84 : decode cX7_addWalker 84 = .ok (.iinc 5 1, 3) := by decide +kernel
theorem dX7_addWalker_87 : decode cX7_addWalker 87 = .ok (.goto (-28), 3) := by decide +kernel
theorem dX7_addWalker_90 : decode cX7_addWalker 90 = .ok (.return_, 1) := by decide +kernel
theorem dX7_isBurning_0 : decode cX7_isBurning 0 = .ok (.aload_n 0, 1) := by decide +kernel
theorem dX7_isBurning_1 : decode cX7_isBurning 1 = .ok (.getfield 73, 3) := by decide +kernel
theorem dX7_isBurning_4 : decode cX7_isBurning 4 = .ok (.iload_n 1, 1) := by decide +kernel
theorem dX7_isBurning_5 : decode cX7_isBurning 5 = .ok (.invokestatic 95, 3) := by decide +kernel
theorem dX7_isBurning_8 : decode cX7_isBurning 8 = .ok (.ireturn, 1) := by decide +kernel
theorem dX7_hasWay_0 : decode cX7_hasWay 0 = .ok (.aload_n 0, 1) := by decide +kernel
theorem dX7_hasWay_1 : decode cX7_hasWay 1 = .ok (.getfield 30, 3) := by decide +kernel
theorem dX7_hasWay_4 : decode cX7_hasWay 4 = .ok (.iload_n 1, 1) := by decide +kernel
theorem dX7_hasWay_5 : decode cX7_hasWay 5 = .ok (.invokevirtual 99, 3) := by decide +kernel
theorem dX7_hasWay_8 : decode cX7_hasWay 8 = .ok (.iload_n 2, 1) := by decide +kernel
theorem dX7_hasWay_9 : decode cX7_hasWay 9 = .ok (.invokestatic 95, 3) := by decide +kernel
theorem dX7_hasWay_12 : decode cX7_hasWay 12 = .ok (.ireturn, 1) := by decide +kernel
theorem dX7_setWay_0 : decode cX7_setWay 0 = .ok (.iload_n 3, 1) := by decide +kernel
theorem dX7_setWay_1 : decode cX7_setWay 1 = .ok (.ifCond .eq 48, 3) := by decide +kernel
theorem dX7_setWay_4 : decode cX7_setWay 4 = .ok (.aload_n 0, 1) := by decide +kernel
theorem dX7_setWay_5 : decode cX7_setWay 5 = .ok (.getfield 30, 3) := by decide +kernel
theorem dX7_setWay_8 : decode cX7_setWay 8 = .ok (.iload_n 1, 1) := by decide +kernel
theorem dX7_setWay_9 : decode cX7_setWay 9 = .ok (.aload_n 0, 1) := by decide +kernel
theorem dX7_setWay_10 : decode cX7_setWay 10 = .ok (.getfield 30, 3) := by decide +kernel
theorem dX7_setWay_13 : decode cX7_setWay 13 = .ok (.iload_n 1, 1) := by decide +kernel
theorem dX7_setWay_14 : decode cX7_setWay 14 = .ok (.invokevirtual 99, 3) := by decide +kernel
theorem dX7_setWay_17 : decode cX7_setWay 17 = .ok (.iload_n 2, 1) := by decide +kernel
theorem dX7_setWay_18 : decode cX7_setWay 18 = .ok (.invokestatic 87, 3) := by decide +kernel
theorem dX7_setWay_21 : decode cX7_setWay 21 = .ok (.ior, 1) := by decide +kernel
theorem dX7_setWay_22 : decode cX7_setWay 22 = .ok (.invokevirtual 83, 3) := by decide +kernel
theorem dX7_setWay_25 : decode cX7_setWay 25 = .ok (.aload_n 0, 1) := by decide +kernel
theorem dX7_setWay_26 : decode cX7_setWay 26 = .ok (.getfield 30, 3) := by decide +kernel
theorem dX7_setWay_29 : decode cX7_setWay 29 = .ok (.iload_n 2, 1) := by decide +kernel
theorem dX7_setWay_30 : decode cX7_setWay 30 = .ok (.aload_n 0, 1) := by decide +kernel
theorem dX7_setWay_31 : decode cX7_setWay 31 = .ok (.getfield 30, 3) := by decide +kernel
theorem dX7_setWay_34 : decode cX7_setWay 34 = .ok (.iload_n 2, 1) := by decide +kernel
theorem dX7_setWay_35 : decode cX7_setWay 35 = .ok (.invokevirtual 99, 3) := by decide +kernel
theorem dX7_setWay_38 : decode cX7_setWay 38 = .ok (.iload_n 1, 1) := by decide +kernel
theorem dX7_setWay_39 : decode cX7_setWay 39 = .ok (.invokestatic 87, 3) := by decide +kernel
theorem dX7_setWay_42 : decode cX7_setWay 42 = .ok (.ior, 1) := by decide +kernel
theorem dX7_setWay_43 : decode cX7_setWay 43 = .ok (.invokevirtual 83, 3) := by decide +kernel
theorem dX7_setWay_46 : decode cX7_setWay 46 = .ok (.goto 49, 3) := by decide +kernel
theorem dX7_setWay_49 : decode cX7_setWay 49 = .ok (.aload_n 0, 1) := by decide +kernel
theorem dX7_setWay_50 : decode cX7_setWay 50 = .ok (.getfield 30, 3) := by decide +kernel
theorem dX7_setWay_53 : decode cX7_setWay 53 = .ok (.iload_n 1, 1) := by decide +kernel
