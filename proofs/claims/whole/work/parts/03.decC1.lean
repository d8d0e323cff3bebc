theorem dX7_setWay_54 : decode cX7_setWay 54 = .ok (.aload_n 0, 1) := by decide +kernel
theorem dX7_setWay_55 : decode cX7_setWay 55 = .ok (.getfield 30, 3) := by decide +kernel
theorem dX7_setWay_58 : decode cX7_setWay 58 = .ok (.iload_n 1, 1) := by decide +kernel
theorem dX7_setWay_59 : decode cX7_setWay 59 = .ok (.invokevirtual 99, 3) := by decide +kernel
theorem dX7_setWay_62 : decode cX7_setWay 62 = .ok (.iload_n 2, 1) := by decide +kernel
theorem dX7_setWay_63 : decode cX7_setWay 63 = .ok (.invokestatic 87, 3) := by decide +kernel
theorem dX7_setWay_66 : decode cX7_setWay 66 = .ok (.iconst (-1), 1) := by decide +kernel
theorem dX7_setWay_67 : decode cX7_setWay 67 = .ok (.ixor, 1) := by decide +kernel
theorem dX7_setWay_68 : decode cX7_setWay 68 = .ok (.iand, 1) := by decide +kernel
theorem dX7_setWay_69 : decode cX7_setWay 69 = .ok (.invokevirtual 83, 3) := by decide +kernel
theorem dX7_setWay_72 : decode cX7_setWay 72 = .ok (.aload_n 0, 1) := by decide +kernel
theorem dX7_setWay_73 : decode cX7_setWay 73 = .ok (.getfield 30, 3) := by decide +kernel
theorem dX7_setWay_76 : decode cX7_setWay 76 = .ok (.iload_n 2, 1) := by decide +kernel
theorem dX7_setWay_77 : decode cX7_setWay 77 = .ok (.aload_n 0, 1) := by decide +kernel
theorem dX7_setWay_78 : decode cX7_setWay 78 = .ok (.getfield 30, 3) := by decide +kernel
theorem dX7_setWay_81 : decode cX7_setWay 81 = .ok (.iload_n 2, 1) := by decide +kernel
theorem dX7_setWay_82 : decode cX7_setWay 82 = .ok (.invokevirtual 99, 3) := by decide +kernel
theorem dX7_setWay_85 : decode cX7_setWay 85 = .ok (.iload_n 1, 1) := by decide +kernel
theorem dX7_setWay_86 : decode cX7_setWay 86 = .ok (.invokestatic 87, 3) := by decide +kernel
theorem dX7_setWay_89 : decode cX7_setWay 89 = .ok (.iconst (-1), 1) := by decide +kernel
theorem dX7_setWay_90 : decode cX7_setWay 90 = .ok (.ixor, 1) := by decide +kernel
theorem dX7_setWay_91 : decode cX7_setWay 91 = .ok (.iand, 1) := by decide +kernel
theorem dX7_setWay_92 : decode cX7_setWay 92 = .ok (.invokevirtual 83, 3) := by decide +kernel
theorem dX7_setWay_95 : decode cX7_setWay 95 = .ok (.return_, 1) := by decide +kernel
theorem dX7_likesOf_0 : decode cX7_likesOf 0 = .ok (.aload_n 0, 1) := by decide +kernel
theorem dX7_likesOf_1 : decode cX7_likesOf 1 = .ok (.getfield 45, 3) := by decide +kernel
theorem dX7_likesOf_4 : decode cX7_likesOf 4 = .ok (.iload_n 1, 1) := by decide +kernel
theorem dX7_likesOf_5 : decode cX7_likesOf 5 = .ok (.bipush 6, 2) := by decide +kernel
theorem dX7_likesOf_7 : decode cX7_likesOf 7 = .ok (.imul, 1) := by decide +kernel
theorem dX7_likesOf_8 : decode cX7_likesOf 8 = .ok (.iload_n 2, 1) := by decide +kernel
theorem dX7_likesOf_9 : decode cX7_likesOf 9 = .ok (.iadd, 1) := by decide +kernel
theorem dX7_likesOf_10 : decode cX7_likesOf 10 = .ok (.invokevirtual 99, 3) := by decide +kernel
theorem dX7_likesOf_13 : decode cX7_likesOf 13 = .ok (.ireturn, 1) := by decide +kernel
theorem dX7_setLikes_0 : decode cX7_setLikes 0 = .ok (.aload_n 0, 1) := by decide +kernel
theorem dX7_setLikes_1 : decode cX7_setLikes 1 = .ok (.getfield 45, 3) := by decide +kernel
theorem dX7_setLikes_4 : decode cX7_setLikes 4 = .ok (.iload_n 1, 1) := by decide +kernel
theorem dX7_setLikes_5 : decode cX7_setLikes 5 = .ok (.bipush 6, 2) := by decide +kernel
theorem dX7_setLikes_7 : decode cX7_setLikes 7 = .ok (.imul, 1) := by decide +kernel
theorem dX7_setLikes_8 : decode cX7_setLikes 8 = .ok (.iload_n 2, 1) := by decide +kernel
theorem dX7_setLikes_9 : decode cX7_setLikes 9 = .ok (.iadd, 1) := by decide +kernel
theorem dX7_setLikes_10 : decode cX7_setLikes 10 = .ok (.iload_n 3, 1) := by decide +kernel
theorem dX7_setLikes_11 : decode cX7_setLikes 11 = .ok (.invokevirtual 83, 3) := by decide +kernel
theorem dX7_setLikes_14 : decode cX7_setLikes 14 = .ok (.return_, 1) := by decide +kernel
theorem dX7_likesFor_0 : decode cX7_likesFor 0 = .ok (.aload_n 0, 1) := by decide +kernel
theorem dX7_likesFor_1 : decode cX7_likesFor 1 = .ok (.getfield 24, 3) := by decide +kernel
theorem dX7_likesFor_4 : decode cX7_likesFor 4 = .ok (.iload_n 2, 1) := by decide +kernel
theorem dX7_likesFor_5 : decode cX7_likesFor 5 = .ok (.invokevirtual 99, 3) := by decide +kernel
theorem dX7_likesFor_8 : decode cX7_likesFor 8 = .ok (.istore_n 3, 1) := by decide +kernel
theorem dX7_likesFor_9 : decode cX7_likesFor 9 = .ok (.iload_n 3, 1) := by decide +kernel
theorem dX7_likesFor_10 : decode cX7_likesFor 10 = .ok (.iconst (-1), 1) := by decide +kernel
theorem dX7_likesFor_11 : decode cX7_likesFor 11 = .ok (.if_icmp .eq 8, 3) := by decide +kernel
theorem dX7_likesFor_14 : decode cX7_likesFor 14 = .ok (.iload_n 3, 1) := by decide +kernel
theorem dX7_likesFor_15 : decode cX7_likesFor 15 = .ok (.iload_n 1, 1) := by decide +kernel
theorem dX7_likesFor_16 : decode cX7_likesFor 16 = .ok (.if_icmp .ne 7, 3) := by decide +kernel
theorem dX7_likesFor_19 : decode cX7_likesFor 19 = .ok (.iconst 5, 1) := by decide +kernel
theorem dX7_likesFor_20 : decode cX7_likesFor 20 = .ok (.goto 9, 3) := by decide +kernel
theorem dX7_likesFor_23 : decode cX7_likesFor 23 = .ok (.aload_n 0, 1) := by decide +kernel
theorem dX7_likesFor_24 : decode cX7_likesFor 24 = .ok (.iload_n 1, 1) := by decide +kernel
theorem dX7_likesFor_25 : decode cX7_likesFor 25 = .ok (.iload_n 3, 1) := by decide +kernel
theorem dX7_likesFor_26 : decode cX7_likesFor 26 = .ok (.invokevirtual 102, 3) := by decide +kernel
theorem dX7_likesFor_29 : decode cX7_likesFor 29 = .ok (.ireturn, 1) := by decide +kernel
theorem dX7_paneOf_0 : decode cX7_paneOf 0 = .ok (.iconst 0, 1) := by decide +kernel
theorem dX7_paneOf_1 : decode cX7_paneOf 1 = .ok (.istore_n 2, 1) := by decide +kernel
theorem dX7_paneOf_2 : decode cX7_paneOf 2 = .ok (.iload_n 2, 1) := by decide +kernel
theorem dX7_paneOf_3 : decode cX7_paneOf 3 = .ok (.aload_n 0, 1) := by decide +kernel
theorem dX7_paneOf_4 : decode cX7_paneOf 4 = .ok (.getfield 51, 3) := by decide +kernel
theorem dX7_paneOf_7 : decode cX7_paneOf 7 = .ok (.if_icmp .ge 23, 3) := by decide +kernel
theorem dX7_paneOf_10 : decode cX7_paneOf 10 = .ok (.aload_n 0, 1) := by decide +kernel
theorem dX7_paneOf_11 : decode cX7_paneOf 11 = .ok (.getfield 24, 3) := by decide +kernel
theorem dX7_paneOf_14 : decode cX7_paneOf 14 = .ok (.iload_n 2, 1) := by decide +kernel
theorem dX7_paneOf_15 : decode cX7_paneOf 15 = .ok (.invokevirtual 99, 3) := by decide +kernel
theorem dX7_paneOf_18 : decode cX7_paneOf 18 = .ok (.iload_n 1, 1) := by decide +kernel
theorem dX7_paneOf_19 : decode cX7_paneOf 19 = .ok (.if_icmp .ne 5, 3) := by decide +kernel
theorem dX7_paneOf_22 : decode cX7_paneOf 22 = .ok (.iload_n 2, 1) := by decide +kernel
theorem dX7_paneOf_23 : decode cX7_paneOf 23 = .ok (.ireturn, 1) := by decide +kernel
theorem dX7_paneOf_24 : decode cX7_paneOf 24 = .ok (.iinc 2 1, 3) := by decide +kernel
theorem dX7_paneOf_27 : decode cX7_paneOf 27 = .ok (.goto (-25), 3) := by decide +kernel
theorem dX7_paneOf_30 : decode cX7_paneOf 30 = .ok (.iconst (-1), 1) := by decide +kernel
theorem dX7_paneOf_31 : decode cX7_paneOf 31 = .ok (.ireturn, 1) := by decide +kernel
theorem dX7_around_0 : decode cX7_around 0 = .ok (.iconst 0, 1) := by decide +kernel
theorem dX7_around_1 : decode cX7_around 1 = .ok (.istore_n 2, 1) := by decide +kernel
theorem dX7_around_2 : decode cX7_around 2 = .ok (.iconst 0, 1) := by decide +kernel
theorem dX7_around_3 : decode cX7_around 3 = .ok (.istore_n 3, 1) := by decide +kernel
theorem dX7_around_4 : decode cX7_around 4 = .ok (.iload_n 3, 1) := by decide +kernel
theorem dX7_around_5 : decode cX7_around 5 = .ok (.aload_n 0, 1) := by decide +kernel
theorem dX7_around_6 : decode cX7_around 6 = .ok (.getfield 51, 3) := by decide +kernel
theorem dX7_around_9 : decode cX7_around 9 = .ok (.if_icmp .ge 28, 3) := by decide +kernel
theorem dX7_around_12 : decode cX7_around 12 = .ok (.iload_n 1, 1) := by decide +kernel
theorem dX7_around_13 : decode cX7_around 13 = .ok (.iload_n 3, 1) := by decide +kernel
theorem dX7_around_14 : decode cX7_around 14 = .ok (.invokestatic 95, 3) := by decide +kernel
theorem dX7_around_17 : decode cX7_around 17 = .ok (.ifCond .eq 14, 3) := by decide +kernel
theorem dX7_around_20 : decode cX7_around 20 = .ok (.iload_n 2, 1) := by decide +kernel
theorem dX7_around_21 : decode cX7_around 21 = .ok (.aload_n 0, 1) := by decide +kernel
theorem dX7_around_22 : decode cX7_around 22 = .ok (.getfield 30, 3) := by decide +kernel
theorem dX7_around_25 : decode cX7_around 25 = .ok (.iload_n 3, 1) := by decide +kernel
theorem dX7_around_26 : decode cX7_around 26 = .ok (.invokevirtual 99, 3) := by decide +kernel
theorem dX7_around_29 : decode cX7_around 29 = .ok (.ior, 1) := by decide +kernel
theorem dX7_around_30 : decode cX7_around 30 = .ok (.istore_n 2, 1) := by decide +kernel
theorem dX7_around_31 : decode cX7_around 31 = .ok (.iinc 3 1, 3) := by decide +kernel
theorem dX7_around_34 : decode cX7_around 34 = .ok (.goto (-30), 3) := by decide +kernel
theorem dX7_around_37 : decode cX7_around 37 = .ok (.iload_n 2, 1) := by decide +kernel
theorem dX7_around_38 : decode cX7_around 38 = .ok (.ireturn, 1) := by decide +kernel
theorem dX7_farOf_0 : decode cX7_farOf 0 = .ok (.iload_n 1, 1) := by decide +kernel
theorem dX7_farOf_1 : decode cX7_farOf 1 = .ok (.invokestatic 87, 3) := by decide +kernel
theorem dX7_farOf_4 : decode cX7_farOf 4 = .ok (.istore_n 3, 1) := by decide +kernel
theorem dX7_farOf_5 : decode cX7_farOf 5 = .ok (.iconst 0, 1) := by decide +kernel
theorem dX7_farOf_6 : decode cX7_farOf 6 = .ok (.istore 4, 2) := by decide +kernel
theorem dX7_farOf_8 : decode cX7_farOf 8 = .ok (.iload 4, 2) := by decide +kernel
theorem dX7_farOf_10 : decode cX7_farOf 10 = .ok (.bipush 9, 2) := by decide +kernel
theorem dX7_farOf_12 : decode cX7_farOf 12 = .ok (.if_icmp .ge 28, 3) := by decide +kernel
theorem dX7_farOf_15 : decode cX7_farOf 15 = .ok (.iload_n 3, 1) := by decide +kernel
theorem dX7_farOf_16 : decode cX7_farOf 16 = .ok (.iload_n 2, 1) := by decide +kernel
theorem dX7_farOf_17 : decode cX7_farOf 17 = .ok (.invokestatic 95, 3) := by decide +kernel
theorem dX7_farOf_20 : decode cX7_farOf 20 = .ok (.ifCond .eq 6, 3) := by decide +kernel
theorem dX7_farOf_23 : decode cX7_farOf 23 = .ok (.iload 4, 2) := by decide +kernel
theorem dX7_farOf_25 : decode cX7_farOf 25 = .ok (.ireturn, 1) := by decide +kernel
theorem dX7_farOf_26 : decode cX7_farOf 26 = .ok (.iload_n 3, 1) := by decide +kernel
theorem dX7_farOf_27 : decode cX7_farOf 27 = .ok (.aload_n 0, 1) := by decide +kernel
theorem dX7_farOf_28 : decode cX7_farOf 28 = .ok (.iload_n 3, 1) := by decide +kernel
theorem dX7_farOf_29 : decode cX7_farOf 29 = .ok (.invokevirtual 106, 3) := by decide +kernel
theorem dX7_farOf_32 : decode cX7_farOf 32 = .ok (.ior, 1) := by decide +kernel
theorem dX7_farOf_33 : decode cX7_farOf 33 = .ok (.istore_n 3, 1) := by decide +kernel
theorem dX7_farOf_34 : decode cX7_farOf 34 = .ok (.iinc 4 1, 3) := by decide +kernel
theorem dX7_farOf_37 : decode cX7_farOf 37 = .ok (.goto (-29), 3) := by decide +kernel
theorem dX7_farOf_40 : decode cX7_farOf 40 = .ok (.iconst (-1), 1) := by decide +kernel
theorem dX7_farOf_41 : decode cX7_farOf 41 = .ok (.ireturn, 1) := by decide +kernel
theorem dX7_reached_0 : decode cX7_reached 0 = .ok (.iload_n 1, 1) := by decide +kernel
theorem dX7_reached_1 : decode cX7_reached 1 = .ok (.invokestatic 87, 3) := by decide +kernel
theorem dX7_reached_4 : decode cX7_reached 4 = .ok (.iload_n 2, 1) := by decide +kernel
theorem dX7_reached_5 : decode cX7_reached 5 = .ok (.iand, 1) := by decide +kernel
theorem dX7_reached_6 : decode cX7_reached 6 = .ok (.istore_n 3, 1) := by decide +kernel
theorem dX7_reached_7 : decode cX7_reached 7 = .ok (.iconst 0, 1) := by decide +kernel
theorem dX7_reached_8 : decode cX7_reached 8 = .ok (.istore 4, 2) := by decide +kernel
theorem dX7_reached_10 : decode cX7_reached 10 = .ok (.iload 4, 2) := by decide +kernel
theorem dX7_reached_12 : decode cX7_reached 12 = .ok (.bipush 9, 2) := by decide +kernel
theorem dX7_reached_14 : decode cX7_reached 14 = .ok (.if_icmp .ge 19, 3) := by decide +kernel
theorem dX7_reached_17 : decode cX7_reached 17 = .ok (.iload_n 3, 1) := by decide +kernel
theorem dX7_reached_18 : decode cX7_reached 18 = .ok (.aload_n 0, 1) := by decide +kernel
theorem dX7_reached_19 : decode cX7_reached 19 = .ok (.iload_n 3, 1) := by decide +kernel
theorem dX7_reached_20 : decode cX7_reached 20 = .ok (.invokevirtual 106, 3) := by decide +kernel
theorem dX7_reached_23 : decode cX7_reached 23 = .ok (.iload_n 2, 1) := by decide +kernel
theorem dX7_reached_24 : decode cX7_reached 24 = .ok (.iand, 1) := by decide +kernel
theorem dX7_reached_25 : decode cX7_reached 25 = .ok (.ior, 1) := by decide +kernel
theorem dX7_reached_26 : decode cX7_reached 26 = .ok (.istore_n 3, 1) := by decide +kernel
theorem dX7_reached_27 : decode cX7_reached 27 = .ok (.iinc 4 1, 3) := by decide +kernel
theorem dX7_reached_30 : decode cX7_reached 30 = .ok (.goto (-20), 3) := by decide +kernel
theorem dX7_reached_33 : decode cX7_reached 33 = .ok (.iload_n 3, 1) := by decide +kernel
theorem dX7_reached_34 : decode cX7_reached 34 = .ok (.ireturn, 1) := by decide +kernel
theorem dX7_stepTo_0 : decode cX7_stepTo 0 = .ok (.iload_n 2, 1) := by decide +kernel
theorem dX7_stepTo_1 : decode cX7_stepTo 1 = .ok (.invokestatic 87, 3) := by decide +kernel
theorem dX7_stepTo_4 : decode cX7_stepTo 4 = .ok (.istore_n 3, 1) := by decide +kernel
theorem dX7_stepTo_5 : decode cX7_stepTo 5 = .ok (.iload_n 3, 1) := by decide +kernel
theorem dX7_stepTo_6 : decode cX7_stepTo 6 = .ok (.iload_n 1, 1) := by decide +kernel
theorem dX7_stepTo_7 : decode cX7_stepTo 7 = .ok (.invokestatic 95, 3) := by decide +kernel
theorem dX7_stepTo_10 : decode cX7_stepTo 10 = .ok (.ifCond .eq 5, 3) := by decide +kernel
theorem dX7_stepTo_13 : decode cX7_stepTo 13 = .ok (.iload_n 1, 1) := by decide +kernel
theorem dX7_stepTo_14 : decode cX7_stepTo 14 = .ok (.ireturn, 1) := by decide +kernel
theorem dX7_stepTo_15 : decode cX7_stepTo 15 = .ok (.iconst 0, 1) := by decide +kernel
theorem dX7_stepTo_16 : decode cX7_stepTo 16 = .ok (.istore 4, 2) := by decide +kernel
theorem dX7_stepTo_18 : decode cX7_stepTo 18 = .ok (.iload 4, 2) := by decide +kernel
theorem dX7_stepTo_20 : decode cX7_stepTo 20 = .ok (.bipush 9, 2) := by decide +kernel
theorem dX7_stepTo_22 : decode cX7_stepTo 22 = .ok (.if_icmp .ge 44, 3) := by decide +kernel
theorem dX7_stepTo_25 : decode cX7_stepTo 25 = .ok (.iload_n 3, 1) := by decide +kernel
theorem dX7_stepTo_26 : decode cX7_stepTo 26 = .ok (.aload_n 0, 1) := by decide +kernel
theorem dX7_stepTo_27 : decode cX7_stepTo 27 = .ok (.iload_n 3, 1) := by decide +kernel
theorem dX7_stepTo_28 : decode cX7_stepTo 28 = .ok (.invokevirtual 106, 3) := by decide +kernel
theorem dX7_stepTo_31 : decode cX7_stepTo 31 = .ok (.ior, 1) := by decide +kernel
theorem dX7_stepTo_32 : decode cX7_stepTo 32 = .ok (.istore 5, 2) := by decide +kernel
theorem dX7_stepTo_34 : decode cX7_stepTo 34 = .ok (.iload 5, 2) := by decide +kernel
theorem dX7_stepTo_36 : decode cX7_stepTo 36 = .ok (.iload_n 1, 1) := by decide +kernel
theorem dX7_stepTo_37 : decode cX7_stepTo 37 = .ok (.invokestatic 95, 3) := by decide +kernel
theorem dX7_stepTo_40 : decode cX7_stepTo 40 = .ok (.ifCond .eq 17, 3) := by decide +kernel
theorem dX7_stepTo_43 : decode cX7_stepTo 43 = .ok (.iload_n 3, 1) := by decide +kernel
theorem dX7_stepTo_44 : decode cX7_stepTo 44 = .ok (.aload_n 0, 1) := by decide +kernel
theorem dX7_stepTo_45 : decode cX7_stepTo 45 = .ok (.getfield 30, 3) := by decide +kernel
theorem dX7_stepTo_48 : decode cX7_stepTo 48 = .ok (.iload_n 1, 1) := by decide +kernel
theorem dX7_stepTo_49 : decode cX7_stepTo 49 = .ok (.invokevirtual 99, 3) := by decide +kernel
theorem dX7_stepTo_52 : decode cX7_stepTo 52 = .ok (.iand, 1) := by decide +kernel
theorem dX7_stepTo_53 : decode cX7_stepTo 53 = .ok (.invokestatic 109, 3) := by decide +kernel
theorem dX7_stepTo_56 : decode cX7_stepTo 56 = .ok (.ireturn, 1) := by decide +kernel
theorem dX7_stepTo_57 : decode cX7_stepTo 57 = .ok (.iload 5, 2) := by decide +kernel
theorem dX7_stepTo_59 : decode cX7_stepTo 59 = .ok (.istore_n 3, 1) := by decide +kernel
theorem dX7_stepTo_60 : decode cX7_stepTo 60 = .ok (.iinc 4 1, 3) := by decide +kernel
theorem dX7_stepTo_63 : decode cX7_stepTo 63 = .ok (.goto (-45), 3) := by decide +kernel
theorem dX7_stepTo_66 : decode cX7_stepTo 66 = .ok (.iload_n 1, 1) := by decide +kernel
theorem dX7_stepTo_67 : decode cX7_stepTo 67 = .ok (.ireturn, 1) := by decide +kernel
theorem dX7_mayStrike_0 : decode cX7_mayStrike 0 = .ok (.aload_n 0, 1) := by decide +kernel
theorem dX7_mayStrike_1 : decode cX7_mayStrike 1 = .ok (.getfield 36, 3) := by decide +kernel
theorem dX7_mayStrike_4 : decode cX7_mayStrike 4 = .ok (.iload_n 1, 1) := by decide +kernel
theorem dX7_mayStrike_5 : decode cX7_mayStrike 5 = .ok (.invokevirtual 99, 3) := by decide +kernel
theorem dX7_mayStrike_8 : decode cX7_mayStrike 8 = .ok (.ifCond .le 38, 3) := by decide +kernel
theorem dX7_mayStrike_11 : decode cX7_mayStrike 11 = .ok (.aload_n 0, 1) := by decide +kernel
theorem dX7_mayStrike_12 : decode cX7_mayStrike 12 = .ok (.iload_n 2, 1) := by decide +kernel
theorem dX7_mayStrike_13 : decode cX7_mayStrike 13 = .ok (.invokevirtual 112, 3) := by decide +kernel
theorem dX7_mayStrike_16 : decode cX7_mayStrike 16 = .ok (.ifCond .ne 30, 3) := by decide +kernel
theorem dX7_mayStrike_19 : decode cX7_mayStrike 19 = .ok (.aload_n 0, 1) := by decide +kernel
theorem dX7_mayStrike_20 : decode cX7_mayStrike 20 = .ok (.getfield 20, 3) := by decide +kernel
theorem dX7_mayStrike_23 : decode cX7_mayStrike 23 = .ok (.iload_n 2, 1) := by decide +kernel
theorem dX7_mayStrike_24 : decode cX7_mayStrike 24 = .ok (.invokevirtual 99, 3) := by decide +kernel
theorem dX7_mayStrike_27 : decode cX7_mayStrike 27 = .ok (.ifCond .le 19, 3) := by decide +kernel
theorem dX7_mayStrike_30 : decode cX7_mayStrike 30 = .ok (.aload_n 0, 1) := by decide +kernel
theorem dX7_mayStrike_31 : decode cX7_mayStrike 31 = .ok (.getfield 24, 3) := by decide +kernel
theorem dX7_mayStrike_34 : decode cX7_mayStrike 34 = .ok (.iload_n 2, 1) := by decide +kernel
theorem dX7_mayStrike_35 : decode cX7_mayStrike 35 = .ok (.invokevirtual 99, 3) := by decide +kernel
theorem dX7_mayStrike_38 : decode cX7_mayStrike 38 = .ok (.iload_n 1, 1) := by decide +kernel
theorem dX7_mayStrike_39 : decode cX7_mayStrike 39 = .ok (.if_icmp .eq 7, 3) := by decide +kernel
theorem dX7_mayStrike_42 : decode cX7_mayStrike 42 = .ok (.iconst 1, 1) := by decide +kernel
theorem dX7_mayStrike_43 : decode cX7_mayStrike 43 = .ok (.goto 4, 3) := by decide +kernel
theorem dX7_mayStrike_46 : decode cX7_mayStrike 46 = .ok (.iconst 0, 1) := by decide +kernel
theorem dX7_mayStrike_47 : decode cX7_mayStrike 47 = .ok (.ireturn, 1) := by decide +kernel
theorem dX7_light_0 : decode cX7_light 0 = .ok (.aload_n 0, 1) := by decide +kernel
theorem dX7_light_1 : decode cX7_light 1 = .ok (.dup, 1) := by decide +kernel
theorem dX7_light_2 : decode cX7_light 2 = .ok (.getfield 73, 3) := by decide +kernel
theorem dX7_light_5 : decode cX7_light 5 = .ok (.iload_n 2, 1) := by decide +kernel
theorem dX7_light_6 : decode cX7_light 6 = .ok (.invokestatic 87, 3) := by decide +kernel
theorem dX7_light_9 : decode cX7_light 9 = .ok (.ior, 1) := by decide +kernel
theorem dX7_light_10 : decode cX7_light 10 = .ok (.putfield 73, 3) := by decide +kernel
theorem dX7_light_13 : decode cX7_light 13 = .ok (.aload_n 0, 1) := by decide +kernel
theorem dX7_light_14 : decode cX7_light 14 = .ok (.getfield 27, 3) := by decide +kernel
theorem dX7_light_17 : decode cX7_light 17 = .ok (.iload_n 2, 1) := by decide +kernel
theorem dX7_light_18 : decode cX7_light 18 = .ok (.iconst 0, 1) := by decide +kernel
theorem dX7_light_19 : decode cX7_light 19 = .ok (.invokevirtual 83, 3) := by decide +kernel
theorem dX7_light_22 : decode cX7_light 22 = .ok (.aload_n 0, 1) := by decide +kernel
theorem dX7_light_23 : decode cX7_light 23 = .ok (.getfield 36, 3) := by decide +kernel
theorem dX7_light_26 : decode cX7_light 26 = .ok (.iload_n 1, 1) := by decide +kernel
theorem dX7_light_27 : decode cX7_light 27 = .ok (.iconst (-1), 1) := by decide +kernel
theorem dX7_light_28 : decode cX7_light 28 = .ok (.invokevirtual 116, 3) := by decide +kernel
theorem dX7_light_31 : decode cX7_light 31 = .ok (.aload_n 0, 1) := by decide +kernel
theorem dX7_light_32 : decode cX7_light 32 = .ok (.getfield 42, 3) := by decide +kernel
theorem dX7_light_35 : decode cX7_light 35 = .ok (.iload_n 1, 1) := by decide +kernel
theorem dX7_light_36 : decode cX7_light 36 = .ok (.aload_n 0, 1) := by decide +kernel
theorem dX7_light_37 : decode cX7_light 37 = .ok (.getfield 42, 3) := by decide +kernel
theorem dX7_light_40 : decode cX7_light 40 = .ok (.iload_n 1, 1) := by decide +kernel
theorem dX7_light_41 : decode cX7_light 41 = .ok (.invokevirtual 99, 3) := by decide +kernel
theorem dX7_light_44 : decode cX7_light 44 = .ok (.iconst 1, 1) := by decide +kernel
theorem dX7_light_45 : decode cX7_light 45 = .ok (.iadd, 1) := by decide +kernel
theorem dX7_light_46 : decode cX7_light 46 = .ok (.sipush 999, 3) := by decide +kernel
theorem dX7_light_49 : decode cX7_light 49 = .ok (.invokestatic 119, 3) := by decide +kernel
theorem dX7_light_52 : decode cX7_light 52 = .ok (.invokevirtual 83, 3) := by decide +kernel
theorem dX7_light_55 : decode cX7_light 55 = .ok (.aload_n 0, 1) := by decide +kernel
theorem dX7_light_56 : decode cX7_light 56 = .ok (.getfield 24, 3) := by decide +kernel
theorem dX7_light_59 : decode cX7_light 59 = .ok (.iload_n 2, 1) := by decide +kernel
theorem dX7_light_60 : decode cX7_light 60 = .ok (.invokevirtual 99, 3) := by decide +kernel
theorem dX7_light_63 : decode cX7_light 63 = .ok (.istore 4, 2) := by decide +kernel
theorem dX7_light_65 : decode cX7_light 65 = .ok (.iload 4, 2) := by decide +kernel
theorem dX7_light_67 : decode cX7_light 67 = .ok (.iconst (-1), 1) := by decide +kernel
theorem dX7_light_68 : decode cX7_light 68 = .ok (.if_icmp .eq 24, 3) := by decide +kernel
theorem dX7_light_71 : decode cX7_light 71 = .ok (.aload_n 0, 1) := by decide +kernel
theorem dX7_light_72 : decode cX7_light 72 = .ok (.iload 4, 2) := by decide +kernel
theorem dX7_light_74 : decode cX7_light 74 = .ok (.iload_n 1, 1) := by decide +kernel
theorem dX7_light_75 : decode cX7_light 75 = .ok (.aload_n 0, 1) := by decide +kernel
theorem dX7_light_76 : decode cX7_light 76 = .ok (.iload 4, 2) := by decide +kernel
theorem dX7_light_78 : decode cX7_light 78 = .ok (.iload_n 1, 1) := by decide +kernel
theorem dX7_light_79 : decode cX7_light 79 = .ok (.invokevirtual 102, 3) := by decide +kernel
theorem dX7_light_82 : decode cX7_light 82 = .ok (.iconst 1, 1) := by decide +kernel
theorem dX7_light_83 : decode cX7_light 83 = .ok (.iadd, 1) := by decide +kernel
theorem dX7_light_84 : decode cX7_light 84 = .ok (.bipush 9, 2) := by decide +kernel
theorem dX7_light_86 : decode cX7_light 86 = .ok (.invokestatic 119, 3) := by decide +kernel
theorem dX7_light_89 : decode cX7_light 89 = .ok (.invokevirtual 91, 3) := by decide +kernel
theorem dX7_light_92 : decode cX7_light 92 = .ok (.aload_n 0, 1) := by decide +kernel
theorem dX7_light_93 : decode cX7_light 93 = .ok (.iload_n 3, 1) := by decide +kernel
theorem dX7_light_94 : decode cX7_light 94 = .ok (.iload_n 2, 1) := by decide +kernel
theorem dX7_light_95 : decode cX7_light 95 = .ok (.iload_n 1, 1) := by decide +kernel
theorem dX7_light_96 : decode cX7_light 96 = .ok (.invokevirtual 124, 3) := by decide +kernel
theorem dX7_light_99 : decode cX7_light 99 = .ok (.return_, 1) := by decide +kernel
theorem dX7_burnDown_0 : decode cX7_burnDown 0 = .ok (.aload_n 0, 1) := by decide +kernel
theorem dX7_burnDown_1 : decode cX7_burnDown 1 = .ok (.iload_n 1, 1) := by decide +kernel
theorem dX7_burnDown_2 : decode cX7_burnDown 2 = .ok (.invokevirtual 112, 3) := by decide +kernel
theorem dX7_burnDown_5 : decode cX7_burnDown 5 = .ok (.ifCond .eq 45, 3) := by decide +kernel
theorem dX7_burnDown_8 : decode cX7_burnDown 8 = .ok (.aload_n 0, 1) := by decide +kernel
theorem dX7_burnDown_9 : decode cX7_burnDown 9 = .ok (.getfield 20, 3) := by decide +kernel
theorem dX7_burnDown_12 : decode cX7_burnDown 12 = .ok (.iload_n 1, 1) := by decide +kernel
theorem dX7_burnDown_13 : decode cX7_burnDown 13 = .ok (.iconst (-1), 1) := by decide +kernel
theorem dX7_burnDown_14 : decode cX7_burnDown 14 = .ok (.invokevirtual 116, 3) := by decide +kernel
theorem dX7_burnDown_17 : decode cX7_burnDown 17 = .ok (.aload_n 0, 1) := by decide +kernel
theorem dX7_burnDown_18 : decode cX7_burnDown 18 = .ok (.getfield 20, 3) := by decide +kernel
theorem dX7_burnDown_21 : decode cX7_burnDown 21 = .ok (.iload_n 1, 1) := by decide +kernel
theorem dX7_burnDown_22 : decode cX7_burnDown 22 = .ok (.invokevirtual 99, 3) := by decide +kernel
theorem dX7_burnDown_25 : decode cX7_burnDown 25 = .ok (.ifCond .gt 25, 3) := by decide +kernel
theorem dX7_burnDown_28 : decode cX7_burnDown 28 = .ok (.aload_n 0, 1) := by decide +kernel
theorem dX7_burnDown_29 : decode cX7_burnDown 29 = .ok (.dup, 1) := by decide +kernel
theorem dX7_burnDown_30 : decode cX7_burnDown 30 = .ok (.getfield 73, 3) := by decide +kernel
theorem dX7_burnDown_33 : decode cX7_burnDown 33 = .ok (.iload_n 1, 1) := by decide +kernel
theorem dX7_burnDown_34 : decode cX7_burnDown 34 = .ok (.invokestatic 87, 3) := by decide +kernel
theorem dX7_burnDown_37 : decode cX7_burnDown 37 = .ok (.iconst (-1), 1) := by decide +kernel
theorem dX7_burnDown_38 : decode cX7_burnDown 38 = .ok (.ixor, 1) := by decide +kernel
theorem dX7_burnDown_39 : decode cX7_burnDown 39 = .ok (.iand, 1) := by decide +kernel
theorem dX7_burnDown_40 : decode cX7_burnDown 40 = .ok (.putfield 73, 3) := by decide +kernel
theorem dX7_burnDown_43 : decode cX7_burnDown 43 = .ok (.aload_n 0, 1) := by decide +kernel
theorem dX7_burnDown_44 : decode cX7_burnDown 44 = .ok (.iconst 2, 1) := by decide +kernel
theorem dX7_burnDown_45 : decode cX7_burnDown 45 = .ok (.iload_n 1, 1) := by decide +kernel
theorem dX7_burnDown_46 : decode cX7_burnDown 46 = .ok (.iconst (-1), 1) := by decide +kernel
theorem dX7_burnDown_47 : decode cX7_burnDown 47 = .ok (.invokevirtual 124, 3) := by decide +kernel
theorem dX7_burnDown_50 : decode cX7_burnDown 50 = .ok (.aload_n 0, 1) := by decide +kernel
theorem dX7_burnDown_51 : decode cX7_burnDown 51 = .ok (.iload_n 1, 1) := by decide +kernel
theorem dX7_burnDown_52 : decode cX7_burnDown 52 = .ok (.invokevirtual 112, 3) := by decide +kernel
theorem dX7_burnDown_55 : decode cX7_burnDown 55 = .ok (.ifCond .ne 26, 3) := by decide +kernel
theorem dX7_burnDown_58 : decode cX7_burnDown 58 = .ok (.aload_n 0, 1) := by decide +kernel
theorem dX7_burnDown_59 : decode cX7_burnDown 59 = .ok (.getfield 27, 3) := by decide +kernel
theorem dX7_burnDown_62 : decode cX7_burnDown 62 = .ok (.iload_n 1, 1) := by decide +kernel
theorem dX7_burnDown_63 : decode cX7_burnDown 63 = .ok (.aload_n 0, 1) := by decide +kernel
theorem dX7_burnDown_64 : decode cX7_burnDown 64 = .ok (.getfield 27, 3) := by decide +kernel
theorem dX7_burnDown_67 : decode cX7_burnDown 67 = .ok (.iload_n 1, 1) := by decide +kernel
theorem dX7_burnDown_68 : decode cX7_burnDown 68 = .ok (.invokevirtual 99, 3) := by decide +kernel
theorem dX7_burnDown_71 : decode cX7_burnDown 71 = .ok (.iconst 1, 1) := by decide +kernel
theorem dX7_burnDown_72 : decode cX7_burnDown 72 = .ok (.iadd, 1) := by decide +kernel
theorem dX7_burnDown_73 : decode cX7_burnDown 73 = .ok (.bipush 99, 2) := by decide +kernel
theorem dX7_burnDown_75 : decode cX7_burnDown 75 = .ok (.invokestatic 119, 3) := by decide +kernel
theorem dX7_burnDown_78 : decode cX7_burnDown 78 = .ok (.invokevirtual 83, 3) := by decide +kernel
theorem dX7_burnDown_81 : decode cX7_burnDown 81 = .ok (.return_, 1) := by decide +kernel
theorem dX7_turnHour_0 : decode cX7_turnHour 0 = .ok (.aload_n 0, 1) := by decide +kernel
theorem dX7_turnHour_1 : decode cX7_turnHour 1 = .ok (.dup, 1) := by decide +kernel
theorem dX7_turnHour_2 : decode cX7_turnHour 2 = .ok (.getfield 60, 3) := by decide +kernel
theorem dX7_turnHour_5 : decode cX7_turnHour 5 = .ok (.iconst 1, 1) := by decide +kernel
theorem dX7_turnHour_6 : decode cX7_turnHour 6 = .ok (.iadd, 1) := by decide +kernel
theorem dX7_turnHour_7 : decode cX7_turnHour 7 = .ok (.putfield 60, 3) := by decide +kernel
theorem dX7_turnHour_10 : decode cX7_turnHour 10 = .ok (.aload_n 0, 1) := by decide +kernel
theorem dX7_turnHour_11 : decode cX7_turnHour 11 = .ok (.getfield 60, 3) := by decide +kernel
theorem dX7_turnHour_14 : decode cX7_turnHour 14 = .ok (.bipush 23, 2) := by decide +kernel
theorem dX7_turnHour_16 : decode cX7_turnHour 16 = .ok (.if_icmp .le 24, 3) := by decide +kernel
theorem dX7_turnHour_19 : decode cX7_turnHour 19 = .ok (.aload_n 0, 1) := by decide +kernel
theorem dX7_turnHour_20 : decode cX7_turnHour 20 = .ok (.iconst 0, 1) := by decide +kernel
theorem dX7_turnHour_21 : decode cX7_turnHour 21 = .ok (.putfield 60, 3) := by decide +kernel
theorem dX7_turnHour_24 : decode cX7_turnHour 24 = .ok (.aload_n 0, 1) := by decide +kernel
theorem dX7_turnHour_25 : decode cX7_turnHour 25 = .ok (.aload_n 0, 1) := by decide +kernel
theorem dX7_turnHour_26 : decode cX7_turnHour 26 = .ok (.getfield 63, 3) := by decide +kernel
theorem dX7_turnHour_29 : decode cX7_turnHour 29 = .ok (.iconst 1, 1) := by decide +kernel
theorem dX7_turnHour_30 : decode cX7_turnHour 30 = .ok (.iadd, 1) := by decide +kernel
theorem dX7_turnHour_31 : decode cX7_turnHour 31 = .ok (.sipush 9999, 3) := by decide +kernel
theorem dX7_turnHour_34 : decode cX7_turnHour 34 = .ok (.invokestatic 119, 3) := by decide +kernel
theorem dX7_turnHour_37 : decode cX7_turnHour 37 = .ok (.putfield 63, 3) := by decide +kernel
theorem dX7_turnHour_40 : decode cX7_turnHour 40 = .ok (.return_, 1) := by decide +kernel
theorem dX7_draw_0 : decode cX7_draw 0 = .ok (.aload_n 0, 1) := by decide +kernel
theorem dX7_draw_1 : decode cX7_draw 1 = .ok (.aload_n 0, 1) := by decide +kernel
theorem dX7_draw_2 : decode cX7_draw 2 = .ok (.getfield 9, 3) := by decide +kernel
theorem dX7_draw_5 : decode cX7_draw 5 = .ok (.ldc 127, 2) := by decide +kernel
theorem dX7_draw_7 : decode cX7_draw 7 = .ok (.imul, 1) := by decide +kernel
theorem dX7_draw_8 : decode cX7_draw 8 = .ok (.sipush 12345, 3) := by decide +kernel
theorem dX7_draw_11 : decode cX7_draw 11 = .ok (.iadd, 1) := by decide +kernel
theorem dX7_draw_12 : decode cX7_draw 12 = .ok (.putfield 9, 3) := by decide +kernel
theorem dX7_draw_15 : decode cX7_draw 15 = .ok (.aload_n 0, 1) := by decide +kernel
theorem dX7_draw_16 : decode cX7_draw 16 = .ok (.getfield 9, 3) := by decide +kernel
theorem dX7_draw_19 : decode cX7_draw 19 = .ok (.bipush 16, 2) := by decide +kernel
theorem dX7_draw_21 : decode cX7_draw 21 = .ok (.ishr, 1) := by decide +kernel
theorem dX7_draw_22 : decode cX7_draw 22 = .ok (.sipush 32767, 3) := by decide +kernel
theorem dX7_draw_25 : decode cX7_draw 25 = .ok (.iand, 1) := by decide +kernel
theorem dX7_draw_26 : decode cX7_draw 26 = .ok (.ireturn, 1) := by decide +kernel
theorem dX7_write_0 : decode cX7_write 0 = .ok (.aload_n 0, 1) := by decide +kernel
theorem dX7_write_1 : decode cX7_write 1 = .ok (.getfield 63, 3) := by decide +kernel
theorem dX7_write_4 : decode cX7_write 4 = .ok (.bipush 32, 2) := by decide +kernel
theorem dX7_write_6 : decode cX7_write 6 = .ok (.imul, 1) := by decide +kernel
theorem dX7_write_7 : decode cX7_write 7 = .ok (.aload_n 0, 1) := by decide +kernel
theorem dX7_write_8 : decode cX7_write 8 = .ok (.getfield 60, 3) := by decide +kernel
theorem dX7_write_11 : decode cX7_write 11 = .ok (.iadd, 1) := by decide +kernel
theorem dX7_write_12 : decode cX7_write 12 = .ok (.iconst 4, 1) := by decide +kernel
theorem dX7_write_13 : decode cX7_write 13 = .ok (.imul, 1) := by decide +kernel
theorem dX7_write_14 : decode cX7_write 14 = .ok (.iload_n 1, 1) := by decide +kernel
theorem dX7_write_15 : decode cX7_write 15 = .ok (.iadd, 1) := by decide +kernel
theorem dX7_write_16 : decode cX7_write 16 = .ok (.bipush 16, 2) := by decide +kernel
theorem dX7_write_18 : decode cX7_write 18 = .ok (.imul, 1) := by decide +kernel
theorem dX7_write_19 : decode cX7_write 19 = .ok (.iload_n 2, 1) := by decide +kernel
theorem dX7_write_20 : decode cX7_write 20 = .ok (.iadd, 1) := by decide +kernel
theorem dX7_write_21 : decode cX7_write 21 = .ok (.bipush 8, 2) := by decide +kernel
theorem dX7_write_23 : decode cX7_write 23 = .ok (.imul, 1) := by decide +kernel
theorem dX7_write_24 : decode cX7_write 24 = .ok (.iload_n 3, 1) := by decide +kernel
theorem dX7_write_25 : decode cX7_write 25 = .ok (.iadd, 1) := by decide +kernel
theorem dX7_write_26 : decode cX7_write 26 = .ok (.iconst 1, 1) := by decide +kernel
theorem dX7_write_27 : decode cX7_write 27 = .ok (.iadd, 1) := by decide +kernel
theorem dX7_write_28 : decode cX7_write 28 = .ok (.istore 4, 2) := by decide +kernel
theorem dX7_write_30 : decode cX7_write 30 = .ok (.aload_n 0, 1) := by decide +kernel
theorem dX7_write_31 : decode cX7_write 31 = .ok (.getfield 48, 3) := by decide +kernel
theorem dX7_write_34 : decode cX7_write 34 = .ok (.aload_n 0, 1) := by decide +kernel
theorem dX7_write_35 : decode cX7_write 35 = .ok (.getfield 80, 3) := by decide +kernel
theorem dX7_write_38 : decode cX7_write 38 = .ok (.bipush 60, 2) := by decide +kernel
theorem dX7_write_40 : decode cX7_write 40 = .ok (.irem, 1) := by decide +kernel
theorem dX7_write_41 : decode cX7_write 41 = .ok (.iload 4, 2) := by decide +kernel
theorem dX7_write_43 : decode cX7_write 43 = .ok (.invokevirtual 83, 3) := by decide +kernel
theorem dX7_write_46 : decode cX7_write 46 = .ok (.aload_n 0, 1) := by decide +kernel
theorem dX7_write_47 : decode cX7_write 47 = .ok (.dup, 1) := by decide +kernel
theorem dX7_write_48 : decode cX7_write 48 = .ok (.getfield 80, 3) := by decide +kernel
theorem dX7_write_51 : decode cX7_write 51 = .ok (.iconst 1, 1) := by decide +kernel
theorem dX7_write_52 : decode cX7_write 52 = .ok (.iadd, 1) := by decide +kernel
theorem dX7_write_53 : decode cX7_write 53 = .ok (.putfield 80, 3) := by decide +kernel
theorem dX7_write_56 : decode cX7_write 56 = .ok (.return_, 1) := by decide +kernel
theorem dX7_rows_0 : decode cX7_rows 0 = .ok (.aload_n 0, 1) := by decide +kernel
theorem dX7_rows_1 : decode cX7_rows 1 = .ok (.getfield 80, 3) := by decide +kernel
theorem dX7_rows_4 : decode cX7_rows 4 = .ok (.bipush 60, 2) := by decide +kernel
theorem dX7_rows_6 : decode cX7_rows 6 = .ok (.invokestatic 119, 3) := by decide +kernel
theorem dX7_rows_9 : decode cX7_rows 9 = .ok (.ireturn, 1) := by decide +kernel
theorem dX7_readRow_0 : decode cX7_readRow 0 = .ok (.aload_n 0, 1) := by decide +kernel
theorem dX7_readRow_1 : decode cX7_readRow 1 = .ok (.getfield 48, 3) := by decide +kernel
theorem dX7_readRow_4 : decode cX7_readRow 4 = .ok (.aload_n 0, 1) := by decide +kernel
theorem dX7_readRow_5 : decode cX7_readRow 5 = .ok (.getfield 80, 3) := by decide +kernel
theorem dX7_readRow_8 : decode cX7_readRow 8 = .ok (.iconst 1, 1) := by decide +kernel
theorem dX7_readRow_9 : decode cX7_readRow 9 = .ok (.isub, 1) := by decide +kernel
theorem dX7_readRow_10 : decode cX7_readRow 10 = .ok (.iload_n 1, 1) := by decide +kernel
theorem dX7_readRow_11 : decode cX7_readRow 11 = .ok (.isub, 1) := by decide +kernel
theorem dX7_readRow_12 : decode cX7_readRow 12 = .ok (.bipush 60, 2) := by decide +kernel
theorem dX7_readRow_14 : decode cX7_readRow 14 = .ok (.irem, 1) := by decide +kernel
theorem dX7_readRow_15 : decode cX7_readRow 15 = .ok (.invokevirtual 99, 3) := by decide +kernel
theorem dX7_readRow_18 : decode cX7_readRow 18 = .ok (.istore_n 3, 1) := by decide +kernel
theorem dX7_readRow_19 : decode cX7_readRow 19 = .ok (.iload_n 2, 1) := by decide +kernel
theorem dX7_readRow_20 : decode cX7_readRow 20 = .ok (.tableswitch 59 0 3 #[32, 37, 45, 52], 32) := by decide +kernel
theorem dX7_readRow_52 : decode cX7_readRow 52 = .ok (.iload_n 3, 1) := by decide +kernel
theorem dX7_readRow_53 : decode cX7_readRow 53 = .ok (.bipush 14, 2) := by decide +kernel
theorem dX7_readRow_55 : decode cX7_readRow 55 = .ok (.ishr, 1) := by decide +kernel
theorem dX7_readRow_56 : decode cX7_readRow 56 = .ok (.ireturn, 1) := by decide +kernel
theorem dX7_readRow_57 : decode cX7_readRow 57 = .ok (.iload_n 3, 1) := by decide +kernel
theorem dX7_readRow_58 : decode cX7_readRow 58 = .ok (.bipush 9, 2) := by decide +kernel
theorem dX7_readRow_60 : decode cX7_readRow 60 = .ok (.ishr, 1) := by decide +kernel
theorem dX7_readRow_61 : decode cX7_readRow 61 = .ok (.bipush 31, 2) := by decide +kernel
theorem dX7_readRow_63 : decode cX7_readRow 63 = .ok (.iand, 1) := by decide +kernel
theorem dX7_readRow_64 : decode cX7_readRow 64 = .ok (.ireturn, 1) := by decide +kernel
theorem dX7_readRow_65 : decode cX7_readRow 65 = .ok (.iload_n 3, 1) := by decide +kernel
theorem dX7_readRow_66 : decode cX7_readRow 66 = .ok (.bipush 7, 2) := by decide +kernel
theorem dX7_readRow_68 : decode cX7_readRow 68 = .ok (.ishr, 1) := by decide +kernel
theorem dX7_readRow_69 : decode cX7_readRow 69 = .ok (.iconst 3, 1) := by decide +kernel
theorem dX7_readRow_70 : decode cX7_readRow 70 = .ok (.iand, 1) := by decide +kernel
theorem dX7_readRow_71 : decode cX7_readRow 71 = .ok (.ireturn, 1) := by decide +kernel
theorem dX7_readRow_72 : decode cX7_readRow 72 = .ok (.iload_n 3, 1) := by decide +kernel
theorem dX7_readRow_73 : decode cX7_readRow 73 = .ok (.iconst 3, 1) := by decide +kernel
theorem dX7_readRow_74 : decode cX7_readRow 74 = .ok (.ishr, 1) := by decide +kernel
theorem dX7_readRow_75 : decode cX7_readRow 75 = .ok (.bipush 15, 2) := by decide +kernel
theorem dX7_readRow_77 : decode cX7_readRow 77 = .ok (.iand, 1) := by decide +kernel
theorem dX7_readRow_78 : decode cX7_readRow 78 = .ok (.ireturn, 1) := by decide +kernel
theorem dX7_readRow_79 : decode cX7_readRow 79 = .ok (.iload_n 3, 1) := by decide +kernel
theorem dX7_readRow_80 : decode cX7_readRow 80 = .ok (.bipush 7, 2) := by decide +kernel
theorem dX7_readRow_82 : decode cX7_readRow 82 = .ok (.iand, 1) := by decide +kernel
theorem dX7_readRow_83 : decode cX7_readRow 83 = .ok (.iconst 1, 1) := by decide +kernel
theorem dX7_readRow_84 : decode cX7_readRow 84 = .ok (.isub, 1) := by decide +kernel
theorem dX7_readRow_85 : decode cX7_readRow 85 = .ok (.ireturn, 1) := by decide +kernel
theorem dX7_oilOfAll_0 : decode cX7_oilOfAll 0 = .ok (.iconst 0, 1) := by decide +kernel
theorem dX7_oilOfAll_1 : decode cX7_oilOfAll 1 = .ok (.istore_n 1, 1) := by decide +kernel
theorem dX7_oilOfAll_2 : decode cX7_oilOfAll 2 = .ok (.iconst 0, 1) := by decide +kernel
theorem dX7_oilOfAll_3 : decode cX7_oilOfAll 3 = .ok (.istore_n 2, 1) := by decide +kernel
theorem dX7_oilOfAll_4 : decode cX7_oilOfAll 4 = .ok (.iload_n 2, 1) := by decide +kernel
theorem dX7_oilOfAll_5 : decode cX7_oilOfAll 5 = .ok (.aload_n 0, 1) := by decide +kernel
theorem dX7_oilOfAll_6 : decode cX7_oilOfAll 6 = .ok (.getfield 51, 3) := by decide +kernel
theorem dX7_oilOfAll_9 : decode cX7_oilOfAll 9 = .ok (.if_icmp .ge 20, 3) := by decide +kernel
theorem dX7_oilOfAll_12 : decode cX7_oilOfAll 12 = .ok (.iload_n 1, 1) := by decide +kernel
theorem dX7_oilOfAll_13 : decode cX7_oilOfAll 13 = .ok (.aload_n 0, 1) := by decide +kernel
theorem dX7_oilOfAll_14 : decode cX7_oilOfAll 14 = .ok (.getfield 20, 3) := by decide +kernel
theorem dX7_oilOfAll_17 : decode cX7_oilOfAll 17 = .ok (.iload_n 2, 1) := by decide +kernel
theorem dX7_oilOfAll_18 : decode cX7_oilOfAll 18 = .ok (.invokevirtual 99, 3) := by decide +kernel
theorem dX7_oilOfAll_21 : decode cX7_oilOfAll 21 = .ok (.iadd, 1) := by decide +kernel
theorem dX7_oilOfAll_22 : decode cX7_oilOfAll 22 = .ok (.istore_n 1, 1) := by decide +kernel
theorem dX7_oilOfAll_23 : decode cX7_oilOfAll 23 = .ok (.iinc 2 1, 3) := by decide +kernel
theorem dX7_oilOfAll_26 : decode cX7_oilOfAll 26 = .ok (.goto (-22), 3) := by decide +kernel
theorem dX7_oilOfAll_29 : decode cX7_oilOfAll 29 = .ok (.iload_n 1, 1) := by decide +kernel
theorem dX7_oilOfAll_30 : decode cX7_oilOfAll 30 = .ok (.ireturn, 1) := by decide +kernel
theorem dX7_litByAll_0 : decode cX7_litByAll 0 = .ok (.iconst 0, 1) := by decide +kernel
theorem dX7_litByAll_1 : decode cX7_litByAll 1 = .ok (.istore_n 1, 1) := by decide +kernel
theorem dX7_litByAll_2 : decode cX7_litByAll 2 = .ok (.iconst 0, 1) := by decide +kernel
theorem dX7_litByAll_3 : decode cX7_litByAll 3 = .ok (.istore_n 2, 1) := by decide +kernel
theorem dX7_litByAll_4 : decode cX7_litByAll 4 = .ok (.iload_n 2, 1) := by decide +kernel
theorem dX7_litByAll_5 : decode cX7_litByAll 5 = .ok (.aload_n 0, 1) := by decide +kernel
theorem dX7_litByAll_6 : decode cX7_litByAll 6 = .ok (.getfield 54, 3) := by decide +kernel
theorem dX7_litByAll_9 : decode cX7_litByAll 9 = .ok (.if_icmp .ge 20, 3) := by decide +kernel
theorem dX7_litByAll_12 : decode cX7_litByAll 12 = .ok (.iload_n 1, 1) := by decide +kernel
theorem dX7_litByAll_13 : decode cX7_litByAll 13 = .ok (.aload_n 0, 1) := by decide +kernel
theorem dX7_litByAll_14 : decode cX7_litByAll 14 = .ok (.getfield 42, 3) := by decide +kernel
theorem dX7_litByAll_17 : decode cX7_litByAll 17 = .ok (.iload_n 2, 1) := by decide +kernel
theorem dX7_litByAll_18 : decode cX7_litByAll 18 = .ok (.invokevirtual 99, 3) := by decide +kernel
theorem dX7_litByAll_21 : decode cX7_litByAll 21 = .ok (.iadd, 1) := by decide +kernel
theorem dX7_litByAll_22 : decode cX7_litByAll 22 = .ok (.istore_n 1, 1) := by decide +kernel
theorem dX7_litByAll_23 : decode cX7_litByAll 23 = .ok (.iinc 2 1, 3) := by decide +kernel
theorem dX7_litByAll_26 : decode cX7_litByAll 26 = .ok (.goto (-22), 3) := by decide +kernel
theorem dX7_litByAll_29 : decode cX7_litByAll 29 = .ok (.iload_n 1, 1) := by decide +kernel
theorem dX7_litByAll_30 : decode cX7_litByAll 30 = .ok (.ireturn, 1) := by decide +kernel
theorem dX7_partOf_0 : decode cX7_partOf 0 = .ok (.aload_n 0, 1) := by decide +kernel
theorem dX7_partOf_1 : decode cX7_partOf 1 = .ok (.invokevirtual 128, 3) := by decide +kernel
theorem dX7_partOf_4 : decode cX7_partOf 4 = .ok (.istore_n 2, 1) := by decide +kernel
theorem dX7_partOf_5 : decode cX7_partOf 5 = .ok (.iload_n 2, 1) := by decide +kernel
theorem dX7_partOf_6 : decode cX7_partOf 6 = .ok (.ifCond .gt 7, 3) := by decide +kernel
theorem dX7_partOf_9 : decode cX7_partOf 9 = .ok (.iconst 0, 1) := by decide +kernel
theorem dX7_partOf_10 : decode cX7_partOf 10 = .ok (.goto 16, 3) := by decide +kernel
theorem dX7_partOf_13 : decode cX7_partOf 13 = .ok (.aload_n 0, 1) := by decide +kernel
theorem dX7_partOf_14 : decode cX7_partOf 14 = .ok (.getfield 42, 3) := by decide +kernel
theorem dX7_partOf_17 : decode cX7_partOf 17 = .ok (.iload_n 1, 1) := by decide +kernel
theorem dX7_partOf_18 : decode cX7_partOf 18 = .ok (.invokevirtual 99, 3) := by decide +kernel
theorem dX7_partOf_21 : decode cX7_partOf 21 = .ok (.bipush 100, 2) := by decide +kernel
theorem dX7_partOf_23 : decode cX7_partOf 23 = .ok (.imul, 1) := by decide +kernel
theorem dX7_partOf_24 : decode cX7_partOf 24 = .ok (.iload_n 2, 1) := by decide +kernel
theorem dX7_partOf_25 : decode cX7_partOf 25 = .ok (.idiv, 1) := by decide +kernel
theorem dX7_partOf_26 : decode cX7_partOf 26 = .ok (.ireturn, 1) := by decide +kernel
theorem dX7_openWays_0 : decode cX7_openWays 0 = .ok (.iconst 0, 1) := by decide +kernel
theorem dX7_openWays_1 : decode cX7_openWays 1 = .ok (.istore_n 1, 1) := by decide +kernel
theorem dX7_openWays_2 : decode cX7_openWays 2 = .ok (.iconst 0, 1) := by decide +kernel
theorem dX7_openWays_3 : decode cX7_openWays 3 = .ok (.istore_n 2, 1) := by decide +kernel
theorem dX7_openWays_4 : decode cX7_openWays 4 = .ok (.iload_n 2, 1) := by decide +kernel
theorem dX7_openWays_5 : decode cX7_openWays 5 = .ok (.aload_n 0, 1) := by decide +kernel
theorem dX7_openWays_6 : decode cX7_openWays 6 = .ok (.getfield 51, 3) := by decide +kernel
theorem dX7_openWays_9 : decode cX7_openWays 9 = .ok (.if_icmp .ge 23, 3) := by decide +kernel
theorem dX7_openWays_12 : decode cX7_openWays 12 = .ok (.iload_n 1, 1) := by decide +kernel
theorem dX7_openWays_13 : decode cX7_openWays 13 = .ok (.aload_n 0, 1) := by decide +kernel
theorem dX7_openWays_14 : decode cX7_openWays 14 = .ok (.getfield 30, 3) := by decide +kernel
theorem dX7_openWays_17 : decode cX7_openWays 17 = .ok (.iload_n 2, 1) := by decide +kernel
theorem dX7_openWays_18 : decode cX7_openWays 18 = .ok (.invokevirtual 99, 3) := by decide +kernel
theorem dX7_openWays_21 : decode cX7_openWays 21 = .ok (.invokestatic 132, 3) := by decide +kernel
theorem dX7_openWays_24 : decode cX7_openWays 24 = .ok (.iadd, 1) := by decide +kernel
theorem dX7_openWays_25 : decode cX7_openWays 25 = .ok (.istore_n 1, 1) := by decide +kernel
theorem dX7_openWays_26 : decode cX7_openWays 26 = .ok (.iinc 2 1, 3) := by decide +kernel
theorem dX7_openWays_29 : decode cX7_openWays 29 = .ok (.goto (-25), 3) := by decide +kernel
theorem dX7_openWays_32 : decode cX7_openWays 32 = .ok (.iload_n 1, 1) := by decide +kernel
theorem dX7_openWays_33 : decode cX7_openWays 33 = .ok (.iconst 2, 1) := by decide +kernel
theorem dX7_openWays_34 : decode cX7_openWays 34 = .ok (.idiv, 1) := by decide +kernel
theorem dX7_openWays_35 : decode cX7_openWays 35 = .ok (.ireturn, 1) := by decide +kernel
theorem dX7_darkest_0 : decode cX7_darkest 0 = .ok (.iconst (-1), 1) := by decide +kernel
theorem dX7_darkest_1 : decode cX7_darkest 1 = .ok (.istore_n 1, 1) := by decide +kernel
theorem dX7_darkest_2 : decode cX7_darkest 2 = .ok (.iconst 0, 1) := by decide +kernel
theorem dX7_darkest_3 : decode cX7_darkest 3 = .ok (.istore_n 2, 1) := by decide +kernel
theorem dX7_darkest_4 : decode cX7_darkest 4 = .ok (.iload_n 2, 1) := by decide +kernel
theorem dX7_darkest_5 : decode cX7_darkest 5 = .ok (.aload_n 0, 1) := by decide +kernel
theorem dX7_darkest_6 : decode cX7_darkest 6 = .ok (.getfield 51, 3) := by decide +kernel
theorem dX7_darkest_9 : decode cX7_darkest 9 = .ok (.if_icmp .ge 35, 3) := by decide +kernel
theorem dX7_darkest_12 : decode cX7_darkest 12 = .ok (.iload_n 1, 1) := by decide +kernel
theorem dX7_darkest_13 : decode cX7_darkest 13 = .ok (.iconst (-1), 1) := by decide +kernel
theorem dX7_darkest_14 : decode cX7_darkest 14 = .ok (.if_icmp .eq 22, 3) := by decide +kernel
theorem dX7_darkest_17 : decode cX7_darkest 17 = .ok (.aload_n 0, 1) := by decide +kernel
theorem dX7_darkest_18 : decode cX7_darkest 18 = .ok (.getfield 27, 3) := by decide +kernel
theorem dX7_darkest_21 : decode cX7_darkest 21 = .ok (.iload_n 2, 1) := by decide +kernel
theorem dX7_darkest_22 : decode cX7_darkest 22 = .ok (.invokevirtual 99, 3) := by decide +kernel
theorem dX7_darkest_25 : decode cX7_darkest 25 = .ok (.aload_n 0, 1) := by decide +kernel
theorem dX7_darkest_26 : decode cX7_darkest 26 = .ok (.getfield 27, 3) := by decide +kernel
theorem dX7_darkest_29 : decode cX7_darkest 29 = .ok (.iload_n 1, 1) := by decide +kernel
theorem dX7_darkest_30 : decode cX7_darkest 30 = .ok (.invokevirtual 99, 3) := by decide +kernel
theorem dX7_darkest_33 : decode cX7_darkest 33 = .ok (.if_icmp .le 5, 3) := by decide +kernel
theorem dX7_darkest_36 : decode cX7_darkest 36 = .ok (.iload_n 2, 1) := by decide +kernel
theorem dX7_darkest_37 : decode cX7_darkest 37 = .ok (.istore_n 1, 1) := by decide +kernel
theorem dX7_darkest_38 : decode cX7_darkest 38 = .ok (.iinc 2 1, 3) := by decide +kernel
theorem dX7_darkest_41 : decode cX7_darkest 41 = .ok (.goto (-37), 3) := by decide +kernel
theorem dX7_darkest_44 : decode cX7_darkest 44 = .ok (.iload_n 1, 1) := by decide +kernel
theorem dX7_darkest_45 : decode cX7_darkest 45 = .ok (.ireturn, 1) := by decide +kernel
theorem dX7_busiest_0 : decode cX7_busiest 0 = .ok (.iconst (-1), 1) := by decide +kernel
theorem dX7_busiest_1 : decode cX7_busiest 1 = .ok (.istore_n 1, 1) := by decide +kernel
theorem dX7_busiest_2 : decode cX7_busiest 2 = .ok (.iconst 0, 1) := by decide +kernel
theorem dX7_busiest_3 : decode cX7_busiest 3 = .ok (.istore_n 2, 1) := by decide +kernel
theorem dX7_busiest_4 : decode cX7_busiest 4 = .ok (.iconst 0, 1) := by decide +kernel
theorem dX7_busiest_5 : decode cX7_busiest 5 = .ok (.istore_n 3, 1) := by decide +kernel
theorem dX7_busiest_6 : decode cX7_busiest 6 = .ok (.iload_n 3, 1) := by decide +kernel
theorem dX7_busiest_7 : decode cX7_busiest 7 = .ok (.aload_n 0, 1) := by decide +kernel
theorem dX7_busiest_8 : decode cX7_busiest 8 = .ok (.getfield 54, 3) := by decide +kernel
theorem dX7_busiest_11 : decode cX7_busiest 11 = .ok (.if_icmp .ge 32, 3) := by decide +kernel
theorem dX7_busiest_14 : decode cX7_busiest 14 = .ok (.aload_n 0, 1) := by decide +kernel
theorem dX7_busiest_15 : decode cX7_busiest 15 = .ok (.getfield 42, 3) := by decide +kernel
theorem dX7_busiest_18 : decode cX7_busiest 18 = .ok (.iload_n 3, 1) := by decide +kernel
theorem dX7_busiest_19 : decode cX7_busiest 19 = .ok (.invokevirtual 99, 3) := by decide +kernel
theorem dX7_busiest_22 : decode cX7_busiest 22 = .ok (.iload_n 2, 1) := by decide +kernel
theorem dX7_busiest_23 : decode cX7_busiest 23 = .ok (.if_icmp .le 14, 3) := by decide +kernel
theorem dX7_busiest_26 : decode cX7_busiest 26 = .ok (.aload_n 0, 1) := by decide +kernel
theorem dX7_busiest_27 : decode cX7_busiest 27 = .ok (.getfield 42, 3) := by decide +kernel
theorem dX7_busiest_30 : decode cX7_busiest 30 = .ok (.iload_n 3, 1) := by decide +kernel
theorem dX7_busiest_31 : decode cX7_busiest 31 = .ok (.invokevirtual 99, 3) := by decide +kernel
theorem dX7_busiest_34 : decode cX7_busiest 34 = .ok (.istore_n 2, 1) := by decide +kernel
theorem dX7_busiest_35 : decode cX7_busiest 35 = .ok (.iload_n 3, 1) := by decide +kernel
theorem dX7_busiest_36 : decode cX7_busiest 36 = .ok (.istore_n 1, 1) := by decide +kernel
theorem dX7_busiest_37 : decode cX7_busiest 37 = .ok (.iinc 3 1, 3) := by decide +kernel
theorem dX7_busiest_40 : decode cX7_busiest 40 = .ok (.goto (-34), 3) := by decide +kernel
theorem dX7_busiest_43 : decode cX7_busiest 43 = .ok (.iload_n 1, 1) := by decide +kernel
theorem dX7_busiest_44 : decode cX7_busiest 44 = .ok (.ireturn, 1) := by decide +kernel
theorem dX7_withoutTaper_0 : decode cX7_withoutTaper 0 = .ok (.iconst 0, 1) := by decide +kernel
theorem dX7_withoutTaper_1 : decode cX7_withoutTaper 1 = .ok (.istore_n 1, 1) := by decide +kernel
theorem dX7_withoutTaper_2 : decode cX7_withoutTaper 2 = .ok (.iconst 0, 1) := by decide +kernel
theorem dX7_withoutTaper_3 : decode cX7_withoutTaper 3 = .ok (.istore_n 2, 1) := by decide +kernel
theorem dX7_withoutTaper_4 : decode cX7_withoutTaper 4 = .ok (.iload_n 2, 1) := by decide +kernel
theorem dX7_withoutTaper_5 : decode cX7_withoutTaper 5 = .ok (.aload_n 0, 1) := by decide +kernel
theorem dX7_withoutTaper_6 : decode cX7_withoutTaper 6 = .ok (.getfield 54, 3) := by decide +kernel
theorem dX7_withoutTaper_9 : decode cX7_withoutTaper 9 = .ok (.if_icmp .ge 27, 3) := by decide +kernel
theorem dX7_withoutTaper_12 : decode cX7_withoutTaper 12 = .ok (.aload_n 0, 1) := by decide +kernel
theorem dX7_withoutTaper_13 : decode cX7_withoutTaper 13 = .ok (.getfield 36, 3) := by decide +kernel
theorem dX7_withoutTaper_16 : decode cX7_withoutTaper 16 = .ok (.iload_n 2, 1) := by decide +kernel
theorem dX7_withoutTaper_17 : decode cX7_withoutTaper 17 = .ok (.invokevirtual 99, 3) := by decide +kernel
theorem dX7_withoutTaper_20 : decode cX7_withoutTaper 20 = .ok (.ifCond .ne 10, 3) := by decide +kernel
theorem dX7_withoutTaper_23 : decode cX7_withoutTaper 23 = .ok (.iload_n 1, 1) := by decide +kernel
theorem dX7_withoutTaper_24 : decode cX7_withoutTaper 24 = .ok (.iload_n 2, 1) := by decide +kernel
theorem dX7_withoutTaper_25 : decode cX7_withoutTaper 25 = .ok (.invokestatic 87, 3) := by decide +kernel
theorem dX7_withoutTaper_28 : decode cX7_withoutTaper 28 = .ok (.ior, 1) := by decide +kernel
theorem dX7_withoutTaper_29 : decode cX7_withoutTaper 29 = .ok (.istore_n 1, 1) := by decide +kernel
theorem dX7_withoutTaper_30 : decode cX7_withoutTaper 30 = .ok (.iinc 2 1, 3) := by decide +kernel
theorem dX7_withoutTaper_33 : decode cX7_withoutTaper 33 = .ok (.goto (-29), 3) := by decide +kernel
theorem dX7_withoutTaper_36 : decode cX7_withoutTaper 36 = .ok (.iload_n 1, 1) := by decide +kernel
theorem dX7_withoutTaper_37 : decode cX7_withoutTaper 37 = .ok (.ireturn, 1) := by decide +kernel
theorem dX7_fullest_0 : decode cX7_fullest 0 = .ok (.iconst (-1), 1) := by decide +kernel
theorem dX7_fullest_1 : decode cX7_fullest 1 = .ok (.istore_n 1, 1) := by decide +kernel
theorem dX7_fullest_2 : decode cX7_fullest 2 = .ok (.iconst 0, 1) := by decide +kernel
theorem dX7_fullest_3 : decode cX7_fullest 3 = .ok (.istore_n 2, 1) := by decide +kernel
theorem dX7_fullest_4 : decode cX7_fullest 4 = .ok (.iconst 0, 1) := by decide +kernel
theorem dX7_fullest_5 : decode cX7_fullest 5 = .ok (.istore_n 3, 1) := by decide +kernel
theorem dX7_fullest_6 : decode cX7_fullest 6 = .ok (.iload_n 3, 1) := by decide +kernel
theorem dX7_fullest_7 : decode cX7_fullest 7 = .ok (.aload_n 0, 1) := by decide +kernel
theorem dX7_fullest_8 : decode cX7_fullest 8 = .ok (.getfield 51, 3) := by decide +kernel
theorem dX7_fullest_11 : decode cX7_fullest 11 = .ok (.if_icmp .ge 64, 3) := by decide +kernel
theorem dX7_fullest_14 : decode cX7_fullest 14 = .ok (.iconst 0, 1) := by decide +kernel
theorem dX7_fullest_15 : decode cX7_fullest 15 = .ok (.istore 4, 2) := by decide +kernel
theorem dX7_fullest_17 : decode cX7_fullest 17 = .ok (.iconst 0, 1) := by decide +kernel
theorem dX7_fullest_18 : decode cX7_fullest 18 = .ok (.istore 5, 2) := by decide +kernel
theorem dX7_fullest_20 : decode cX7_fullest 20 = .ok (.iload 5, 2) := by decide +kernel
theorem dX7_fullest_22 : decode cX7_fullest 22 = .ok (.aload_n 0, 1) := by decide +kernel
theorem dX7_fullest_23 : decode cX7_fullest 23 = .ok (.getfield 54, 3) := by decide +kernel
theorem dX7_fullest_26 : decode cX7_fullest 26 = .ok (.if_icmp .ge 32, 3) := by decide +kernel
theorem dX7_fullest_29 : decode cX7_fullest 29 = .ok (.iload 4, 2) := by decide +kernel
theorem dX7_fullest_31 : decode cX7_fullest 31 = .ok (.aload_n 0, 1) := by decide +kernel
theorem dX7_fullest_32 : decode cX7_fullest 32 = .ok (.getfield 33, 3) := by decide +kernel
theorem dX7_fullest_35 : decode cX7_fullest 35 = .ok (.iload 5, 2) := by decide +kernel
theorem dX7_fullest_37 : decode cX7_fullest 37 = .ok (.invokevirtual 99, 3) := by decide +kernel
theorem dX7_fullest_40 : decode cX7_fullest 40 = .ok (.iload_n 3, 1) := by decide +kernel
theorem dX7_fullest_41 : decode cX7_fullest 41 = .ok (.if_icmp .ne 7, 3) := by decide +kernel
theorem dX7_fullest_44 : decode cX7_fullest 44 = .ok (.iconst 1, 1) := by decide +kernel
theorem dX7_fullest_45 : decode cX7_fullest 45 = .ok (.goto 4, 3) := by decide +kernel
theorem dX7_fullest_48 : decode cX7_fullest 48 = .ok (.iconst 0, 1) := by decide +kernel
theorem dX7_fullest_49 : decode cX7_fullest 49 = .ok (.iadd, 1) := by decide +kernel
theorem dX7_fullest_50 : decode cX7_fullest 50 = .ok (.istore 4, 2) := by decide +kernel
theorem dX7_fullest_52 : decode cX7_fullest 52 = .ok (.iinc 5 1, 3) := by decide +kernel
theorem dX7_fullest_55 : decode cX7_fullest 55 = .ok (.goto (-35), 3) := by decide +kernel
theorem dX7_fullest_58 : decode cX7_fullest 58 = .ok (.iload 4, 2) := by decide +kernel
theorem dX7_fullest_60 : decode cX7_fullest 60 = .ok (.iload_n 2, 1) := by decide +kernel
theorem dX7_fullest_61 : decode cX7_fullest 61 = .ok (.if_icmp .le 8, 3) := by decide +kernel
theorem dX7_fullest_64 : decode cX7_fullest 64 = .ok (.iload 4, 2) := by decide +kernel
theorem dX7_fullest_66 : decode cX7_fullest 66 = .ok (.istore_n 2, 1) := by decide +kernel
theorem dX7_fullest_67 : decode cX7_fullest 67 = .ok (.iload_n 3, 1) := by decide +kernel
theorem dX7_fullest_68 : decode cX7_fullest 68 = .ok (.istore_n 1, 1) := by decide +kernel
theorem dX7_fullest_69 : decode cX7_fullest 69 = .ok (.iinc 3 1, 3) := by decide +kernel
theorem dX7_fullest_72 : decode cX7_fullest 72 = .ok (.goto (-66), 3) := by decide +kernel
theorem dX7_fullest_75 : decode cX7_fullest 75 = .ok (.iload_n 1, 1) := by decide +kernel
theorem dX7_fullest_76 : decode cX7_fullest 76 = .ok (.ireturn, 1) := by decide +kernel
theorem dX7_likePairs_0 : decode cX7_likePairs 0 = .ok (.iconst 0, 1) := by decide +kernel
theorem dX7_likePairs_1 : decode cX7_likePairs 1 = .ok (.istore_n 1, 1) := by decide +kernel
theorem dX7_likePairs_2 : decode cX7_likePairs 2 = .ok (.iconst 0, 1) := by decide +kernel
theorem dX7_likePairs_3 : decode cX7_likePairs 3 = .ok (.istore_n 2, 1) := by decide +kernel
theorem dX7_likePairs_4 : decode cX7_likePairs 4 = .ok (.iload_n 2, 1) := by decide +kernel
theorem dX7_likePairs_5 : decode cX7_likePairs 5 = .ok (.aload_n 0, 1) := by decide +kernel
theorem dX7_likePairs_6 : decode cX7_likePairs 6 = .ok (.getfield 54, 3) := by decide +kernel
theorem dX7_likePairs_9 : decode cX7_likePairs 9 = .ok (.if_icmp .ge 68, 3) := by decide +kernel
theorem dX7_likePairs_12 : decode cX7_likePairs 12 = .ok (.iload_n 2, 1) := by decide +kernel
theorem dX7_likePairs_13 : decode cX7_likePairs 13 = .ok (.iconst 1, 1) := by decide +kernel
theorem dX7_likePairs_14 : decode cX7_likePairs 14 = .ok (.iadd, 1) := by decide +kernel
theorem dX7_likePairs_15 : decode cX7_likePairs 15 = .ok (.istore_n 3, 1) := by decide +kernel
theorem dX7_likePairs_16 : decode cX7_likePairs 16 = .ok (.iload_n 3, 1) := by decide +kernel
theorem dX7_likePairs_17 : decode cX7_likePairs 17 = .ok (.aload_n 0, 1) := by decide +kernel
theorem dX7_likePairs_18 : decode cX7_likePairs 18 = .ok (.getfield 54, 3) := by decide +kernel
theorem dX7_likePairs_21 : decode cX7_likePairs 21 = .ok (.if_icmp .ge 50, 3) := by decide +kernel
theorem dX7_likePairs_24 : decode cX7_likePairs 24 = .ok (.aload_n 0, 1) := by decide +kernel
theorem dX7_likePairs_25 : decode cX7_likePairs 25 = .ok (.getfield 36, 3) := by decide +kernel
theorem dX7_likePairs_28 : decode cX7_likePairs 28 = .ok (.iload_n 2, 1) := by decide +kernel
theorem dX7_likePairs_29 : decode cX7_likePairs 29 = .ok (.invokevirtual 99, 3) := by decide +kernel
theorem dX7_likePairs_32 : decode cX7_likePairs 32 = .ok (.aload_n 0, 1) := by decide +kernel
theorem dX7_likePairs_33 : decode cX7_likePairs 33 = .ok (.getfield 36, 3) := by decide +kernel
theorem dX7_likePairs_36 : decode cX7_likePairs 36 = .ok (.iload_n 3, 1) := by decide +kernel
theorem dX7_likePairs_37 : decode cX7_likePairs 37 = .ok (.invokevirtual 99, 3) := by decide +kernel
theorem dX7_likePairs_40 : decode cX7_likePairs 40 = .ok (.if_icmp .ne 25, 3) := by decide +kernel
theorem dX7_likePairs_43 : decode cX7_likePairs 43 = .ok (.aload_n 0, 1) := by decide +kernel
theorem dX7_likePairs_44 : decode cX7_likePairs 44 = .ok (.getfield 33, 3) := by decide +kernel
theorem dX7_likePairs_47 : decode cX7_likePairs 47 = .ok (.iload_n 2, 1) := by decide +kernel
theorem dX7_likePairs_48 : decode cX7_likePairs 48 = .ok (.invokevirtual 99, 3) := by decide +kernel
theorem dX7_likePairs_51 : decode cX7_likePairs 51 = .ok (.aload_n 0, 1) := by decide +kernel
theorem dX7_likePairs_52 : decode cX7_likePairs 52 = .ok (.getfield 33, 3) := by decide +kernel
theorem dX7_likePairs_55 : decode cX7_likePairs 55 = .ok (.iload_n 3, 1) := by decide +kernel
theorem dX7_likePairs_56 : decode cX7_likePairs 56 = .ok (.invokevirtual 99, 3) := by decide +kernel
theorem dX7_likePairs_59 : decode cX7_likePairs 59 = .ok (.if_icmp .ne 6, 3) := by decide +kernel
theorem dX7_likePairs_62 : decode cX7_likePairs 62 = .ok (.iinc 1 1, 3) := by decide +kernel
theorem dX7_likePairs_65 : decode cX7_likePairs 65 = .ok (.iinc 3 1, 3) := by decide +kernel
theorem dX7_likePairs_68 : decode cX7_likePairs 68 = .ok (.goto (-52), 3) := by decide +kernel
theorem dX7_likePairs_71 : decode cX7_likePairs 71 = .ok (.iinc 2 1, 3) := by decide +kernel
theorem dX7_likePairs_74 : decode cX7_likePairs 74 = .ok (.goto (-70), 3) := by decide +kernel
theorem dX7_likePairs_77 : decode cX7_likePairs 77 = .ok (.iload_n 1, 1) := by decide +kernel
theorem dX7_likePairs_78 : decode cX7_likePairs 78 = .ok (.ireturn, 1) := by decide +kernel
theorem dX7_giveOneByOne_0 : decode cX7_giveOneByOne 0 = .ok (.iconst 0, 1) := by decide +kernel
theorem dX7_giveOneByOne_1 : decode cX7_giveOneByOne 1 = .ok (.istore_n 2, 1) := by decide +kernel
theorem dX7_giveOneByOne_2 : decode cX7_giveOneByOne 2 = .ok (.iload_n 2, 1) := by decide +kernel
theorem dX7_giveOneByOne_3 : decode cX7_giveOneByOne 3 = .ok (.iload_n 1, 1) := by decide +kernel
theorem dX7_giveOneByOne_4 : decode cX7_giveOneByOne 4 = .ok (.if_icmp .ge 85, 3) := by decide +kernel
theorem dX7_giveOneByOne_7 : decode cX7_giveOneByOne 7 = .ok (.iconst (-1), 1) := by decide +kernel
theorem dX7_giveOneByOne_8 : decode cX7_giveOneByOne 8 = .ok (.istore_n 3, 1) := by decide +kernel
theorem dX7_giveOneByOne_9 : decode cX7_giveOneByOne 9 = .ok (.iconst 0, 1) := by decide +kernel
theorem dX7_giveOneByOne_10 : decode cX7_giveOneByOne 10 = .ok (.istore 4, 2) := by decide +kernel
theorem dX7_giveOneByOne_12 : decode cX7_giveOneByOne 12 = .ok (.iload 4, 2) := by decide +kernel
theorem dX7_giveOneByOne_14 : decode cX7_giveOneByOne 14 = .ok (.aload_n 0, 1) := by decide +kernel
theorem dX7_giveOneByOne_15 : decode cX7_giveOneByOne 15 = .ok (.getfield 51, 3) := by decide +kernel
theorem dX7_giveOneByOne_18 : decode cX7_giveOneByOne 18 = .ok (.if_icmp .ge 37, 3) := by decide +kernel
theorem dX7_giveOneByOne_21 : decode cX7_giveOneByOne 21 = .ok (.iload_n 3, 1) := by decide +kernel
theorem dX7_giveOneByOne_22 : decode cX7_giveOneByOne 22 = .ok (.iconst (-1), 1) := by decide +kernel
theorem dX7_giveOneByOne_23 : decode cX7_giveOneByOne 23 = .ok (.if_icmp .eq 23, 3) := by decide +kernel
theorem dX7_giveOneByOne_26 : decode cX7_giveOneByOne 26 = .ok (.aload_n 0, 1) := by decide +kernel
theorem dX7_giveOneByOne_27 : decode cX7_giveOneByOne 27 = .ok (.getfield 20, 3) := by decide +kernel
theorem dX7_giveOneByOne_30 : decode cX7_giveOneByOne 30 = .ok (.iload 4, 2) := by decide +kernel
theorem dX7_giveOneByOne_32 : decode cX7_giveOneByOne 32 = .ok (.invokevirtual 99, 3) := by decide +kernel
theorem dX7_giveOneByOne_35 : decode cX7_giveOneByOne 35 = .ok (.aload_n 0, 1) := by decide +kernel
theorem dX7_giveOneByOne_36 : decode cX7_giveOneByOne 36 = .ok (.getfield 20, 3) := by decide +kernel
theorem dX7_giveOneByOne_39 : decode cX7_giveOneByOne 39 = .ok (.iload_n 3, 1) := by decide +kernel
theorem dX7_giveOneByOne_40 : decode cX7_giveOneByOne 40 = .ok (.invokevirtual 99, 3) := by decide +kernel
theorem dX7_giveOneByOne_43 : decode cX7_giveOneByOne 43 = .ok (.if_icmp .ge 6, 3) := by decide +kernel
theorem dX7_giveOneByOne_46 : decode cX7_giveOneByOne 46 = .ok (.iload 4, 2) := by decide +kernel
theorem dX7_giveOneByOne_48 : decode cX7_giveOneByOne 48 = .ok (.istore_n 3, 1) := by decide +kernel
theorem dX7_giveOneByOne_49 : decode cX7_giveOneByOne 49 = .ok (.iinc 4 1, 3) := by decide +kernel
theorem dX7_giveOneByOne_52 : decode cX7_giveOneByOne 52 = .ok (.goto (-40), 3) := by decide +kernel
theorem dX7_giveOneByOne_55 : decode cX7_giveOneByOne 55 = .ok (.iload_n 3, 1) := by decide +kernel
theorem dX7_giveOneByOne_56 : decode cX7_giveOneByOne 56 = .ok (.iconst (-1), 1) := by decide +kernel
theorem dX7_giveOneByOne_57 : decode cX7_giveOneByOne 57 = .ok (.if_icmp .eq 16, 3) := by decide +kernel
theorem dX7_giveOneByOne_60 : decode cX7_giveOneByOne 60 = .ok (.aload_n 0, 1) := by decide +kernel
theorem dX7_giveOneByOne_61 : decode cX7_giveOneByOne 61 = .ok (.getfield 20, 3) := by decide +kernel
theorem dX7_giveOneByOne_64 : decode cX7_giveOneByOne 64 = .ok (.iload_n 3, 1) := by decide +kernel
theorem dX7_giveOneByOne_65 : decode cX7_giveOneByOne 65 = .ok (.invokevirtual 99, 3) := by decide +kernel
theorem dX7_giveOneByOne_68 : decode cX7_giveOneByOne 68 = .ok (.bipush 99, 2) := by decide +kernel
theorem dX7_giveOneByOne_70 : decode cX7_giveOneByOne 70 = .ok (.if_icmp .lt 4, 3) := by decide +kernel
theorem dX7_giveOneByOne_73 : decode cX7_giveOneByOne 73 = .ok (.return_, 1) := by decide +kernel
theorem dX7_giveOneByOne_74 : decode cX7_giveOneByOne 74 = .ok (.aload_n 0, 1) := by decide +kernel
theorem dX7_giveOneByOne_75 : decode cX7_giveOneByOne 75 = .ok (.getfield 20, 3) := by decide +kernel
theorem dX7_giveOneByOne_78 : decode cX7_giveOneByOne 78 = .ok (.iload_n 3, 1) := by decide +kernel
theorem dX7_giveOneByOne_79 : decode cX7_giveOneByOne 79 = .ok (.iconst 1, 1) := by decide +kernel
theorem dX7_giveOneByOne_80 : decode cX7_giveOneByOne 80 = .ok (.invokevirtual 116, 3) := by decide +kernel
theorem dX7_giveOneByOne_83 : decode cX7_giveOneByOne 83 = .ok (.iinc 2 1, 3) := by decide +kernel
theorem dX7_giveOneByOne_86 : decode cX7_giveOneByOne 86 = .ok (.goto (-84), 3) := by decide +kernel
theorem dX7_giveOneByOne_89 : decode cX7_giveOneByOne 89 = .ok (.return_, 1) := by decide +kernel
theorem dX8_readAll_0 : decode cX8_readAll 0 = .ok (.iconst 0, 1) := by decide +kernel
theorem dX8_readAll_1 : decode cX8_readAll 1 = .ok (.istore_n 2, 1) := by decide +kernel
theorem dX8_readAll_2 : decode cX8_readAll 2 = .ok (.iload_n 2, 1) := by decide +kernel
theorem dX8_readAll_3 : decode cX8_readAll 3 = .ok (.bipush 14, 2) := by decide +kernel
theorem dX8_readAll_5 : decode cX8_readAll 5 = .ok (.if_icmp .gt 29, 3) := by decide +kernel
theorem dX8_readAll_8 : decode cX8_readAll 8 = .ok (.aload_n 0, 1) := by decide +kernel
theorem dX8_readAll_9 : decode cX8_readAll 9 = .ok (.iload_n 2, 1) := by decide +kernel
theorem dX8_readAll_10 : decode cX8_readAll 10 = .ok (.bipush 14, 2) := by decide +kernel
theorem dX8_readAll_12 : decode cX8_readAll 12 = .ok (.invokevirtual 9, 3) := by decide +kernel
theorem dX8_readAll_15 : decode cX8_readAll 15 = .ok (.ifCond .eq 19, 3) := by decide +kernel
theorem dX8_readAll_18 : decode cX8_readAll 18 = .ok (.aload_n 0, 1) := by decide +kernel
theorem dX8_readAll_19 : decode cX8_readAll 19 = .ok (.aload_n 1, 1) := by decide +kernel
theorem dX8_readAll_20 : decode cX8_readAll 20 = .ok (.invokestatic 15, 3) := by decide +kernel
theorem dX8_readAll_23 : decode cX8_readAll 23 = .ok (.ifCond .ne 5, 3) := by decide +kernel
theorem dX8_readAll_26 : decode cX8_readAll 26 = .ok (.iconst 0, 1) := by decide +kernel
theorem dX8_readAll_27 : decode cX8_readAll 27 = .ok (.ireturn, 1) := by decide +kernel
theorem dX8_readAll_28 : decode cX8_readAll 28 = .ok (.iinc 2 1, 3) := by decide +kernel
theorem dX8_readAll_31 : decode cX8_readAll 31 = .ok (.goto (-29), 3) := by decide +kernel
theorem dX8_readAll_34 : decode cX8_readAll 34 = .ok (.aload_n 0, 1) := by decide +kernel
theorem dX8_readAll_35 : decode cX8_readAll 35 = .ok (.getfield 21, 3) := by decide +kernel
theorem dX8_readAll_38 : decode cX8_readAll 38 = .ok (.iconst (-1), 1) := by decide +kernel
theorem dX8_readAll_39 : decode cX8_readAll 39 = .ok (.if_icmp .ne 7, 3) := by decide +kernel
theorem dX8_readAll_42 : decode cX8_readAll 42 = .ok (.iconst 1, 1) := by decide +kernel
theorem dX8_readAll_43 : decode cX8_readAll 43 = .ok (.goto 4, 3) := by decide +kernel
theorem dX8_readAll_46 : decode cX8_readAll 46 = .ok (.iconst 0, 1) := by decide +kernel
theorem dX8_readAll_47 : decode cX8_readAll 47 = .ok (.ireturn, 1) := by decide +kernel
theorem dX8_readLine_0 : decode cX8_readLine 0 = .ok (.aload_n 1, 1) := by decide +kernel
theorem dX8_readLine_1 : decode cX8_readLine 1 = .ok (.getfield 25, 3) := by decide +kernel
theorem dX8_readLine_4 : decode cX8_readLine 4 = .ok (.bipush 9, 2) := by decide +kernel
theorem dX8_readLine_6 : decode cX8_readLine 6 = .ok (.if_icmp .ge 19, 3) := by decide +kernel
theorem dX8_readLine_9 : decode cX8_readLine 9 = .ok (.aload_n 0, 1) := by decide +kernel
theorem dX8_readLine_10 : decode cX8_readLine 10 = .ok (.getstatic 30, 3) := by decide +kernel
theorem dX8_readLine_13 : decode cX8_readLine 13 = .ok (.invokevirtual 36, 3) := by decide +kernel
theorem dX8_readLine_16 : decode cX8_readLine 16 = .ok (.ifCond .eq 9, 3) := by decide +kernel
theorem dX8_readLine_19 : decode cX8_readLine 19 = .ok (.aload_n 0, 1) := by decide +kernel
theorem dX8_readLine_20 : decode cX8_readLine 20 = .ok (.aload_n 1, 1) := by decide +kernel
theorem dX8_readLine_21 : decode cX8_readLine 21 = .ok (.invokestatic 40, 3) := by decide +kernel
theorem dX8_readLine_24 : decode cX8_readLine 24 = .ok (.ireturn, 1) := by decide +kernel
theorem dX8_readLine_25 : decode cX8_readLine 25 = .ok (.aload_n 1, 1) := by decide +kernel
theorem dX8_readLine_26 : decode cX8_readLine 26 = .ok (.getfield 43, 3) := by decide +kernel
theorem dX8_readLine_29 : decode cX8_readLine 29 = .ok (.bipush 6, 2) := by decide +kernel
theorem dX8_readLine_31 : decode cX8_readLine 31 = .ok (.if_icmp .ge 19, 3) := by decide +kernel
theorem dX8_readLine_34 : decode cX8_readLine 34 = .ok (.aload_n 0, 1) := by decide +kernel
theorem dX8_readLine_35 : decode cX8_readLine 35 = .ok (.getstatic 46, 3) := by decide +kernel
theorem dX8_readLine_38 : decode cX8_readLine 38 = .ok (.invokevirtual 36, 3) := by decide +kernel
theorem dX8_readLine_41 : decode cX8_readLine 41 = .ok (.ifCond .eq 9, 3) := by decide +kernel
theorem dX8_readLine_44 : decode cX8_readLine 44 = .ok (.aload_n 0, 1) := by decide +kernel
theorem dX8_readLine_45 : decode cX8_readLine 45 = .ok (.aload_n 1, 1) := by decide +kernel
theorem dX8_readLine_46 : decode cX8_readLine 46 = .ok (.invokestatic 49, 3) := by decide +kernel
theorem dX8_readLine_49 : decode cX8_readLine 49 = .ok (.ireturn, 1) := by decide +kernel
theorem dX8_readLine_50 : decode cX8_readLine 50 = .ok (.aload_n 0, 1) := by decide +kernel
theorem dX8_readLine_51 : decode cX8_readLine 51 = .ok (.getstatic 52, 3) := by decide +kernel
theorem dX8_readLine_54 : decode cX8_readLine 54 = .ok (.invokevirtual 36, 3) := by decide +kernel
theorem dX8_readLine_57 : decode cX8_readLine 57 = .ok (.ifCond .eq 9, 3) := by decide +kernel
theorem dX8_readLine_60 : decode cX8_readLine 60 = .ok (.aload_n 0, 1) := by decide +kernel
theorem dX8_readLine_61 : decode cX8_readLine 61 = .ok (.aload_n 1, 1) := by decide +kernel
theorem dX8_readLine_62 : decode cX8_readLine 62 = .ok (.invokestatic 55, 3) := by decide +kernel
theorem dX8_readLine_65 : decode cX8_readLine 65 = .ok (.ireturn, 1) := by decide +kernel
theorem dX8_readLine_66 : decode cX8_readLine 66 = .ok (.aload_n 0, 1) := by decide +kernel
theorem dX8_readLine_67 : decode cX8_readLine 67 = .ok (.getstatic 58, 3) := by decide +kernel
theorem dX8_readLine_70 : decode cX8_readLine 70 = .ok (.invokevirtual 36, 3) := by decide +kernel
theorem dX8_readLine_73 : decode cX8_readLine 73 = .ok (.ifCond .eq 9, 3) := by decide +kernel
theorem dX8_readLine_76 : decode cX8_readLine 76 = .ok (.aload_n 0, 1) := by decide +kernel
theorem dX8_readLine_77 : decode cX8_readLine 77 = .ok (.aload_n 1, 1) := by decide +kernel
theorem dX8_readLine_78 : decode cX8_readLine 78 = .ok (.invokestatic 61, 3) := by decide +kernel
theorem dX8_readLine_81 : decode cX8_readLine 81 = .ok (.ireturn, 1) := by decide +kernel
theorem dX8_readLine_82 : decode cX8_readLine 82 = .ok (.aload_n 0, 1) := by decide +kernel
theorem dX8_readLine_83 : decode cX8_readLine 83 = .ok (.aload_n 1, 1) := by decide +kernel
theorem dX8_readLine_84 : decode cX8_readLine 84 = .ok (.invokestatic 64, 3) := by decide +kernel
theorem dX8_readLine_87 : decode cX8_readLine 87 = .ok (.ireturn, 1) := by decide +kernel
theorem dX8_readPane_0 : decode cX8_readPane 0 = .ok (.bipush 20, 2) := by decide +kernel
theorem dX8_readPane_2 : decode cX8_readPane 2 = .ok (.istore_n 2, 1) := by decide +kernel
theorem dX8_readPane_3 : decode cX8_readPane 3 = .ok (.aload_n 0, 1) := by decide +kernel
theorem dX8_readPane_4 : decode cX8_readPane 4 = .ok (.getstatic 67, 3) := by decide +kernel
theorem dX8_readPane_7 : decode cX8_readPane 7 = .ok (.invokevirtual 36, 3) := by decide +kernel
theorem dX8_readPane_10 : decode cX8_readPane 10 = .ok (.ifCond .eq 16, 3) := by decide +kernel
theorem dX8_readPane_13 : decode cX8_readPane 13 = .ok (.aload_n 0, 1) := by decide +kernel
theorem dX8_readPane_14 : decode cX8_readPane 14 = .ok (.bipush 99, 2) := by decide +kernel
theorem dX8_readPane_16 : decode cX8_readPane 16 = .ok (.invokevirtual 70, 3) := by decide +kernel
theorem dX8_readPane_19 : decode cX8_readPane 19 = .ok (.istore_n 2, 1) := by decide +kernel
theorem dX8_readPane_20 : decode cX8_readPane 20 = .ok (.iload_n 2, 1) := by decide +kernel
theorem dX8_readPane_21 : decode cX8_readPane 21 = .ok (.ifCond .ge 5, 3) := by decide +kernel
theorem dX8_readPane_24 : decode cX8_readPane 24 = .ok (.iconst 0, 1) := by decide +kernel
theorem dX8_readPane_25 : decode cX8_readPane 25 = .ok (.ireturn, 1) := by decide +kernel
theorem dX8_readPane_26 : decode cX8_readPane 26 = .ok (.iload_n 2, 1) := by decide +kernel
theorem dX8_readPane_27 : decode cX8_readPane 27 = .ok (.ifCond .le 17, 3) := by decide +kernel
theorem dX8_readPane_30 : decode cX8_readPane 30 = .ok (.aload_n 0, 1) := by decide +kernel
theorem dX8_readPane_31 : decode cX8_readPane 31 = .ok (.getstatic 74, 3) := by decide +kernel
theorem dX8_readPane_34 : decode cX8_readPane 34 = .ok (.invokevirtual 36, 3) := by decide +kernel
theorem dX8_readPane_37 : decode cX8_readPane 37 = .ok (.ifCond .eq 7, 3) := by decide +kernel
theorem dX8_readPane_40 : decode cX8_readPane 40 = .ok (.iconst 1, 1) := by decide +kernel
theorem dX8_readPane_41 : decode cX8_readPane 41 = .ok (.goto 4, 3) := by decide +kernel
theorem dX8_readPane_44 : decode cX8_readPane 44 = .ok (.iconst 0, 1) := by decide +kernel
theorem dX8_readPane_45 : decode cX8_readPane 45 = .ok (.istore_n 3, 1) := by decide +kernel
theorem dX8_readPane_46 : decode cX8_readPane 46 = .ok (.aload_n 1, 1) := by decide +kernel
theorem dX8_readPane_47 : decode cX8_readPane 47 = .ok (.iload_n 2, 1) := by decide +kernel
theorem dX8_readPane_48 : decode cX8_readPane 48 = .ok (.iload_n 3, 1) := by decide +kernel
theorem dX8_readPane_49 : decode cX8_readPane 49 = .ok (.invokevirtual 77, 3) := by decide +kernel
theorem dX8_readPane_52 : decode cX8_readPane 52 = .ok (.iconst 1, 1) := by decide +kernel
theorem dX8_readPane_53 : decode cX8_readPane 53 = .ok (.ireturn, 1) := by decide +kernel
theorem dX8_readWalker_0 : decode cX8_readWalker 0 = .ok (.aload_n 0, 1) := by decide +kernel
theorem dX8_readWalker_1 : decode cX8_readWalker 1 = .ok (.getstatic 81, 3) := by decide +kernel
theorem dX8_readWalker_4 : decode cX8_readWalker 4 = .ok (.invokevirtual 84, 3) := by decide +kernel
theorem dX8_readWalker_7 : decode cX8_readWalker 7 = .ok (.ifCond .eq 16, 3) := by decide +kernel
theorem dX8_readWalker_10 : decode cX8_readWalker 10 = .ok (.aload_n 0, 1) := by decide +kernel
theorem dX8_readWalker_11 : decode cX8_readWalker 11 = .ok (.aload_n 1, 1) := by decide +kernel
theorem dX8_readWalker_12 : decode cX8_readWalker 12 = .ok (.getfield 25, 3) := by decide +kernel
theorem dX8_readWalker_15 : decode cX8_readWalker 15 = .ok (.iconst 1, 1) := by decide +kernel
theorem dX8_readWalker_16 : decode cX8_readWalker 16 = .ok (.isub, 1) := by decide +kernel
theorem dX8_readWalker_17 : decode cX8_readWalker 17 = .ok (.invokevirtual 70, 3) := by decide +kernel
theorem dX8_readWalker_20 : decode cX8_readWalker 20 = .ok (.goto 4, 3) := by decide +kernel
theorem dX8_readWalker_23 : decode cX8_readWalker 23 = .ok (.iconst (-1), 1) := by decide +kernel
theorem dX8_readWalker_24 : decode cX8_readWalker 24 = .ok (.istore_n 2, 1) := by decide +kernel
theorem dX8_readWalker_25 : decode cX8_readWalker 25 = .ok (.iload_n 2, 1) := by decide +kernel
theorem dX8_readWalker_26 : decode cX8_readWalker 26 = .ok (.ifCond .lt 22, 3) := by decide +kernel
theorem dX8_readWalker_29 : decode cX8_readWalker 29 = .ok (.aload_n 0, 1) := by decide +kernel
theorem dX8_readWalker_30 : decode cX8_readWalker 30 = .ok (.getstatic 87, 3) := by decide +kernel
theorem dX8_readWalker_33 : decode cX8_readWalker 33 = .ok (.invokevirtual 84, 3) := by decide +kernel
theorem dX8_readWalker_36 : decode cX8_readWalker 36 = .ok (.ifCond .eq 12, 3) := by decide +kernel
theorem dX8_readWalker_39 : decode cX8_readWalker 39 = .ok (.aload_n 0, 1) := by decide +kernel
theorem dX8_readWalker_40 : decode cX8_readWalker 40 = .ok (.bipush 99, 2) := by decide +kernel
theorem dX8_readWalker_42 : decode cX8_readWalker 42 = .ok (.invokevirtual 70, 3) := by decide +kernel
theorem dX8_readWalker_45 : decode cX8_readWalker 45 = .ok (.goto 4, 3) := by decide +kernel
theorem dX8_readWalker_48 : decode cX8_readWalker 48 = .ok (.iconst (-1), 1) := by decide +kernel
theorem dX8_readWalker_49 : decode cX8_readWalker 49 = .ok (.istore_n 3, 1) := by decide +kernel
theorem dX8_readWalker_50 : decode cX8_readWalker 50 = .ok (.iload_n 3, 1) := by decide +kernel
theorem dX8_readWalker_51 : decode cX8_readWalker 51 = .ok (.ifCond .ge 5, 3) := by decide +kernel
theorem dX8_readWalker_54 : decode cX8_readWalker 54 = .ok (.iconst 0, 1) := by decide +kernel
theorem dX8_readWalker_55 : decode cX8_readWalker 55 = .ok (.ireturn, 1) := by decide +kernel
theorem dX8_readWalker_56 : decode cX8_readWalker 56 = .ok (.iconst (-1), 1) := by decide +kernel
theorem dX8_readWalker_57 : decode cX8_readWalker 57 = .ok (.istore 4, 2) := by decide +kernel
theorem dX8_readWalker_59 : decode cX8_readWalker 59 = .ok (.aload_n 0, 1) := by decide +kernel
theorem dX8_readWalker_60 : decode cX8_readWalker 60 = .ok (.getstatic 90, 3) := by decide +kernel
theorem dX8_readWalker_63 : decode cX8_readWalker 63 = .ok (.invokevirtual 36, 3) := by decide +kernel
theorem dX8_readWalker_66 : decode cX8_readWalker 66 = .ok (.ifCond .eq 40, 3) := by decide +kernel
theorem dX8_readWalker_69 : decode cX8_readWalker 69 = .ok (.aload_n 0, 1) := by decide +kernel
theorem dX8_readWalker_70 : decode cX8_readWalker 70 = .ok (.aload_n 1, 1) := by decide +kernel
theorem dX8_readWalker_71 : decode cX8_readWalker 71 = .ok (.getfield 25, 3) := by decide +kernel
theorem dX8_readWalker_74 : decode cX8_readWalker 74 = .ok (.iconst 1, 1) := by decide +kernel
theorem dX8_readWalker_75 : decode cX8_readWalker 75 = .ok (.isub, 1) := by decide +kernel
theorem dX8_readWalker_76 : decode cX8_readWalker 76 = .ok (.invokevirtual 70, 3) := by decide +kernel
theorem dX8_readWalker_79 : decode cX8_readWalker 79 = .ok (.istore 4, 2) := by decide +kernel
theorem dX8_readWalker_81 : decode cX8_readWalker 81 = .ok (.iload 4, 2) := by decide +kernel
theorem dX8_readWalker_83 : decode cX8_readWalker 83 = .ok (.ifCond .ge 5, 3) := by decide +kernel
theorem dX8_readWalker_86 : decode cX8_readWalker 86 = .ok (.iconst 0, 1) := by decide +kernel
theorem dX8_readWalker_87 : decode cX8_readWalker 87 = .ok (.ireturn, 1) := by decide +kernel
theorem dX8_readWalker_88 : decode cX8_readWalker 88 = .ok (.aload_n 1, 1) := by decide +kernel
theorem dX8_readWalker_89 : decode cX8_readWalker 89 = .ok (.getfield 93, 3) := by decide +kernel
theorem dX8_readWalker_92 : decode cX8_readWalker 92 = .ok (.iload 4, 2) := by decide +kernel
theorem dX8_readWalker_94 : decode cX8_readWalker 94 = .ok (.invokevirtual 97, 3) := by decide +kernel
theorem dX8_readWalker_97 : decode cX8_readWalker 97 = .ok (.iconst (-1), 1) := by decide +kernel
theorem dX8_readWalker_98 : decode cX8_readWalker 98 = .ok (.if_icmp .eq 8, 3) := by decide +kernel
theorem dX8_readWalker_101 : decode cX8_readWalker 101 = .ok (.aload_n 0, 1) := by decide +kernel
theorem dX8_readWalker_102 : decode cX8_readWalker 102 = .ok (.invokevirtual 102, 3) := by decide +kernel
theorem dX8_readWalker_105 : decode cX8_readWalker 105 = .ok (.ireturn, 1) := by decide +kernel
theorem dX8_readWalker_106 : decode cX8_readWalker 106 = .ok (.iconst (-1), 1) := by decide +kernel
theorem dX8_readWalker_107 : decode cX8_readWalker 107 = .ok (.istore 5, 2) := by decide +kernel
theorem dX8_readWalker_109 : decode cX8_readWalker 109 = .ok (.aload_n 0, 1) := by decide +kernel
theorem dX8_readWalker_110 : decode cX8_readWalker 110 = .ok (.getstatic 106, 3) := by decide +kernel
theorem dX8_readWalker_113 : decode cX8_readWalker 113 = .ok (.invokevirtual 36, 3) := by decide +kernel
theorem dX8_readWalker_116 : decode cX8_readWalker 116 = .ok (.ifCond .eq 22, 3) := by decide +kernel
theorem dX8_readWalker_119 : decode cX8_readWalker 119 = .ok (.aload_n 0, 1) := by decide +kernel
theorem dX8_readWalker_120 : decode cX8_readWalker 120 = .ok (.aload_n 1, 1) := by decide +kernel
theorem dX8_readWalker_121 : decode cX8_readWalker 121 = .ok (.getfield 25, 3) := by decide +kernel
theorem dX8_readWalker_124 : decode cX8_readWalker 124 = .ok (.iconst 1, 1) := by decide +kernel
theorem dX8_readWalker_125 : decode cX8_readWalker 125 = .ok (.isub, 1) := by decide +kernel
theorem dX8_readWalker_126 : decode cX8_readWalker 126 = .ok (.invokevirtual 70, 3) := by decide +kernel
theorem dX8_readWalker_129 : decode cX8_readWalker 129 = .ok (.istore 5, 2) := by decide +kernel
theorem dX8_readWalker_131 : decode cX8_readWalker 131 = .ok (.iload 5, 2) := by decide +kernel
theorem dX8_readWalker_133 : decode cX8_readWalker 133 = .ok (.ifCond .ge 5, 3) := by decide +kernel
theorem dX8_readWalker_136 : decode cX8_readWalker 136 = .ok (.iconst 0, 1) := by decide +kernel
theorem dX8_readWalker_137 : decode cX8_readWalker 137 = .ok (.ireturn, 1) := by decide +kernel
theorem dX8_readWalker_138 : decode cX8_readWalker 138 = .ok (.iload 4, 2) := by decide +kernel
theorem dX8_readWalker_140 : decode cX8_readWalker 140 = .ok (.ifCond .lt 16, 3) := by decide +kernel
theorem dX8_readWalker_143 : decode cX8_readWalker 143 = .ok (.aload_n 1, 1) := by decide +kernel
theorem dX8_readWalker_144 : decode cX8_readWalker 144 = .ok (.getfield 93, 3) := by decide +kernel
theorem dX8_readWalker_147 : decode cX8_readWalker 147 = .ok (.iload 4, 2) := by decide +kernel
theorem dX8_readWalker_149 : decode cX8_readWalker 149 = .ok (.aload_n 1, 1) := by decide +kernel
theorem dX8_readWalker_150 : decode cX8_readWalker 150 = .ok (.getfield 43, 3) := by decide +kernel
theorem dX8_readWalker_153 : decode cX8_readWalker 153 = .ok (.invokevirtual 109, 3) := by decide +kernel
theorem dX8_readWalker_156 : decode cX8_readWalker 156 = .ok (.aload_n 1, 1) := by decide +kernel
theorem dX8_readWalker_157 : decode cX8_readWalker 157 = .ok (.iload_n 2, 1) := by decide +kernel
theorem dX8_readWalker_158 : decode cX8_readWalker 158 = .ok (.iload_n 3, 1) := by decide +kernel
theorem dX8_readWalker_159 : decode cX8_readWalker 159 = .ok (.iload 5, 2) := by decide +kernel
theorem dX8_readWalker_161 : decode cX8_readWalker 161 = .ok (.invokevirtual 113, 3) := by decide +kernel
theorem dX8_readWalker_164 : decode cX8_readWalker 164 = .ok (.iconst 1, 1) := by decide +kernel
theorem dX8_readWalker_165 : decode cX8_readWalker 165 = .ok (.ireturn, 1) := by decide +kernel
theorem dX8_readWay_0 : decode cX8_readWay 0 = .ok (.aload_n 0, 1) := by decide +kernel
theorem dX8_readWay_1 : decode cX8_readWay 1 = .ok (.aload_n 1, 1) := by decide +kernel
theorem dX8_readWay_2 : decode cX8_readWay 2 = .ok (.getfield 25, 3) := by decide +kernel
theorem dX8_readWay_5 : decode cX8_readWay 5 = .ok (.iconst 1, 1) := by decide +kernel
theorem dX8_readWay_6 : decode cX8_readWay 6 = .ok (.isub, 1) := by decide +kernel
theorem dX8_readWay_7 : decode cX8_readWay 7 = .ok (.invokevirtual 70, 3) := by decide +kernel
theorem dX8_readWay_10 : decode cX8_readWay 10 = .ok (.istore_n 2, 1) := by decide +kernel
theorem dX8_readWay_11 : decode cX8_readWay 11 = .ok (.iload_n 2, 1) := by decide +kernel
theorem dX8_readWay_12 : decode cX8_readWay 12 = .ok (.ifCond .lt 16, 3) := by decide +kernel
theorem dX8_readWay_15 : decode cX8_readWay 15 = .ok (.aload_n 0, 1) := by decide +kernel
theorem dX8_readWay_16 : decode cX8_readWay 16 = .ok (.aload_n 1, 1) := by decide +kernel
theorem dX8_readWay_17 : decode cX8_readWay 17 = .ok (.getfield 25, 3) := by decide +kernel
theorem dX8_readWay_20 : decode cX8_readWay 20 = .ok (.iconst 1, 1) := by decide +kernel
theorem dX8_readWay_21 : decode cX8_readWay 21 = .ok (.isub, 1) := by decide +kernel
theorem dX8_readWay_22 : decode cX8_readWay 22 = .ok (.invokevirtual 70, 3) := by decide +kernel
theorem dX8_readWay_25 : decode cX8_readWay 25 = .ok (.goto 4, 3) := by decide +kernel
theorem dX8_readWay_28 : decode cX8_readWay 28 = .ok (.iconst (-1), 1) := by decide +kernel
theorem dX8_readWay_29 : decode cX8_readWay 29 = .ok (.istore_n 3, 1) := by decide +kernel
theorem dX8_readWay_30 : decode cX8_readWay 30 = .ok (.iload_n 3, 1) := by decide +kernel
theorem dX8_readWay_31 : decode cX8_readWay 31 = .ok (.ifCond .ge 5, 3) := by decide +kernel
theorem dX8_readWay_34 : decode cX8_readWay 34 = .ok (.iconst 0, 1) := by decide +kernel
theorem dX8_readWay_35 : decode cX8_readWay 35 = .ok (.ireturn, 1) := by decide +kernel
theorem dX8_readWay_36 : decode cX8_readWay 36 = .ok (.iload_n 3, 1) := by decide +kernel
theorem dX8_readWay_37 : decode cX8_readWay 37 = .ok (.iload_n 2, 1) := by decide +kernel
theorem dX8_readWay_38 : decode cX8_readWay 38 = .ok (.if_icmp .ne 8, 3) := by decide +kernel
theorem dX8_readWay_41 : decode cX8_readWay 41 = .ok (.aload_n 0, 1) := by decide +kernel
theorem dX8_readWay_42 : decode cX8_readWay 42 = .ok (.invokevirtual 102, 3) := by decide +kernel
theorem dX8_readWay_45 : decode cX8_readWay 45 = .ok (.ireturn, 1) := by decide +kernel
theorem dX8_readWay_46 : decode cX8_readWay 46 = .ok (.aload_n 1, 1) := by decide +kernel
theorem dX8_readWay_47 : decode cX8_readWay 47 = .ok (.iload_n 2, 1) := by decide +kernel
theorem dX8_readWay_48 : decode cX8_readWay 48 = .ok (.iload_n 3, 1) := by decide +kernel
theorem dX8_readWay_49 : decode cX8_readWay 49 = .ok (.iconst 1, 1) := by decide +kernel
theorem dX8_readWay_50 : decode cX8_readWay 50 = .ok (.invokevirtual 117, 3) := by decide +kernel
theorem dX8_readWay_53 : decode cX8_readWay 53 = .ok (.iconst 1, 1) := by decide +kernel
theorem dX8_readWay_54 : decode cX8_readWay 54 = .ok (.ireturn, 1) := by decide +kernel
theorem dX8_readLikes_0 : decode cX8_readLikes 0 = .ok (.aload_n 0, 1) := by decide +kernel
theorem dX8_readLikes_1 : decode cX8_readLikes 1 = .ok (.aload_n 1, 1) := by decide +kernel
theorem dX8_readLikes_2 : decode cX8_readLikes 2 = .ok (.getfield 43, 3) := by decide +kernel
theorem dX8_readLikes_5 : decode cX8_readLikes 5 = .ok (.iconst 1, 1) := by decide +kernel
theorem dX8_readLikes_6 : decode cX8_readLikes 6 = .ok (.isub, 1) := by decide +kernel
theorem dX8_readLikes_7 : decode cX8_readLikes 7 = .ok (.invokevirtual 70, 3) := by decide +kernel
theorem dX8_readLikes_10 : decode cX8_readLikes 10 = .ok (.istore_n 2, 1) := by decide +kernel
theorem dX8_readLikes_11 : decode cX8_readLikes 11 = .ok (.iload_n 2, 1) := by decide +kernel
theorem dX8_readLikes_12 : decode cX8_readLikes 12 = .ok (.ifCond .lt 16, 3) := by decide +kernel
theorem dX8_readLikes_15 : decode cX8_readLikes 15 = .ok (.aload_n 0, 1) := by decide +kernel
theorem dX8_readLikes_16 : decode cX8_readLikes 16 = .ok (.aload_n 1, 1) := by decide +kernel
theorem dX8_readLikes_17 : decode cX8_readLikes 17 = .ok (.getfield 43, 3) := by decide +kernel
theorem dX8_readLikes_20 : decode cX8_readLikes 20 = .ok (.iconst 1, 1) := by decide +kernel
theorem dX8_readLikes_21 : decode cX8_readLikes 21 = .ok (.isub, 1) := by decide +kernel
theorem dX8_readLikes_22 : decode cX8_readLikes 22 = .ok (.invokevirtual 70, 3) := by decide +kernel
theorem dX8_readLikes_25 : decode cX8_readLikes 25 = .ok (.goto 4, 3) := by decide +kernel
theorem dX8_readLikes_28 : decode cX8_readLikes 28 = .ok (.iconst (-1), 1) := by decide +kernel
theorem dX8_readLikes_29 : decode cX8_readLikes 29 = .ok (.istore_n 3, 1) := by decide +kernel
theorem dX8_readLikes_30 : decode cX8_readLikes 30 = .ok (.iload_n 3, 1) := by decide +kernel
theorem dX8_readLikes_31 : decode cX8_readLikes 31 = .ok (.ifCond .ge 5, 3) := by decide +kernel
theorem dX8_readLikes_34 : decode cX8_readLikes 34 = .ok (.iconst 0, 1) := by decide +kernel
theorem dX8_readLikes_35 : decode cX8_readLikes 35 = .ok (.ireturn, 1) := by decide +kernel
theorem dX8_readLikes_36 : decode cX8_readLikes 36 = .ok (.iload_n 3, 1) := by decide +kernel
theorem dX8_readLikes_37 : decode cX8_readLikes 37 = .ok (.iload_n 2, 1) := by decide +kernel
theorem dX8_readLikes_38 : decode cX8_readLikes 38 = .ok (.if_icmp .ne 8, 3) := by decide +kernel
theorem dX8_readLikes_41 : decode cX8_readLikes 41 = .ok (.aload_n 0, 1) := by decide +kernel
theorem dX8_readLikes_42 : decode cX8_readLikes 42 = .ok (.invokevirtual 102, 3) := by decide +kernel
theorem dX8_readLikes_45 : decode cX8_readLikes 45 = .ok (.ireturn, 1) := by decide +kernel
theorem dX8_readLikes_46 : decode cX8_readLikes 46 = .ok (.aload_n 0, 1) := by decide +kernel
theorem dX8_readLikes_47 : decode cX8_readLikes 47 = .ok (.bipush 9, 2) := by decide +kernel
theorem dX8_readLikes_49 : decode cX8_readLikes 49 = .ok (.invokevirtual 70, 3) := by decide +kernel
theorem dX8_readLikes_52 : decode cX8_readLikes 52 = .ok (.istore 4, 2) := by decide +kernel
theorem dX8_readLikes_54 : decode cX8_readLikes 54 = .ok (.iload 4, 2) := by decide +kernel
theorem dX8_readLikes_56 : decode cX8_readLikes 56 = .ok (.ifCond .ge 5, 3) := by decide +kernel
theorem dX8_readLikes_59 : decode cX8_readLikes 59 = .ok (.iconst 0, 1) := by decide +kernel
theorem dX8_readLikes_60 : decode cX8_readLikes 60 = .ok (.ireturn, 1) := by decide +kernel
theorem dX8_readLikes_61 : decode cX8_readLikes 61 = .ok (.aload_n 1, 1) := by decide +kernel
theorem dX8_readLikes_62 : decode cX8_readLikes 62 = .ok (.iload_n 2, 1) := by decide +kernel
theorem dX8_readLikes_63 : decode cX8_readLikes 63 = .ok (.iload_n 3, 1) := by decide +kernel
theorem dX8_readLikes_64 : decode cX8_readLikes 64 = .ok (.iload 4, 2) := by decide +kernel
theorem dX8_readLikes_66 : decode cX8_readLikes 66 = .ok (.invokevirtual 121, 3) := by decide +kernel
theorem dX8_readLikes_69 : decode cX8_readLikes 69 = .ok (.iconst 1, 1) := by decide +kernel
theorem dX8_readLikes_70 : decode cX8_readLikes 70 = .ok (.ireturn, 1) := by decide +kernel
theorem dX8_readTime_0 : decode cX8_readTime 0 = .ok (.aload_n 0, 1) := by decide +kernel
theorem dX8_readTime_1 : decode cX8_readTime 1 = .ok (.getstatic 124, 3) := by decide +kernel
theorem dX8_readTime_4 : decode cX8_readTime 4 = .ok (.invokevirtual 36, 3) := by decide +kernel
theorem dX8_readTime_7 : decode cX8_readTime 7 = .ok (.ifCond .eq 26, 3) := by decide +kernel
theorem dX8_readTime_10 : decode cX8_readTime 10 = .ok (.aload_n 1, 1) := by decide +kernel
theorem dX8_readTime_11 : decode cX8_readTime 11 = .ok (.aload_n 0, 1) := by decide +kernel
theorem dX8_readTime_12 : decode cX8_readTime 12 = .ok (.bipush 100, 2) := by decide +kernel
theorem dX8_readTime_14 : decode cX8_readTime 14 = .ok (.invokevirtual 70, 3) := by decide +kernel
theorem dX8_readTime_17 : decode cX8_readTime 17 = .ok (.putfield 127, 3) := by decide +kernel
theorem dX8_readTime_20 : decode cX8_readTime 20 = .ok (.aload_n 1, 1) := by decide +kernel
theorem dX8_readTime_21 : decode cX8_readTime 21 = .ok (.getfield 127, 3) := by decide +kernel
theorem dX8_readTime_24 : decode cX8_readTime 24 = .ok (.ifCond .lt 7, 3) := by decide +kernel
theorem dX8_readTime_27 : decode cX8_readTime 27 = .ok (.iconst 1, 1) := by decide +kernel
theorem dX8_readTime_28 : decode cX8_readTime 28 = .ok (.goto 4, 3) := by decide +kernel
theorem dX8_readTime_31 : decode cX8_readTime 31 = .ok (.iconst 0, 1) := by decide +kernel
theorem dX8_readTime_32 : decode cX8_readTime 32 = .ok (.ireturn, 1) := by decide +kernel
theorem dX8_readTime_33 : decode cX8_readTime 33 = .ok (.aload_n 0, 1) := by decide +kernel
theorem dX8_readTime_34 : decode cX8_readTime 34 = .ok (.getstatic 130, 3) := by decide +kernel
theorem dX8_readTime_37 : decode cX8_readTime 37 = .ok (.invokevirtual 36, 3) := by decide +kernel
theorem dX8_readTime_40 : decode cX8_readTime 40 = .ok (.ifCond .eq 26, 3) := by decide +kernel
theorem dX8_readTime_43 : decode cX8_readTime 43 = .ok (.aload_n 1, 1) := by decide +kernel
theorem dX8_readTime_44 : decode cX8_readTime 44 = .ok (.aload_n 0, 1) := by decide +kernel
theorem dX8_readTime_45 : decode cX8_readTime 45 = .ok (.bipush 23, 2) := by decide +kernel
theorem dX8_readTime_47 : decode cX8_readTime 47 = .ok (.invokevirtual 70, 3) := by decide +kernel
theorem dX8_readTime_50 : decode cX8_readTime 50 = .ok (.putfield 133, 3) := by decide +kernel
theorem dX8_readTime_53 : decode cX8_readTime 53 = .ok (.aload_n 1, 1) := by decide +kernel
theorem dX8_readTime_54 : decode cX8_readTime 54 = .ok (.getfield 133, 3) := by decide +kernel
theorem dX8_readTime_57 : decode cX8_readTime 57 = .ok (.ifCond .lt 7, 3) := by decide +kernel
theorem dX8_readTime_60 : decode cX8_readTime 60 = .ok (.iconst 1, 1) := by decide +kernel
theorem dX8_readTime_61 : decode cX8_readTime 61 = .ok (.goto 4, 3) := by decide +kernel
theorem dX8_readTime_64 : decode cX8_readTime 64 = .ok (.iconst 0, 1) := by decide +kernel
theorem dX8_readTime_65 : decode cX8_readTime 65 = .ok (.ireturn, 1) := by decide +kernel
theorem dX8_readTime_66 : decode cX8_readTime 66 = .ok (.aload_n 0, 1) := by decide +kernel
theorem dX8_readTime_67 : decode cX8_readTime 67 = .ok (.getstatic 136, 3) := by decide +kernel
theorem dX8_readTime_70 : decode cX8_readTime 70 = .ok (.invokevirtual 36, 3) := by decide +kernel
theorem dX8_readTime_73 : decode cX8_readTime 73 = .ok (.ifCond .eq 27, 3) := by decide +kernel
theorem dX8_readTime_76 : decode cX8_readTime 76 = .ok (.aload_n 1, 1) := by decide +kernel
theorem dX8_readTime_77 : decode cX8_readTime 77 = .ok (.aload_n 0, 1) := by decide +kernel
theorem dX8_readTime_78 : decode cX8_readTime 78 = .ok (.sipush 999, 3) := by decide +kernel
theorem dX8_readTime_81 : decode cX8_readTime 81 = .ok (.invokevirtual 70, 3) := by decide +kernel
theorem dX8_readTime_84 : decode cX8_readTime 84 = .ok (.putfield 139, 3) := by decide +kernel
theorem dX8_readTime_87 : decode cX8_readTime 87 = .ok (.aload_n 1, 1) := by decide +kernel
theorem dX8_readTime_88 : decode cX8_readTime 88 = .ok (.getfield 139, 3) := by decide +kernel
theorem dX8_readTime_91 : decode cX8_readTime 91 = .ok (.ifCond .lt 7, 3) := by decide +kernel
theorem dX8_readTime_94 : decode cX8_readTime 94 = .ok (.iconst 1, 1) := by decide +kernel
theorem dX8_readTime_95 : decode cX8_readTime 95 = .ok (.goto 4, 3) := by decide +kernel
theorem dX8_readTime_98 : decode cX8_readTime 98 = .ok (.iconst 0, 1) := by decide +kernel
theorem dX8_readTime_99 : decode cX8_readTime 99 = .ok (.ireturn, 1) := by decide +kernel
theorem dX8_readTime_100 : decode cX8_readTime 100 = .ok (.aload_n 0, 1) := by decide +kernel
theorem dX8_readTime_101 : decode cX8_readTime 101 = .ok (.invokevirtual 142, 3) := by decide +kernel
theorem dX8_readTime_104 : decode cX8_readTime 104 = .ok (.ireturn, 1) := by decide +kernel
theorem dX9_isPart_0 : decode cX9_isPart 0 = .ok (.aload_n 0, 1) := by decide +kernel
theorem dX9_isPart_1 : decode cX9_isPart 1 = .ok (.getfield 125, 3) := by decide +kernel
theorem dX9_isPart_4 : decode cX9_isPart 4 = .ok (.ifCond .lt 16, 3) := by decide +kernel
theorem dX9_isPart_7 : decode cX9_isPart 7 = .ok (.aload_n 0, 1) := by decide +kernel
theorem dX9_isPart_8 : decode cX9_isPart 8 = .ok (.getfield 125, 3) := by decide +kernel
theorem dX9_isPart_11 : decode cX9_isPart 11 = .ok (.bipush 7, 2) := by decide +kernel
theorem dX9_isPart_13 : decode cX9_isPart 13 = .ok (.if_icmp .ge 7, 3) := by decide +kernel
theorem dX9_isPart_16 : decode cX9_isPart 16 = .ok (.iconst 1, 1) := by decide +kernel
theorem dX9_isPart_17 : decode cX9_isPart 17 = .ok (.goto 4, 3) := by decide +kernel
theorem dX9_isPart_20 : decode cX9_isPart 20 = .ok (.iconst 0, 1) := by decide +kernel
theorem dX9_isPart_21 : decode cX9_isPart 21 = .ok (.ireturn, 1) := by decide +kernel
theorem dX9_isYesOrNo_0 : decode cX9_isYesOrNo 0 = .ok (.aload_n 0, 1) := by decide +kernel
theorem dX9_isYesOrNo_1 : decode cX9_isYesOrNo 1 = .ok (.getfield 125, 3) := by decide +kernel
theorem dX9_isYesOrNo_4 : decode cX9_isYesOrNo 4 = .ok (.bipush 7, 2) := by decide +kernel
theorem dX9_isYesOrNo_6 : decode cX9_isYesOrNo 6 = .ok (.if_icmp .lt 7, 3) := by decide +kernel
theorem dX9_isYesOrNo_9 : decode cX9_isYesOrNo 9 = .ok (.iconst 1, 1) := by decide +kernel
theorem dX9_isYesOrNo_10 : decode cX9_isYesOrNo 10 = .ok (.goto 4, 3) := by decide +kernel
theorem dX9_isYesOrNo_13 : decode cX9_isYesOrNo 13 = .ok (.iconst 0, 1) := by decide +kernel
theorem dX9_isYesOrNo_14 : decode cX9_isYesOrNo 14 = .ok (.ireturn, 1) := by decide +kernel
theorem dX10_init_0 : decode cX10_init 0 = .ok (.aload_n 0, 1) := by decide +kernel
theorem dX10_init_1 : decode cX10_init 1 = .ok (.invokespecial 3, 3) := by decide +kernel
theorem dX10_init_4 : decode cX10_init 4 = .ok (.aload_n 0, 1) := by decide +kernel
theorem dX10_init_5 : decode cX10_init 5 = .ok (.new 9, 3) := by decide +kernel
theorem dX10_init_8 : decode cX10_init 8 = .ok (.dup, 1) := by decide +kernel
theorem dX10_init_9 : decode cX10_init 9 = .ok (.sipush 400, 3) := by decide +kernel
theorem dX10_init_12 : decode cX10_init 12 = .ok (.invokespecial 11, 3) := by decide +kernel
theorem dX10_init_15 : decode cX10_init 15 = .ok (.putfield 14, 3) := by decide +kernel
theorem dX10_init_18 : decode cX10_init 18 = .ok (.aload_n 0, 1) := by decide +kernel
theorem dX10_init_19 : decode cX10_init 19 = .ok (.sipush 401, 3) := by decide +kernel
theorem dX10_init_22 : decode cX10_init 22 = .ok (.anewarray 20, 3) := by decide +kernel
theorem dX10_init_25 : decode cX10_init 25 = .ok (.putfield 22, 3) := by decide +kernel
theorem dX10_init_28 : decode cX10_init 28 = .ok (.aload_n 0, 1) := by decide +kernel
theorem dX10_init_29 : decode cX10_init 29 = .ok (.new 9, 3) := by decide +kernel
theorem dX10_init_32 : decode cX10_init 32 = .ok (.dup, 1) := by decide +kernel
theorem dX10_init_33 : decode cX10_init 33 = .ok (.sipush 401, 3) := by decide +kernel
theorem dX10_init_36 : decode cX10_init 36 = .ok (.invokespecial 11, 3) := by decide +kernel
theorem dX10_init_39 : decode cX10_init 39 = .ok (.putfield 26, 3) := by decide +kernel
theorem dX10_init_42 : decode cX10_init 42 = .ok (.aload_n 0, 1) := by decide +kernel
theorem dX10_init_43 : decode cX10_init 43 = .ok (.new 9, 3) := by decide +kernel
theorem dX10_init_46 : decode cX10_init 46 = .ok (.dup, 1) := by decide +kernel
theorem dX10_init_47 : decode cX10_init 47 = .ok (.sipush 401, 3) := by decide +kernel
theorem dX10_init_50 : decode cX10_init 50 = .ok (.invokespecial 11, 3) := by decide +kernel
theorem dX10_init_53 : decode cX10_init 53 = .ok (.putfield 29, 3) := by decide +kernel
theorem dX10_init_56 : decode cX10_init 56 = .ok (.aload_n 0, 1) := by decide +kernel
theorem dX10_init_57 : decode cX10_init 57 = .ok (.iconst (-1), 1) := by decide +kernel
theorem dX10_init_58 : decode cX10_init 58 = .ok (.putfield 32, 3) := by decide +kernel
theorem dX10_init_61 : decode cX10_init 61 = .ok (.return_, 1) := by decide +kernel
theorem dX10_put_0 : decode cX10_put 0 = .ok (.bipush 24, 2) := by decide +kernel
theorem dX10_put_2 : decode cX10_put 2 = .ok (.istore_n 2, 1) := by decide +kernel
theorem dX10_put_3 : decode cX10_put 3 = .ok (.iload_n 2, 1) := by decide +kernel
theorem dX10_put_4 : decode cX10_put 4 = .ok (.ifCond .lt 37, 3) := by decide +kernel
theorem dX10_put_7 : decode cX10_put 7 = .ok (.aload_n 0, 1) := by decide +kernel
theorem dX10_put_8 : decode cX10_put 8 = .ok (.getfield 14, 3) := by decide +kernel
theorem dX10_put_11 : decode cX10_put 11 = .ok (.aload_n 0, 1) := by decide +kernel
theorem dX10_put_12 : decode cX10_put 12 = .ok (.getfield 36, 3) := by decide +kernel
theorem dX10_put_15 : decode cX10_put 15 = .ok (.iload_n 1, 1) := by decide +kernel
theorem dX10_put_16 : decode cX10_put 16 = .ok (.iload_n 2, 1) := by decide +kernel
theorem dX10_put_17 : decode cX10_put 17 = .ok (.ishr, 1) := by decide +kernel
theorem dX10_put_18 : decode cX10_put 18 = .ok (.sipush 255, 3) := by decide +kernel
theorem dX10_put_21 : decode cX10_put 21 = .ok (.iand, 1) := by decide +kernel
theorem dX10_put_22 : decode cX10_put 22 = .ok (.invokevirtual 39, 3) := by decide +kernel
theorem dX10_put_25 : decode cX10_put 25 = .ok (.aload_n 0, 1) := by decide +kernel
theorem dX10_put_26 : decode cX10_put 26 = .ok (.dup, 1) := by decide +kernel
theorem dX10_put_27 : decode cX10_put 27 = .ok (.getfield 36, 3) := by decide +kernel
theorem dX10_put_30 : decode cX10_put 30 = .ok (.iconst 1, 1) := by decide +kernel
theorem dX10_put_31 : decode cX10_put 31 = .ok (.iadd, 1) := by decide +kernel
theorem dX10_put_32 : decode cX10_put 32 = .ok (.putfield 36, 3) := by decide +kernel
theorem dX10_put_35 : decode cX10_put 35 = .ok (.iinc 2 (-8), 3) := by decide +kernel
theorem dX10_put_38 : decode cX10_put 38 = .ok (.goto (-35), 3) := by decide +kernel
theorem dX10_put_41 : decode cX10_put 41 = .ok (.return_, 1) := by decide +kernel
theorem dX10_useUp_0 : decode cX10_useUp 0 = .ok (.aload_n 0, 1) := by decide +kernel
theorem dX10_useUp_1 : decode cX10_useUp 1 = .ok (.getfield 36, 3) := by decide +kernel
theorem dX10_useUp_4 : decode cX10_useUp 4 = .ok (.istore_n 1, 1) := by decide +kernel
theorem dX10_useUp_5 : decode cX10_useUp 5 = .ok (.aload_n 0, 1) := by decide +kernel
theorem dX10_useUp_6 : decode cX10_useUp 6 = .ok (.iconst 0, 1) := by decide +kernel
theorem dX10_useUp_7 : decode cX10_useUp 7 = .ok (.putfield 36, 3) := by decide +kernel
theorem dX10_useUp_10 : decode cX10_useUp 10 = .ok (.iload_n 1, 1) := by decide +kernel
theorem dX10_useUp_11 : decode cX10_useUp 11 = .ok (.ireturn, 1) := by decide +kernel
theorem dX10_byteAt_0 : decode cX10_byteAt 0 = .ok (.aload_n 0, 1) := by decide +kernel
theorem dX10_byteAt_1 : decode cX10_byteAt 1 = .ok (.getfield 14, 3) := by decide +kernel
theorem dX10_byteAt_4 : decode cX10_byteAt 4 = .ok (.iload_n 1, 1) := by decide +kernel
theorem dX10_byteAt_5 : decode cX10_byteAt 5 = .ok (.invokevirtual 43, 3) := by decide +kernel
theorem dX10_byteAt_8 : decode cX10_byteAt 8 = .ok (.ireturn, 1) := by decide +kernel
theorem dX10_scan_0 : decode cX10_scan 0 = .ok (.aload_n 0, 1) := by decide +kernel
theorem dX10_scan_1 : decode cX10_scan 1 = .ok (.invokevirtual 47, 3) := by decide +kernel
theorem dX10_scan_4 : decode cX10_scan 4 = .ok (.istore_n 1, 1) := by decide +kernel
theorem dX10_scan_5 : decode cX10_scan 5 = .ok (.iconst 0, 1) := by decide +kernel
theorem dX10_scan_6 : decode cX10_scan 6 = .ok (.istore_n 2, 1) := by decide +kernel
theorem dX10_scan_7 : decode cX10_scan 7 = .ok (.aload_n 0, 1) := by decide +kernel
theorem dX10_scan_8 : decode cX10_scan 8 = .ok (.iconst 0, 1) := by decide +kernel
theorem dX10_scan_9 : decode cX10_scan 9 = .ok (.putfield 51, 3) := by decide +kernel
theorem dX10_scan_12 : decode cX10_scan 12 = .ok (.aload_n 0, 1) := by decide +kernel
theorem dX10_scan_13 : decode cX10_scan 13 = .ok (.iconst (-1), 1) := by decide +kernel
theorem dX10_scan_14 : decode cX10_scan 14 = .ok (.putfield 32, 3) := by decide +kernel
theorem dX10_scan_17 : decode cX10_scan 17 = .ok (.iconst 0, 1) := by decide +kernel
theorem dX10_scan_18 : decode cX10_scan 18 = .ok (.istore_n 3, 1) := by decide +kernel
theorem dX10_scan_19 : decode cX10_scan 19 = .ok (.iload_n 3, 1) := by decide +kernel
theorem dX10_scan_20 : decode cX10_scan 20 = .ok (.aload_n 0, 1) := by decide +kernel
theorem dX10_scan_21 : decode cX10_scan 21 = .ok (.getfield 22, 3) := by decide +kernel
theorem dX10_scan_24 : decode cX10_scan 24 = .ok (.arraylength, 1) := by decide +kernel
theorem dX10_scan_25 : decode cX10_scan 25 = .ok (.if_icmp .ge 86, 3) := by decide +kernel
theorem dX10_scan_28 : decode cX10_scan 28 = .ok (.aload_n 0, 1) := by decide +kernel
theorem dX10_scan_29 : decode cX10_scan 29 = .ok (.iload_n 2, 1) := by decide +kernel
theorem dX10_scan_30 : decode cX10_scan 30 = .ok (.iload_n 1, 1) := by decide +kernel
theorem dX10_scan_31 : decode cX10_scan 31 = .ok (.invokevirtual 54, 3) := by decide +kernel
theorem dX10_scan_34 : decode cX10_scan 34 = .ok (.istore_n 2, 1) := by decide +kernel
theorem dX10_scan_35 : decode cX10_scan 35 = .ok (.aload_n 0, 1) := by decide +kernel
theorem dX10_scan_36 : decode cX10_scan 36 = .ok (.iload_n 2, 1) := by decide +kernel
theorem dX10_scan_37 : decode cX10_scan 37 = .ok (.iload_n 1, 1) := by decide +kernel
theorem dX10_scan_38 : decode cX10_scan 38 = .ok (.invokevirtual 58, 3) := by decide +kernel
theorem dX10_scan_41 : decode cX10_scan 41 = .ok (.istore 4, 2) := by decide +kernel
theorem dX10_scan_43 : decode cX10_scan 43 = .ok (.aload_n 0, 1) := by decide +kernel
theorem dX10_scan_44 : decode cX10_scan 44 = .ok (.getfield 22, 3) := by decide +kernel
theorem dX10_scan_47 : decode cX10_scan 47 = .ok (.iload_n 3, 1) := by decide +kernel
theorem dX10_scan_48 : decode cX10_scan 48 = .ok (.aload_n 0, 1) := by decide +kernel
theorem dX10_scan_49 : decode cX10_scan 49 = .ok (.iload_n 2, 1) := by decide +kernel
theorem dX10_scan_50 : decode cX10_scan 50 = .ok (.iload 4, 2) := by decide +kernel
theorem dX10_scan_52 : decode cX10_scan 52 = .ok (.invokevirtual 61, 3) := by decide +kernel
theorem dX10_scan_55 : decode cX10_scan 55 = .ok (.aastore, 1) := by decide +kernel
theorem dX10_scan_56 : decode cX10_scan 56 = .ok (.aload_n 0, 1) := by decide +kernel
theorem dX10_scan_57 : decode cX10_scan 57 = .ok (.getfield 26, 3) := by decide +kernel
theorem dX10_scan_60 : decode cX10_scan 60 = .ok (.iload_n 3, 1) := by decide +kernel
theorem dX10_scan_61 : decode cX10_scan 61 = .ok (.iload_n 2, 1) := by decide +kernel
theorem dX10_scan_62 : decode cX10_scan 62 = .ok (.invokevirtual 39, 3) := by decide +kernel
theorem dX10_scan_65 : decode cX10_scan 65 = .ok (.aload_n 0, 1) := by decide +kernel
theorem dX10_scan_66 : decode cX10_scan 66 = .ok (.getfield 29, 3) := by decide +kernel
theorem dX10_scan_69 : decode cX10_scan 69 = .ok (.iload_n 3, 1) := by decide +kernel
theorem dX10_scan_70 : decode cX10_scan 70 = .ok (.aload_n 0, 1) := by decide +kernel
theorem dX10_scan_71 : decode cX10_scan 71 = .ok (.getfield 22, 3) := by decide +kernel
theorem dX10_scan_74 : decode cX10_scan 74 = .ok (.iload_n 3, 1) := by decide +kernel
theorem dX10_scan_75 : decode cX10_scan 75 = .ok (.aaload, 1) := by decide +kernel
theorem dX10_scan_76 : decode cX10_scan 76 = .ok (.getstatic 65, 3) := by decide +kernel
theorem dX10_scan_79 : decode cX10_scan 79 = .ok (.if_acmp .ne 13, 3) := by decide +kernel
theorem dX10_scan_82 : decode cX10_scan 82 = .ok (.aload_n 0, 1) := by decide +kernel
theorem dX10_scan_83 : decode cX10_scan 83 = .ok (.iload_n 2, 1) := by decide +kernel
theorem dX10_scan_84 : decode cX10_scan 84 = .ok (.iload 4, 2) := by decide +kernel
theorem dX10_scan_86 : decode cX10_scan 86 = .ok (.invokevirtual 69, 3) := by decide +kernel
theorem dX10_scan_89 : decode cX10_scan 89 = .ok (.goto 4, 3) := by decide +kernel
theorem dX10_scan_92 : decode cX10_scan 92 = .ok (.iconst 0, 1) := by decide +kernel
theorem dX10_scan_93 : decode cX10_scan 93 = .ok (.invokevirtual 39, 3) := by decide +kernel
theorem dX10_scan_96 : decode cX10_scan 96 = .ok (.iload_n 2, 1) := by decide +kernel
theorem dX10_scan_97 : decode cX10_scan 97 = .ok (.iload_n 1, 1) := by decide +kernel
theorem dX10_scan_98 : decode cX10_scan 98 = .ok (.if_icmp .lt 4, 3) := by decide +kernel
theorem dX10_scan_101 : decode cX10_scan 101 = .ok (.return_, 1) := by decide +kernel
theorem dX10_scan_102 : decode cX10_scan 102 = .ok (.iload 4, 2) := by decide +kernel
theorem dX10_scan_104 : decode cX10_scan 104 = .ok (.istore_n 2, 1) := by decide +kernel
theorem dX10_scan_105 : decode cX10_scan 105 = .ok (.iinc 3 1, 3) := by decide +kernel
theorem dX10_scan_108 : decode cX10_scan 108 = .ok (.goto (-89), 3) := by decide +kernel
theorem dX10_scan_111 : decode cX10_scan 111 = .ok (.return_, 1) := by decide +kernel
theorem dX10_behindBlanks_0 : decode cX10_behindBlanks 0 = .ok (.iload_n 1, 1) := by decide +kernel
theorem dX10_behindBlanks_1 : decode cX10_behindBlanks 1 = .ok (.istore_n 3, 1) := by decide +kernel
theorem dX10_behindBlanks_2 : decode cX10_behindBlanks 2 = .ok (.iload_n 3, 1) := by decide +kernel
theorem dX10_behindBlanks_3 : decode cX10_behindBlanks 3 = .ok (.iload_n 2, 1) := by decide +kernel
theorem dX10_behindBlanks_4 : decode cX10_behindBlanks 4 = .ok (.if_icmp .ge 22, 3) := by decide +kernel
theorem dX10_behindBlanks_7 : decode cX10_behindBlanks 7 = .ok (.aload_n 0, 1) := by decide +kernel
theorem dX10_behindBlanks_8 : decode cX10_behindBlanks 8 = .ok (.getfield 14, 3) := by decide +kernel
theorem dX10_behindBlanks_11 : decode cX10_behindBlanks 11 = .ok (.iload_n 3, 1) := by decide +kernel
theorem dX10_behindBlanks_12 : decode cX10_behindBlanks 12 = .ok (.invokevirtual 43, 3) := by decide +kernel
theorem dX10_behindBlanks_15 : decode cX10_behindBlanks 15 = .ok (.bipush 32, 2) := by decide +kernel
theorem dX10_behindBlanks_17 : decode cX10_behindBlanks 17 = .ok (.if_icmp .ne 9, 3) := by decide +kernel
theorem dX10_behindBlanks_20 : decode cX10_behindBlanks 20 = .ok (.iinc 3 1, 3) := by decide +kernel
theorem dX10_behindBlanks_23 : decode cX10_behindBlanks 23 = .ok (.goto (-21), 3) := by decide +kernel
theorem dX10_behindBlanks_26 : decode cX10_behindBlanks 26 = .ok (.iload_n 3, 1) := by decide +kernel
theorem dX10_behindBlanks_27 : decode cX10_behindBlanks 27 = .ok (.ireturn, 1) := by decide +kernel
theorem dX10_behindTerm_0 : decode cX10_behindTerm 0 = .ok (.aload_n 0, 1) := by decide +kernel
theorem dX10_behindTerm_1 : decode cX10_behindTerm 1 = .ok (.getfield 14, 3) := by decide +kernel
theorem dX10_behindTerm_4 : decode cX10_behindTerm 4 = .ok (.iload_n 1, 1) := by decide +kernel
theorem dX10_behindTerm_5 : decode cX10_behindTerm 5 = .ok (.invokevirtual 43, 3) := by decide +kernel
theorem dX10_behindTerm_8 : decode cX10_behindTerm 8 = .ok (.invokestatic 72, 3) := by decide +kernel
theorem dX10_behindTerm_11 : decode cX10_behindTerm 11 = .ok (.istore_n 3, 1) := by decide +kernel
theorem dX10_behindTerm_12 : decode cX10_behindTerm 12 = .ok (.iload_n 1, 1) := by decide +kernel
theorem dX10_behindTerm_13 : decode cX10_behindTerm 13 = .ok (.iconst 1, 1) := by decide +kernel
theorem dX10_behindTerm_14 : decode cX10_behindTerm 14 = .ok (.iadd, 1) := by decide +kernel
theorem dX10_behindTerm_15 : decode cX10_behindTerm 15 = .ok (.iload_n 2, 1) := by decide +kernel
theorem dX10_behindTerm_16 : decode cX10_behindTerm 16 = .ok (.invokestatic 75, 3) := by decide +kernel
theorem dX10_behindTerm_19 : decode cX10_behindTerm 19 = .ok (.istore 4, 2) := by decide +kernel
theorem dX10_behindTerm_21 : decode cX10_behindTerm 21 = .ok (.iload 4, 2) := by decide +kernel
theorem dX10_behindTerm_23 : decode cX10_behindTerm 23 = .ok (.iload_n 2, 1) := by decide +kernel
theorem dX10_behindTerm_24 : decode cX10_behindTerm 24 = .ok (.if_icmp .ge 29, 3) := by decide +kernel
theorem dX10_behindTerm_27 : decode cX10_behindTerm 27 = .ok (.iload_n 3, 1) := by decide +kernel
theorem dX10_behindTerm_28 : decode cX10_behindTerm 28 = .ok (.ifCond .eq 25, 3) := by decide +kernel
theorem dX10_behindTerm_31 : decode cX10_behindTerm 31 = .ok (.aload_n 0, 1) := by decide +kernel
theorem dX10_behindTerm_32 : decode cX10_behindTerm 32 = .ok (.getfield 14, 3) := by decide +kernel
theorem dX10_behindTerm_35 : decode cX10_behindTerm 35 = .ok (.iload 4, 2) := by decide +kernel
theorem dX10_behindTerm_37 : decode cX10_behindTerm 37 = .ok (.invokevirtual 43, 3) := by decide +kernel
theorem dX10_behindTerm_40 : decode cX10_behindTerm 40 = .ok (.invokestatic 72, 3) := by decide +kernel
theorem dX10_behindTerm_43 : decode cX10_behindTerm 43 = .ok (.iload_n 3, 1) := by decide +kernel
theorem dX10_behindTerm_44 : decode cX10_behindTerm 44 = .ok (.if_icmp .ne 9, 3) := by decide +kernel
theorem dX10_behindTerm_47 : decode cX10_behindTerm 47 = .ok (.iinc 4 1, 3) := by decide +kernel
theorem dX10_behindTerm_50 : decode cX10_behindTerm 50 = .ok (.goto (-29), 3) := by decide +kernel
theorem dX10_behindTerm_53 : decode cX10_behindTerm 53 = .ok (.iload 4, 2) := by decide +kernel
theorem dX10_behindTerm_55 : decode cX10_behindTerm 55 = .ok (.ireturn, 1) := by decide +kernel
theorem dX10_kindOf_0 : decode cX10_kindOf 0 = .ok (.iload_n 0, 1) := by decide +kernel
theorem dX10_kindOf_1 : decode cX10_kindOf 1 = .ok (.bipush 97, 2) := by decide +kernel
theorem dX10_kindOf_3 : decode cX10_kindOf 3 = .ok (.if_icmp .lt 11, 3) := by decide +kernel
theorem dX10_kindOf_6 : decode cX10_kindOf 6 = .ok (.iload_n 0, 1) := by decide +kernel
theorem dX10_kindOf_7 : decode cX10_kindOf 7 = .ok (.bipush 122, 2) := by decide +kernel
theorem dX10_kindOf_9 : decode cX10_kindOf 9 = .ok (.if_icmp .gt 5, 3) := by decide +kernel
theorem dX10_kindOf_12 : decode cX10_kindOf 12 = .ok (.iconst 1, 1) := by decide +kernel
theorem dX10_kindOf_13 : decode cX10_kindOf 13 = .ok (.ireturn, 1) := by decide +kernel
theorem dX10_kindOf_14 : decode cX10_kindOf 14 = .ok (.iload_n 0, 1) := by decide +kernel
theorem dX10_kindOf_15 : decode cX10_kindOf 15 = .ok (.bipush 48, 2) := by decide +kernel
theorem dX10_kindOf_17 : decode cX10_kindOf 17 = .ok (.if_icmp .lt 13, 3) := by decide +kernel
theorem dX10_kindOf_20 : decode cX10_kindOf 20 = .ok (.iload_n 0, 1) := by decide +kernel
theorem dX10_kindOf_21 : decode cX10_kindOf 21 = .ok (.bipush 57, 2) := by decide +kernel
theorem dX10_kindOf_23 : decode cX10_kindOf 23 = .ok (.if_icmp .gt 7, 3) := by decide +kernel
theorem dX10_kindOf_26 : decode cX10_kindOf 26 = .ok (.iconst 2, 1) := by decide +kernel
theorem dX10_kindOf_27 : decode cX10_kindOf 27 = .ok (.goto 4, 3) := by decide +kernel
theorem dX10_kindOf_30 : decode cX10_kindOf 30 = .ok (.iconst 0, 1) := by decide +kernel
theorem dX10_kindOf_31 : decode cX10_kindOf 31 = .ok (.ireturn, 1) := by decide +kernel
theorem dX10_termOf_0 : decode cX10_termOf 0 = .ok (.iload_n 1, 1) := by decide +kernel
theorem dX10_termOf_1 : decode cX10_termOf 1 = .ok (.iload_n 2, 1) := by decide +kernel
theorem dX10_termOf_2 : decode cX10_termOf 2 = .ok (.if_icmp .lt 7, 3) := by decide +kernel
theorem dX10_termOf_5 : decode cX10_termOf 5 = .ok (.getstatic 80, 3) := by decide +kernel
theorem dX10_termOf_8 : decode cX10_termOf 8 = .ok (.areturn, 1) := by decide +kernel
theorem dX10_termOf_9 : decode cX10_termOf 9 = .ok (.aload_n 0, 1) := by decide +kernel
theorem dX10_termOf_10 : decode cX10_termOf 10 = .ok (.getfield 14, 3) := by decide +kernel
theorem dX10_termOf_13 : decode cX10_termOf 13 = .ok (.iload_n 1, 1) := by decide +kernel
theorem dX10_termOf_14 : decode cX10_termOf 14 = .ok (.invokevirtual 43, 3) := by decide +kernel
theorem dX10_termOf_17 : decode cX10_termOf 17 = .ok (.invokestatic 72, 3) := by decide +kernel
theorem dX10_termOf_20 : decode cX10_termOf 20 = .ok (.iconst 2, 1) := by decide +kernel
theorem dX10_termOf_21 : decode cX10_termOf 21 = .ok (.if_icmp .ne 20, 3) := by decide +kernel
theorem dX10_termOf_24 : decode cX10_termOf 24 = .ok (.iload_n 2, 1) := by decide +kernel
theorem dX10_termOf_25 : decode cX10_termOf 25 = .ok (.iload_n 1, 1) := by decide +kernel
theorem dX10_termOf_26 : decode cX10_termOf 26 = .ok (.isub, 1) := by decide +kernel
theorem dX10_termOf_27 : decode cX10_termOf 27 = .ok (.iconst 3, 1) := by decide +kernel
theorem dX10_termOf_28 : decode cX10_termOf 28 = .ok (.if_icmp .gt 9, 3) := by decide +kernel
theorem dX10_termOf_31 : decode cX10_termOf 31 = .ok (.getstatic 65, 3) := by decide +kernel
theorem dX10_termOf_34 : decode cX10_termOf 34 = .ok (.goto 6, 3) := by decide +kernel
theorem dX10_termOf_37 : decode cX10_termOf 37 = .ok (.getstatic 83, 3) := by decide +kernel
theorem dX10_termOf_40 : decode cX10_termOf 40 = .ok (.areturn, 1) := by decide +kernel
theorem dX10_termOf_41 : decode cX10_termOf 41 = .ok (.getstatic 86, 3) := by decide +kernel
theorem dX10_termOf_44 : decode cX10_termOf 44 = .ok (.astore_n 3, 1) := by decide +kernel
theorem dX10_termOf_45 : decode cX10_termOf 45 = .ok (.aload_n 3, 1) := by decide +kernel
theorem dX10_termOf_46 : decode cX10_termOf 46 = .ok (.arraylength, 1) := by decide +kernel
theorem dX10_termOf_47 : decode cX10_termOf 47 = .ok (.istore 4, 2) := by decide +kernel
theorem dX10_termOf_49 : decode cX10_termOf 49 = .ok (.iconst 0, 1) := by decide +kernel
theorem dX10_termOf_50 : decode cX10_termOf 50 = .ok (.istore 5, 2) := by decide +kernel
theorem dX10_termOf_52 : decode cX10_termOf 52 = .ok (.iload 5, 2) := by decide +kernel
theorem dX10_termOf_54 : decode cX10_termOf 54 = .ok (.iload 4, 2) := by decide +kernel
theorem dX10_termOf_56 : decode cX10_termOf 56 = .ok (.if_icmp .ge 32, 3) := by decide +kernel
theorem dX10_termOf_59 : decode cX10_termOf 59 = .ok (.aload_n 3, 1) := by decide +kernel
theorem dX10_termOf_60 : decode cX10_termOf 60 = .ok (.iload 5, 2) := by decide +kernel
theorem dX10_termOf_62 : decode cX10_termOf 62 = .ok (.aaload, 1) := by decide +kernel
theorem dX10_termOf_63 : decode cX10_termOf 63 = .ok (.astore 6, 2) := by decide +kernel
theorem dX10_termOf_65 : decode cX10_termOf 65 = .ok (.aload_n 0, 1) := by decide +kernel
theorem dX10_termOf_66 : decode cX10_termOf 66 = .ok (.aload 6, 2) := by decide +kernel
theorem dX10_termOf_68 : decode cX10_termOf 68 = .ok (.getfield 89, 3) := by decide +kernel
theorem dX10_termOf_71 : decode cX10_termOf 71 = .ok (.iload_n 1, 1) := by decide +kernel
theorem dX10_termOf_72 : decode cX10_termOf 72 = .ok (.iload_n 2, 1) := by decide +kernel
theorem dX10_termOf_73 : decode cX10_termOf 73 = .ok (.invokevirtual 93, 3) := by decide +kernel
theorem dX10_termOf_76 : decode cX10_termOf 76 = .ok (.ifCond .eq 6, 3) := by decide +kernel
theorem dX10_termOf_79 : decode cX10_termOf 79 = .ok (.aload 6, 2) := by decide +kernel
theorem dX10_termOf_81 : decode cX10_termOf 81 = .ok (.areturn, 1) := by decide +kernel
theorem dX10_termOf_82 : decode cX10_termOf 82 = .ok (.iinc 5 1, 3) := by decide +kernel
theorem dX10_termOf_85 : decode cX10_termOf 85 = .ok (.goto (-33), 3) := by decide +kernel
theorem dX10_termOf_88 : decode cX10_termOf 88 = .ok (.getstatic 83, 3) := by decide +kernel
theorem dX10_termOf_91 : decode cX10_termOf 91 = .ok (.areturn, 1) := by decide +kernel
theorem dX10_spells_0 : decode cX10_spells 0 = .ok (.aload_n 1, 1) := by decide +kernel
theorem dX10_spells_1 : decode cX10_spells 1 = .ok (.invokevirtual 97, 3) := by decide +kernel
theorem dX10_spells_4 : decode cX10_spells 4 = .ok (.iload_n 3, 1) := by decide +kernel
theorem dX10_spells_5 : decode cX10_spells 5 = .ok (.iload_n 2, 1) := by decide +kernel
theorem dX10_spells_6 : decode cX10_spells 6 = .ok (.isub, 1) := by decide +kernel
theorem dX10_spells_7 : decode cX10_spells 7 = .ok (.if_icmp .eq 5, 3) := by decide +kernel
theorem dX10_spells_10 : decode cX10_spells 10 = .ok (.iconst 0, 1) := by decide +kernel
theorem dX10_spells_11 : decode cX10_spells 11 = .ok (.ireturn, 1) := by decide +kernel
theorem dX10_spells_12 : decode cX10_spells 12 = .ok (.iconst 0, 1) := by decide +kernel
theorem dX10_spells_13 : decode cX10_spells 13 = .ok (.istore 4, 2) := by decide +kernel
theorem dX10_spells_15 : decode cX10_spells 15 = .ok (.iload 4, 2) := by decide +kernel
theorem dX10_spells_17 : decode cX10_spells 17 = .ok (.aload_n 1, 1) := by decide +kernel
theorem dX10_spells_18 : decode cX10_spells 18 = .ok (.invokevirtual 97, 3) := by decide +kernel
theorem dX10_spells_21 : decode cX10_spells 21 = .ok (.if_icmp .ge 31, 3) := by decide +kernel
theorem dX10_spells_24 : decode cX10_spells 24 = .ok (.aload_n 1, 1) := by decide +kernel
theorem dX10_spells_25 : decode cX10_spells 25 = .ok (.iload 4, 2) := by decide +kernel
theorem dX10_spells_27 : decode cX10_spells 27 = .ok (.invokevirtual 101, 3) := by decide +kernel
theorem dX10_spells_30 : decode cX10_spells 30 = .ok (.aload_n 0, 1) := by decide +kernel
theorem dX10_spells_31 : decode cX10_spells 31 = .ok (.getfield 14, 3) := by decide +kernel
theorem dX10_spells_34 : decode cX10_spells 34 = .ok (.iload_n 2, 1) := by decide +kernel
theorem dX10_spells_35 : decode cX10_spells 35 = .ok (.iload 4, 2) := by decide +kernel
theorem dX10_spells_37 : decode cX10_spells 37 = .ok (.iadd, 1) := by decide +kernel
theorem dX10_spells_38 : decode cX10_spells 38 = .ok (.invokevirtual 43, 3) := by decide +kernel
theorem dX10_spells_41 : decode cX10_spells 41 = .ok (.if_icmp .eq 5, 3) := by decide +kernel
theorem dX10_spells_44 : decode cX10_spells 44 = .ok (.iconst 0, 1) := by decide +kernel
theorem dX10_spells_45 : decode cX10_spells 45 = .ok (.ireturn, 1) := by decide +kernel
theorem dX10_spells_46 : decode cX10_spells 46 = .ok (.iinc 4 1, 3) := by decide +kernel
theorem dX10_spells_49 : decode cX10_spells 49 = .ok (.goto (-34), 3) := by decide +kernel
theorem dX10_spells_52 : decode cX10_spells 52 = .ok (.iconst 1, 1) := by decide +kernel
theorem dX10_spells_53 : decode cX10_spells 53 = .ok (.ireturn, 1) := by decide +kernel
theorem dX10_valueOf_0 : decode cX10_valueOf 0 = .ok (.iconst 0, 1) := by decide +kernel
theorem dX10_valueOf_1 : decode cX10_valueOf 1 = .ok (.istore_n 3, 1) := by decide +kernel
theorem dX10_valueOf_2 : decode cX10_valueOf 2 = .ok (.iload_n 1, 1) := by decide +kernel
theorem dX10_valueOf_3 : decode cX10_valueOf 3 = .ok (.istore 4, 2) := by decide +kernel
theorem dX10_valueOf_5 : decode cX10_valueOf 5 = .ok (.iload 4, 2) := by decide +kernel
theorem dX10_valueOf_7 : decode cX10_valueOf 7 = .ok (.iload_n 2, 1) := by decide +kernel
theorem dX10_valueOf_8 : decode cX10_valueOf 8 = .ok (.if_icmp .ge 27, 3) := by decide +kernel
theorem dX10_valueOf_11 : decode cX10_valueOf 11 = .ok (.iload_n 3, 1) := by decide +kernel
theorem dX10_valueOf_12 : decode cX10_valueOf 12 = .ok (.bipush 10, 2) := by decide +kernel
theorem dX10_valueOf_14 : decode cX10_valueOf 14 = .ok (.imul, 1) := by decide +kernel
theorem dX10_valueOf_15 : decode cX10_valueOf 15 = .ok (.aload_n 0, 1) := by decide +kernel
theorem dX10_valueOf_16 : decode cX10_valueOf 16 = .ok (.getfield 14, 3) := by decide +kernel
theorem dX10_valueOf_19 : decode cX10_valueOf 19 = .ok (.iload 4, 2) := by decide +kernel
theorem dX10_valueOf_21 : decode cX10_valueOf 21 = .ok (.invokevirtual 43, 3) := by decide +kernel
theorem dX10_valueOf_24 : decode cX10_valueOf 24 = .ok (.iadd, 1) := by decide +kernel
theorem dX10_valueOf_25 : decode cX10_valueOf 25 = .ok (.bipush 48, 2) := by decide +kernel
theorem dX10_valueOf_27 : decode cX10_valueOf 27 = .ok (.isub, 1) := by decide +kernel
theorem dX10_valueOf_28 : decode cX10_valueOf 28 = .ok (.istore_n 3, 1) := by decide +kernel
theorem dX10_valueOf_29 : decode cX10_valueOf 29 = .ok (.iinc 4 1, 3) := by decide +kernel
theorem dX10_valueOf_32 : decode cX10_valueOf 32 = .ok (.goto (-27), 3) := by decide +kernel
theorem dX10_valueOf_35 : decode cX10_valueOf 35 = .ok (.iload_n 3, 1) := by decide +kernel
theorem dX10_valueOf_36 : decode cX10_valueOf 36 = .ok (.ireturn, 1) := by decide +kernel
theorem dX10_term_0 : decode cX10_term 0 = .ok (.aload_n 0, 1) := by decide +kernel
theorem dX10_term_1 : decode cX10_term 1 = .ok (.getfield 51, 3) := by decide +kernel
theorem dX10_term_4 : decode cX10_term 4 = .ok (.ifCond .lt 27, 3) := by decide +kernel
theorem dX10_term_7 : decode cX10_term 7 = .ok (.aload_n 0, 1) := by decide +kernel
theorem dX10_term_8 : decode cX10_term 8 = .ok (.getfield 51, 3) := by decide +kernel
theorem dX10_term_11 : decode cX10_term 11 = .ok (.aload_n 0, 1) := by decide +kernel
theorem dX10_term_12 : decode cX10_term 12 = .ok (.getfield 22, 3) := by decide +kernel
theorem dX10_term_15 : decode cX10_term 15 = .ok (.arraylength, 1) := by decide +kernel
theorem dX10_term_16 : decode cX10_term 16 = .ok (.if_icmp .ge 15, 3) := by decide +kernel
theorem dX10_term_19 : decode cX10_term 19 = .ok (.aload_n 0, 1) := by decide +kernel
theorem dX10_term_20 : decode cX10_term 20 = .ok (.getfield 22, 3) := by decide +kernel
theorem dX10_term_23 : decode cX10_term 23 = .ok (.aload_n 0, 1) := by decide +kernel
theorem dX10_term_24 : decode cX10_term 24 = .ok (.getfield 51, 3) := by decide +kernel
theorem dX10_term_27 : decode cX10_term 27 = .ok (.aaload, 1) := by decide +kernel
theorem dX10_term_28 : decode cX10_term 28 = .ok (.goto 4, 3) := by decide +kernel
theorem dX10_term_31 : decode cX10_term 31 = .ok (.aconst_null, 1) := by decide +kernel
theorem dX10_term_32 : decode cX10_term 32 = .ok (.astore_n 1, 1) := by decide +kernel
theorem dX10_term_33 : decode cX10_term 33 = .ok (.aload_n 1, 1) := by decide +kernel
theorem dX10_term_34 : decode cX10_term 34 = .ok (.ifnonnull 9, 3) := by decide +kernel
theorem dX10_term_37 : decode cX10_term 37 = .ok (.getstatic 80, 3) := by decide +kernel
theorem dX10_term_40 : decode cX10_term 40 = .ok (.goto 4, 3) := by decide +kernel
theorem dX10_term_43 : decode cX10_term 43 = .ok (.aload_n 1, 1) := by decide +kernel
theorem dX10_term_44 : decode cX10_term 44 = .ok (.areturn, 1) := by decide +kernel
theorem dX10_is_0 : decode cX10_is 0 = .ok (.aload_n 0, 1) := by decide +kernel
theorem dX10_is_1 : decode cX10_is 1 = .ok (.invokevirtual 105, 3) := by decide +kernel
theorem dX10_is_4 : decode cX10_is 4 = .ok (.aload_n 1, 1) := by decide +kernel
theorem dX10_is_5 : decode cX10_is 5 = .ok (.if_acmp .ne 7, 3) := by decide +kernel
theorem dX10_is_8 : decode cX10_is 8 = .ok (.iconst 1, 1) := by decide +kernel
theorem dX10_is_9 : decode cX10_is 9 = .ok (.goto 4, 3) := by decide +kernel
theorem dX10_is_12 : decode cX10_is 12 = .ok (.iconst 0, 1) := by decide +kernel
theorem dX10_is_13 : decode cX10_is 13 = .ok (.ireturn, 1) := by decide +kernel
theorem dX10_step_0 : decode cX10_step 0 = .ok (.aload_n 0, 1) := by decide +kernel
theorem dX10_step_1 : decode cX10_step 1 = .ok (.dup, 1) := by decide +kernel
theorem dX10_step_2 : decode cX10_step 2 = .ok (.getfield 51, 3) := by decide +kernel
theorem dX10_step_5 : decode cX10_step 5 = .ok (.iconst 1, 1) := by decide +kernel
theorem dX10_step_6 : decode cX10_step 6 = .ok (.iadd, 1) := by decide +kernel
theorem dX10_step_7 : decode cX10_step 7 = .ok (.putfield 51, 3) := by decide +kernel
theorem dX10_step_10 : decode cX10_step 10 = .ok (.return_, 1) := by decide +kernel
theorem dX10_take_0 : decode cX10_take 0 = .ok (.aload_n 0, 1) := by decide +kernel
theorem dX10_take_1 : decode cX10_take 1 = .ok (.invokevirtual 105, 3) := by decide +kernel
theorem dX10_take_4 : decode cX10_take 4 = .ok (.aload_n 1, 1) := by decide +kernel
theorem dX10_take_5 : decode cX10_take 5 = .ok (.if_acmp .eq 5, 3) := by decide +kernel
theorem dX10_take_8 : decode cX10_take 8 = .ok (.iconst 0, 1) := by decide +kernel
theorem dX10_take_9 : decode cX10_take 9 = .ok (.ireturn, 1) := by decide +kernel
theorem dX10_take_10 : decode cX10_take 10 = .ok (.aload_n 0, 1) := by decide +kernel
theorem dX10_take_11 : decode cX10_take 11 = .ok (.dup, 1) := by decide +kernel
theorem dX10_take_12 : decode cX10_take 12 = .ok (.getfield 51, 3) := by decide +kernel
theorem dX10_take_15 : decode cX10_take 15 = .ok (.iconst 1, 1) := by decide +kernel
theorem dX10_take_16 : decode cX10_take 16 = .ok (.iadd, 1) := by decide +kernel
theorem dX10_take_17 : decode cX10_take 17 = .ok (.putfield 51, 3) := by decide +kernel
theorem dX10_take_20 : decode cX10_take 20 = .ok (.iconst 1, 1) := by decide +kernel
theorem dX10_take_21 : decode cX10_take 21 = .ok (.ireturn, 1) := by decide +kernel
theorem dX10_need_0 : decode cX10_need 0 = .ok (.aload_n 0, 1) := by decide +kernel
theorem dX10_need_1 : decode cX10_need 1 = .ok (.aload_n 1, 1) := by decide +kernel
theorem dX10_need_2 : decode cX10_need 2 = .ok (.invokevirtual 109, 3) := by decide +kernel
theorem dX10_need_5 : decode cX10_need 5 = .ok (.ifCond .ne 10, 3) := by decide +kernel
theorem dX10_need_8 : decode cX10_need 8 = .ok (.aload_n 0, 1) := by decide +kernel
theorem dX10_need_9 : decode cX10_need 9 = .ok (.invokevirtual 113, 3) := by decide +kernel
theorem dX10_need_12 : decode cX10_need 12 = .ok (.ifCond .eq 7, 3) := by decide +kernel
theorem dX10_need_15 : decode cX10_need 15 = .ok (.iconst 1, 1) := by decide +kernel
theorem dX10_need_16 : decode cX10_need 16 = .ok (.goto 4, 3) := by decide +kernel
theorem dX10_need_19 : decode cX10_need 19 = .ok (.iconst 0, 1) := by decide +kernel
theorem dX10_need_20 : decode cX10_need 20 = .ok (.ireturn, 1) := by decide +kernel
theorem dX10_needUpTo_0 : decode cX10_needUpTo 0 = .ok (.aload_n 0, 1) := by decide +kernel
theorem dX10_needUpTo_1 : decode cX10_needUpTo 1 = .ok (.invokevirtual 105, 3) := by decide +kernel
theorem dX10_needUpTo_4 : decode cX10_needUpTo 4 = .ok (.getstatic 65, 3) := by decide +kernel
theorem dX10_needUpTo_7 : decode cX10_needUpTo 7 = .ok (.if_acmp .ne 18, 3) := by decide +kernel
theorem dX10_needUpTo_10 : decode cX10_needUpTo 10 = .ok (.aload_n 0, 1) := by decide +kernel
theorem dX10_needUpTo_11 : decode cX10_needUpTo 11 = .ok (.getfield 29, 3) := by decide +kernel
theorem dX10_needUpTo_14 : decode cX10_needUpTo 14 = .ok (.aload_n 0, 1) := by decide +kernel
theorem dX10_needUpTo_15 : decode cX10_needUpTo 15 = .ok (.getfield 51, 3) := by decide +kernel
theorem dX10_needUpTo_18 : decode cX10_needUpTo 18 = .ok (.invokevirtual 43, 3) := by decide +kernel
theorem dX10_needUpTo_21 : decode cX10_needUpTo 21 = .ok (.iload_n 1, 1) := by decide +kernel
theorem dX10_needUpTo_22 : decode cX10_needUpTo 22 = .ok (.if_icmp .le 20, 3) := by decide +kernel
theorem dX10_needUpTo_25 : decode cX10_needUpTo 25 = .ok (.aload_n 0, 1) := by decide +kernel
theorem dX10_needUpTo_26 : decode cX10_needUpTo 26 = .ok (.aload_n 0, 1) := by decide +kernel
theorem dX10_needUpTo_27 : decode cX10_needUpTo 27 = .ok (.getfield 26, 3) := by decide +kernel
theorem dX10_needUpTo_30 : decode cX10_needUpTo 30 = .ok (.aload_n 0, 1) := by decide +kernel
theorem dX10_needUpTo_31 : decode cX10_needUpTo 31 = .ok (.getfield 51, 3) := by decide +kernel
theorem dX10_needUpTo_34 : decode cX10_needUpTo 34 = .ok (.invokevirtual 43, 3) := by decide +kernel
theorem dX10_needUpTo_37 : decode cX10_needUpTo 37 = .ok (.putfield 32, 3) := by decide +kernel
theorem dX10_needUpTo_40 : decode cX10_needUpTo 40 = .ok (.iconst (-1), 1) := by decide +kernel
theorem dX10_needUpTo_41 : decode cX10_needUpTo 41 = .ok (.ireturn, 1) := by decide +kernel
theorem dX10_needUpTo_42 : decode cX10_needUpTo 42 = .ok (.aload_n 0, 1) := by decide +kernel
theorem dX10_needUpTo_43 : decode cX10_needUpTo 43 = .ok (.dup, 1) := by decide +kernel
theorem dX10_needUpTo_44 : decode cX10_needUpTo 44 = .ok (.getfield 51, 3) := by decide +kernel
theorem dX10_needUpTo_47 : decode cX10_needUpTo 47 = .ok (.iconst 1, 1) := by decide +kernel
theorem dX10_needUpTo_48 : decode cX10_needUpTo 48 = .ok (.iadd, 1) := by decide +kernel
theorem dX10_needUpTo_49 : decode cX10_needUpTo 49 = .ok (.putfield 51, 3) := by decide +kernel
theorem dX10_needUpTo_52 : decode cX10_needUpTo 52 = .ok (.aload_n 0, 1) := by decide +kernel
theorem dX10_needUpTo_53 : decode cX10_needUpTo 53 = .ok (.getfield 29, 3) := by decide +kernel
theorem dX10_needUpTo_56 : decode cX10_needUpTo 56 = .ok (.aload_n 0, 1) := by decide +kernel
theorem dX10_needUpTo_57 : decode cX10_needUpTo 57 = .ok (.getfield 51, 3) := by decide +kernel
theorem dX10_needUpTo_60 : decode cX10_needUpTo 60 = .ok (.iconst 1, 1) := by decide +kernel
theorem dX10_needUpTo_61 : decode cX10_needUpTo 61 = .ok (.isub, 1) := by decide +kernel
theorem dX10_needUpTo_62 : decode cX10_needUpTo 62 = .ok (.invokevirtual 43, 3) := by decide +kernel
theorem dX10_needUpTo_65 : decode cX10_needUpTo 65 = .ok (.ireturn, 1) := by decide +kernel
theorem dX10_hasLine_0 : decode cX10_hasLine 0 = .ok (.aload_n 0, 1) := by decide +kernel
theorem dX10_hasLine_1 : decode cX10_hasLine 1 = .ok (.getstatic 80, 3) := by decide +kernel
theorem dX10_hasLine_4 : decode cX10_hasLine 4 = .ok (.invokevirtual 117, 3) := by decide +kernel
theorem dX10_hasLine_7 : decode cX10_hasLine 7 = .ok (.ifCond .ne 17, 3) := by decide +kernel
theorem dX10_hasLine_10 : decode cX10_hasLine 10 = .ok (.iload_n 1, 1) := by decide +kernel
theorem dX10_hasLine_11 : decode cX10_hasLine 11 = .ok (.ifCond .le 15, 3) := by decide +kernel
theorem dX10_hasLine_14 : decode cX10_hasLine 14 = .ok (.aload_n 0, 1) := by decide +kernel
theorem dX10_hasLine_15 : decode cX10_hasLine 15 = .ok (.getstatic 120, 3) := by decide +kernel
theorem dX10_hasLine_18 : decode cX10_hasLine 18 = .ok (.invokevirtual 123, 3) := by decide +kernel
theorem dX10_hasLine_21 : decode cX10_hasLine 21 = .ok (.ifCond .ne 5, 3) := by decide +kernel
theorem dX10_hasLine_24 : decode cX10_hasLine 24 = .ok (.iconst 0, 1) := by decide +kernel
theorem dX10_hasLine_25 : decode cX10_hasLine 25 = .ok (.ireturn, 1) := by decide +kernel
theorem dX10_hasLine_26 : decode cX10_hasLine 26 = .ok (.iload_n 1, 1) := by decide +kernel
theorem dX10_hasLine_27 : decode cX10_hasLine 27 = .ok (.iload_n 2, 1) := by decide +kernel
theorem dX10_hasLine_28 : decode cX10_hasLine 28 = .ok (.if_icmp .lt 10, 3) := by decide +kernel
theorem dX10_hasLine_31 : decode cX10_hasLine 31 = .ok (.aload_n 0, 1) := by decide +kernel
theorem dX10_hasLine_32 : decode cX10_hasLine 32 = .ok (.invokevirtual 113, 3) := by decide +kernel
theorem dX10_hasLine_35 : decode cX10_hasLine 35 = .ok (.ifCond .eq 7, 3) := by decide +kernel
theorem dX10_hasLine_38 : decode cX10_hasLine 38 = .ok (.iconst 1, 1) := by decide +kernel
theorem dX10_hasLine_39 : decode cX10_hasLine 39 = .ok (.goto 4, 3) := by decide +kernel
theorem dX10_hasLine_42 : decode cX10_hasLine 42 = .ok (.iconst 0, 1) := by decide +kernel
theorem dX10_hasLine_43 : decode cX10_hasLine 43 = .ok (.ireturn, 1) := by decide +kernel
theorem dX10_wrong_0 : decode cX10_wrong 0 = .ok (.aload_n 0, 1) := by decide +kernel
theorem dX10_wrong_1 : decode cX10_wrong 1 = .ok (.aload_n 0, 1) := by decide +kernel
theorem dX10_wrong_2 : decode cX10_wrong 2 = .ok (.getfield 26, 3) := by decide +kernel
theorem dX10_wrong_5 : decode cX10_wrong 5 = .ok (.aload_n 0, 1) := by decide +kernel
theorem dX10_wrong_6 : decode cX10_wrong 6 = .ok (.getfield 51, 3) := by decide +kernel
theorem dX10_wrong_9 : decode cX10_wrong 9 = .ok (.invokevirtual 43, 3) := by decide +kernel
theorem dX10_wrong_12 : decode cX10_wrong 12 = .ok (.putfield 32, 3) := by decide +kernel
theorem dX10_wrong_15 : decode cX10_wrong 15 = .ok (.iconst 0, 1) := by decide +kernel
theorem dX10_wrong_16 : decode cX10_wrong 16 = .ok (.ireturn, 1) := by decide +kernel
theorem dX10_wrongBefore_0 : decode cX10_wrongBefore 0 = .ok (.aload_n 0, 1) := by decide +kernel
theorem dX10_wrongBefore_1 : decode cX10_wrongBefore 1 = .ok (.aload_n 0, 1) := by decide +kernel
theorem dX10_wrongBefore_2 : decode cX10_wrongBefore 2 = .ok (.getfield 26, 3) := by decide +kernel
theorem dX10_wrongBefore_5 : decode cX10_wrongBefore 5 = .ok (.aload_n 0, 1) := by decide +kernel
theorem dX10_wrongBefore_6 : decode cX10_wrongBefore 6 = .ok (.getfield 51, 3) := by decide +kernel
theorem dX10_wrongBefore_9 : decode cX10_wrongBefore 9 = .ok (.iconst 1, 1) := by decide +kernel
theorem dX10_wrongBefore_10 : decode cX10_wrongBefore 10 = .ok (.isub, 1) := by decide +kernel
theorem dX10_wrongBefore_11 : decode cX10_wrongBefore 11 = .ok (.invokevirtual 43, 3) := by decide +kernel
theorem dX10_wrongBefore_14 : decode cX10_wrongBefore 14 = .ok (.putfield 32, 3) := by decide +kernel
theorem dX10_wrongBefore_17 : decode cX10_wrongBefore 17 = .ok (.iconst 0, 1) := by decide +kernel
theorem dX10_wrongBefore_18 : decode cX10_wrongBefore 18 = .ok (.ireturn, 1) := by decide +kernel
theorem dX11_init_0 : decode cX11_init 0 = .ok (.aload_n 0, 1) := by decide +kernel
theorem dX11_init_1 : decode cX11_init 1 = .ok (.invokespecial 1, 3) := by decide +kernel
theorem dX11_init_4 : decode cX11_init 4 = .ok (.aload_n 0, 1) := by decide +kernel
theorem dX11_init_5 : decode cX11_init 5 = .ok (.new 7, 3) := by decide +kernel
theorem dX11_init_8 : decode cX11_init 8 = .ok (.dup, 1) := by decide +kernel
theorem dX11_init_9 : decode cX11_init 9 = .ok (.invokespecial 9, 3) := by decide +kernel
theorem dX11_init_12 : decode cX11_init 12 = .ok (.putfield 10, 3) := by decide +kernel
theorem dX11_init_15 : decode cX11_init 15 = .ok (.aload_n 0, 1) := by decide +kernel
theorem dX11_init_16 : decode cX11_init 16 = .ok (.new 16, 3) := by decide +kernel
theorem dX11_init_19 : decode cX11_init 19 = .ok (.dup, 1) := by decide +kernel
theorem dX11_init_20 : decode cX11_init 20 = .ok (.invokespecial 18, 3) := by decide +kernel
theorem dX11_init_23 : decode cX11_init 23 = .ok (.putfield 19, 3) := by decide +kernel
theorem dX11_init_26 : decode cX11_init 26 = .ok (.aload_n 0, 1) := by decide +kernel
theorem dX11_init_27 : decode cX11_init 27 = .ok (.new 16, 3) := by decide +kernel
theorem dX11_init_30 : decode cX11_init 30 = .ok (.dup, 1) := by decide +kernel
theorem dX11_init_31 : decode cX11_init 31 = .ok (.invokespecial 18, 3) := by decide +kernel
theorem dX11_init_34 : decode cX11_init 34 = .ok (.putfield 23, 3) := by decide +kernel
theorem dX11_init_37 : decode cX11_init 37 = .ok (.aload_n 0, 1) := by decide +kernel
theorem dX11_init_38 : decode cX11_init 38 = .ok (.new 16, 3) := by decide +kernel
theorem dX11_init_41 : decode cX11_init 41 = .ok (.dup, 1) := by decide +kernel
theorem dX11_init_42 : decode cX11_init 42 = .ok (.invokespecial 18, 3) := by decide +kernel
theorem dX11_init_45 : decode cX11_init 45 = .ok (.putfield 26, 3) := by decide +kernel
theorem dX11_init_48 : decode cX11_init 48 = .ok (.aload_n 0, 1) := by decide +kernel
theorem dX11_init_49 : decode cX11_init 49 = .ok (.new 29, 3) := by decide +kernel
theorem dX11_init_52 : decode cX11_init 52 = .ok (.dup, 1) := by decide +kernel
theorem dX11_init_53 : decode cX11_init 53 = .ok (.invokespecial 31, 3) := by decide +kernel
theorem dX11_init_56 : decode cX11_init 56 = .ok (.putfield 32, 3) := by decide +kernel
theorem dX11_init_59 : decode cX11_init 59 = .ok (.aload_n 0, 1) := by decide +kernel
theorem dX11_init_60 : decode cX11_init 60 = .ok (.new 29, 3) := by decide +kernel
theorem dX11_init_63 : decode cX11_init 63 = .ok (.dup, 1) := by decide +kernel
theorem dX11_init_64 : decode cX11_init 64 = .ok (.invokespecial 31, 3) := by decide +kernel
theorem dX11_init_67 : decode cX11_init 67 = .ok (.putfield 36, 3) := by decide +kernel
theorem dX11_init_70 : decode cX11_init 70 = .ok (.aload_n 0, 1) := by decide +kernel
theorem dX11_init_71 : decode cX11_init 71 = .ok (.new 29, 3) := by decide +kernel
theorem dX11_init_74 : decode cX11_init 74 = .ok (.dup, 1) := by decide +kernel
theorem dX11_init_75 : decode cX11_init 75 = .ok (.invokespecial 31, 3) := by decide +kernel
theorem dX11_init_78 : decode cX11_init 78 = .ok (.putfield 39, 3) := by decide +kernel
theorem dX11_init_81 : decode cX11_init 81 = .ok (.aload_n 0, 1) := by decide +kernel
theorem dX11_init_82 : decode cX11_init 82 = .ok (.new 42, 3) := by decide +kernel
theorem dX11_init_85 : decode cX11_init 85 = .ok (.dup, 1) := by decide +kernel
theorem dX11_init_86 : decode cX11_init 86 = .ok (.invokespecial 44, 3) := by decide +kernel
theorem dX11_init_89 : decode cX11_init 89 = .ok (.putfield 45, 3) := by decide +kernel
theorem dX11_init_92 : decode cX11_init 92 = .ok (.aload_n 0, 1) := by decide +kernel
theorem dX11_init_93 : decode cX11_init 93 = .ok (.new 49, 3) := by decide +kernel
theorem dX11_init_96 : decode cX11_init 96 = .ok (.dup, 1) := by decide +kernel
theorem dX11_init_97 : decode cX11_init 97 = .ok (.invokespecial 51, 3) := by decide +kernel
theorem dX11_init_100 : decode cX11_init 100 = .ok (.putfield 52, 3) := by decide +kernel
theorem dX11_init_103 : decode cX11_init 103 = .ok (.aload_n 0, 1) := by decide +kernel
theorem dX11_init_104 : decode cX11_init 104 = .ok (.new 56, 3) := by decide +kernel
theorem dX11_init_107 : decode cX11_init 107 = .ok (.dup, 1) := by decide +kernel
theorem dX11_init_108 : decode cX11_init 108 = .ok (.invokespecial 58, 3) := by decide +kernel
theorem dX11_init_111 : decode cX11_init 111 = .ok (.putfield 59, 3) := by decide +kernel
theorem dX11_init_114 : decode cX11_init 114 = .ok (.aload_n 0, 1) := by decide +kernel
theorem dX11_init_115 : decode cX11_init 115 = .ok (.new 63, 3) := by decide +kernel
theorem dX11_init_118 : decode cX11_init 118 = .ok (.dup, 1) := by decide +kernel
theorem dX11_init_119 : decode cX11_init 119 = .ok (.invokespecial 65, 3) := by decide +kernel
theorem dX11_init_122 : decode cX11_init 122 = .ok (.putfield 66, 3) := by decide +kernel
theorem dX11_init_125 : decode cX11_init 125 = .ok (.return_, 1) := by decide +kernel
theorem dX11_feed_0 : decode cX11_feed 0 = .ok (.aload_n 0, 1) := by decide +kernel
theorem dX11_feed_1 : decode cX11_feed 1 = .ok (.getfield 10, 3) := by decide +kernel
theorem dX11_feed_4 : decode cX11_feed 4 = .ok (.getfield 70, 3) := by decide +kernel
theorem dX11_feed_7 : decode cX11_feed 7 = .ok (.sipush 380, 3) := by decide +kernel
theorem dX11_feed_10 : decode cX11_feed 10 = .ok (.if_icmp .le 5, 3) := by decide +kernel
theorem dX11_feed_13 : decode cX11_feed 13 = .ok (.iconst (-1), 1) := by decide +kernel
theorem dX11_feed_14 : decode cX11_feed 14 = .ok (.ireturn, 1) := by decide +kernel
theorem dX11_feed_15 : decode cX11_feed 15 = .ok (.aload_n 0, 1) := by decide +kernel
theorem dX11_feed_16 : decode cX11_feed 16 = .ok (.getfield 10, 3) := by decide +kernel
theorem dX11_feed_19 : decode cX11_feed 19 = .ok (.iload_n 1, 1) := by decide +kernel
theorem dX11_feed_20 : decode cX11_feed 20 = .ok (.invokevirtual 74, 3) := by decide +kernel
theorem dX11_feed_23 : decode cX11_feed 23 = .ok (.aload_n 0, 1) := by decide +kernel
theorem dX11_feed_24 : decode cX11_feed 24 = .ok (.getfield 10, 3) := by decide +kernel
theorem dX11_feed_27 : decode cX11_feed 27 = .ok (.iload_n 2, 1) := by decide +kernel
theorem dX11_feed_28 : decode cX11_feed 28 = .ok (.invokevirtual 74, 3) := by decide +kernel
theorem dX11_feed_31 : decode cX11_feed 31 = .ok (.aload_n 0, 1) := by decide +kernel
theorem dX11_feed_32 : decode cX11_feed 32 = .ok (.getfield 10, 3) := by decide +kernel
theorem dX11_feed_35 : decode cX11_feed 35 = .ok (.iload_n 3, 1) := by decide +kernel
theorem dX11_feed_36 : decode cX11_feed 36 = .ok (.invokevirtual 74, 3) := by decide +kernel
theorem dX11_feed_39 : decode cX11_feed 39 = .ok (.aload_n 0, 1) := by decide +kernel
theorem dX11_feed_40 : decode cX11_feed 40 = .ok (.getfield 10, 3) := by decide +kernel
theorem dX11_feed_43 : decode cX11_feed 43 = .ok (.iload 4, 2) := by decide +kernel
theorem dX11_feed_45 : decode cX11_feed 45 = .ok (.invokevirtual 74, 3) := by decide +kernel
theorem dX11_feed_48 : decode cX11_feed 48 = .ok (.aload_n 0, 1) := by decide +kernel
theorem dX11_feed_49 : decode cX11_feed 49 = .ok (.getfield 10, 3) := by decide +kernel
theorem dX11_feed_52 : decode cX11_feed 52 = .ok (.iload 5, 2) := by decide +kernel
theorem dX11_feed_54 : decode cX11_feed 54 = .ok (.invokevirtual 74, 3) := by decide +kernel
theorem dX11_feed_57 : decode cX11_feed 57 = .ok (.aload_n 0, 1) := by decide +kernel
theorem dX11_feed_58 : decode cX11_feed 58 = .ok (.getfield 10, 3) := by decide +kernel
theorem dX11_feed_61 : decode cX11_feed 61 = .ok (.getfield 70, 3) := by decide +kernel
theorem dX11_feed_64 : decode cX11_feed 64 = .ok (.ireturn, 1) := by decide +kernel
theorem dX11_end_0 : decode cX11_end 0 = .ok (.iload_n 1, 1) := by decide +kernel
theorem dX11_end_1 : decode cX11_end 1 = .ok (.ifCond .lt 14, 3) := by decide +kernel
theorem dX11_end_4 : decode cX11_end 4 = .ok (.iload_n 1, 1) := by decide +kernel
theorem dX11_end_5 : decode cX11_end 5 = .ok (.aload_n 0, 1) := by decide +kernel
theorem dX11_end_6 : decode cX11_end 6 = .ok (.getfield 10, 3) := by decide +kernel
theorem dX11_end_9 : decode cX11_end 9 = .ok (.getfield 70, 3) := by decide +kernel
theorem dX11_end_12 : decode cX11_end 12 = .ok (.if_icmp .le 5, 3) := by decide +kernel
theorem dX11_end_15 : decode cX11_end 15 = .ok (.iconst 0, 1) := by decide +kernel
theorem dX11_end_16 : decode cX11_end 16 = .ok (.ireturn, 1) := by decide +kernel
theorem dX11_end_17 : decode cX11_end 17 = .ok (.aload_n 0, 1) := by decide +kernel
theorem dX11_end_18 : decode cX11_end 18 = .ok (.getfield 10, 3) := by decide +kernel
theorem dX11_end_21 : decode cX11_end 21 = .ok (.iload_n 1, 1) := by decide +kernel
theorem dX11_end_22 : decode cX11_end 22 = .ok (.putfield 70, 3) := by decide +kernel
theorem dX11_end_25 : decode cX11_end 25 = .ok (.iconst 1, 1) := by decide +kernel
theorem dX11_end_26 : decode cX11_end 26 = .ok (.ireturn, 1) := by decide +kernel
theorem dX11_street_0 : decode cX11_street 0 = .ok (.aload_n 0, 1) := by decide +kernel
theorem dX11_street_1 : decode cX11_street 1 = .ok (.getfield 10, 3) := by decide +kernel
theorem dX11_street_4 : decode cX11_street 4 = .ok (.invokevirtual 78, 3) := by decide +kernel
theorem dX11_street_7 : decode cX11_street 7 = .ok (.aload_n 0, 1) := by decide +kernel
theorem dX11_street_8 : decode cX11_street 8 = .ok (.getfield 23, 3) := by decide +kernel
theorem dX11_street_11 : decode cX11_street 11 = .ok (.aload_n 0, 1) := by decide +kernel
theorem dX11_street_12 : decode cX11_street 12 = .ok (.getfield 19, 3) := by decide +kernel
theorem dX11_street_15 : decode cX11_street 15 = .ok (.invokevirtual 81, 3) := by decide +kernel
theorem dX11_street_18 : decode cX11_street 18 = .ok (.aload_n 0, 1) := by decide +kernel
theorem dX11_street_19 : decode cX11_street 19 = .ok (.getfield 10, 3) := by decide +kernel
theorem dX11_street_22 : decode cX11_street 22 = .ok (.aload_n 0, 1) := by decide +kernel
theorem dX11_street_23 : decode cX11_street 23 = .ok (.getfield 23, 3) := by decide +kernel
theorem dX11_street_26 : decode cX11_street 26 = .ok (.invokestatic 85, 3) := by decide +kernel
theorem dX11_street_29 : decode cX11_street 29 = .ok (.ifCond .ne 13, 3) := by decide +kernel
theorem dX11_street_32 : decode cX11_street 32 = .ok (.new 91, 3) := by decide +kernel
theorem dX11_street_35 : decode cX11_street 35 = .ok (.dup, 1) := by decide +kernel
theorem dX11_street_36 : decode cX11_street 36 = .ok (.ldc 93, 2) := by decide +kernel
theorem dX11_street_38 : decode cX11_street 38 = .ok (.invokespecial 95, 3) := by decide +kernel
theorem dX11_street_41 : decode cX11_street 41 = .ok (.athrow, 1) := by decide +kernel
theorem dX11_street_42 : decode cX11_street 42 = .ok (.aload_n 0, 1) := by decide +kernel
theorem dX11_street_43 : decode cX11_street 43 = .ok (.getfield 19, 3) := by decide +kernel
theorem dX11_street_46 : decode cX11_street 46 = .ok (.getfield 98, 3) := by decide +kernel
theorem dX11_street_49 : decode cX11_street 49 = .ok (.bipush 12, 2) := by decide +kernel
theorem dX11_street_51 : decode cX11_street 51 = .ok (.if_icmp .lt 13, 3) := by decide +kernel
theorem dX11_street_54 : decode cX11_street 54 = .ok (.new 101, 3) := by decide +kernel
theorem dX11_street_57 : decode cX11_street 57 = .ok (.dup, 1) := by decide +kernel
theorem dX11_street_58 : decode cX11_street 58 = .ok (.ldc 103, 2) := by decide +kernel
theorem dX11_street_60 : decode cX11_street 60 = .ok (.invokespecial 105, 3) := by decide +kernel
theorem dX11_street_63 : decode cX11_street 63 = .ok (.athrow, 1) := by decide +kernel
theorem dX11_street_64 : decode cX11_street 64 = .ok (.aload_n 0, 1) := by decide +kernel
theorem dX11_street_65 : decode cX11_street 65 = .ok (.getfield 19, 3) := by decide +kernel
theorem dX11_street_68 : decode cX11_street 68 = .ok (.aload_n 0, 1) := by decide +kernel
theorem dX11_street_69 : decode cX11_street 69 = .ok (.getfield 23, 3) := by decide +kernel
theorem dX11_street_72 : decode cX11_street 72 = .ok (.invokevirtual 81, 3) := by decide +kernel
theorem dX11_street_75 : decode cX11_street 75 = .ok (.aload_n 0, 1) := by decide +kernel
theorem dX11_street_76 : decode cX11_street 76 = .ok (.getfield 19, 3) := by decide +kernel
theorem dX11_street_79 : decode cX11_street 79 = .ok (.dup, 1) := by decide +kernel
theorem dX11_street_80 : decode cX11_street 80 = .ok (.getfield 98, 3) := by decide +kernel
theorem dX11_street_83 : decode cX11_street 83 = .ok (.iconst 1, 1) := by decide +kernel
theorem dX11_street_84 : decode cX11_street 84 = .ok (.iadd, 1) := by decide +kernel
theorem dX11_street_85 : decode cX11_street 85 = .ok (.putfield 98, 3) := by decide +kernel
theorem dX11_street_88 : decode cX11_street 88 = .ok (.aload_n 0, 1) := by decide +kernel
theorem dX11_street_89 : decode cX11_street 89 = .ok (.getfield 45, 3) := by decide +kernel
theorem dX11_street_92 : decode cX11_street 92 = .ok (.invokevirtual 106, 3) := by decide +kernel
theorem dX11_street_95 : decode cX11_street 95 = .ok (.aload_n 0, 1) := by decide +kernel
theorem dX11_street_96 : decode cX11_street 96 = .ok (.getfield 19, 3) := by decide +kernel
theorem dX11_street_99 : decode cX11_street 99 = .ok (.getfield 98, 3) := by decide +kernel
theorem dX11_street_102 : decode cX11_street 102 = .ok (.ireturn, 1) := by decide +kernel
theorem dX11_law_0 : decode cX11_law 0 = .ok (.aload_n 0, 1) := by decide +kernel
theorem dX11_law_1 : decode cX11_law 1 = .ok (.getfield 10, 3) := by decide +kernel
theorem dX11_law_4 : decode cX11_law 4 = .ok (.invokevirtual 78, 3) := by decide +kernel
theorem dX11_law_7 : decode cX11_law 7 = .ok (.aload_n 0, 1) := by decide +kernel
theorem dX11_law_8 : decode cX11_law 8 = .ok (.getfield 36, 3) := by decide +kernel
theorem dX11_law_11 : decode cX11_law 11 = .ok (.invokevirtual 109, 3) := by decide +kernel
theorem dX11_law_14 : decode cX11_law 14 = .ok (.aload_n 0, 1) := by decide +kernel
theorem dX11_law_15 : decode cX11_law 15 = .ok (.getfield 10, 3) := by decide +kernel
theorem dX11_law_18 : decode cX11_law 18 = .ok (.aload_n 0, 1) := by decide +kernel
theorem dX11_law_19 : decode cX11_law 19 = .ok (.getfield 36, 3) := by decide +kernel
theorem dX11_law_22 : decode cX11_law 22 = .ok (.invokestatic 112, 3) := by decide +kernel
theorem dX11_law_25 : decode cX11_law 25 = .ok (.ifCond .ne 13, 3) := by decide +kernel
theorem dX11_law_28 : decode cX11_law 28 = .ok (.new 91, 3) := by decide +kernel
theorem dX11_law_31 : decode cX11_law 31 = .ok (.dup, 1) := by decide +kernel
theorem dX11_law_32 : decode cX11_law 32 = .ok (.ldc 117, 2) := by decide +kernel
theorem dX11_law_34 : decode cX11_law 34 = .ok (.invokespecial 95, 3) := by decide +kernel
theorem dX11_law_37 : decode cX11_law 37 = .ok (.athrow, 1) := by decide +kernel
theorem dX11_law_38 : decode cX11_law 38 = .ok (.aload_n 0, 1) := by decide +kernel
theorem dX11_law_39 : decode cX11_law 39 = .ok (.getfield 32, 3) := by decide +kernel
theorem dX11_law_42 : decode cX11_law 42 = .ok (.aload_n 0, 1) := by decide +kernel
theorem dX11_law_43 : decode cX11_law 43 = .ok (.getfield 36, 3) := by decide +kernel
theorem dX11_law_46 : decode cX11_law 46 = .ok (.invokevirtual 119, 3) := by decide +kernel
theorem dX11_law_49 : decode cX11_law 49 = .ok (.aload_n 0, 1) := by decide +kernel
theorem dX11_law_50 : decode cX11_law 50 = .ok (.getfield 45, 3) := by decide +kernel
theorem dX11_law_53 : decode cX11_law 53 = .ok (.invokevirtual 106, 3) := by decide +kernel
theorem dX11_law_56 : decode cX11_law 56 = .ok (.aload_n 0, 1) := by decide +kernel
theorem dX11_law_57 : decode cX11_law 57 = .ok (.getfield 32, 3) := by decide +kernel
theorem dX11_law_60 : decode cX11_law 60 = .ok (.getfield 122, 3) := by decide +kernel
theorem dX11_law_63 : decode cX11_law 63 = .ok (.ireturn, 1) := by decide +kernel
theorem dX11_fault_0 : decode cX11_fault 0 = .ok (.aload_n 0, 1) := by decide +kernel
theorem dX11_fault_1 : decode cX11_fault 1 = .ok (.getfield 10, 3) := by decide +kernel
theorem dX11_fault_4 : decode cX11_fault 4 = .ok (.getfield 125, 3) := by decide +kernel
theorem dX11_fault_7 : decode cX11_fault 7 = .ok (.ireturn, 1) := by decide +kernel
theorem dX11_pane_0 : decode cX11_pane 0 = .ok (.aload_n 0, 1) := by decide +kernel
theorem dX11_pane_1 : decode cX11_pane 1 = .ok (.iload_n 1, 1) := by decide +kernel
theorem dX11_pane_2 : decode cX11_pane 2 = .ok (.invokevirtual 128, 3) := by decide +kernel
theorem dX11_pane_5 : decode cX11_pane 5 = .ok (.iload_n 2, 1) := by decide +kernel
theorem dX11_pane_6 : decode cX11_pane 6 = .ok (.tableswitch 177 0 7 #[46, 58, 75, 87, 99, 116, 133, 150], 46) := by decide +kernel
theorem dX11_pane_52 : decode cX11_pane 52 = .ok (.aload_n 0, 1) := by decide +kernel
theorem dX11_pane_53 : decode cX11_pane 53 = .ok (.getfield 19, 3) := by decide +kernel
theorem dX11_pane_56 : decode cX11_pane 56 = .ok (.getfield 131, 3) := by decide +kernel
theorem dX11_pane_59 : decode cX11_pane 59 = .ok (.iload_n 1, 1) := by decide +kernel
theorem dX11_pane_60 : decode cX11_pane 60 = .ok (.invokevirtual 135, 3) := by decide +kernel
theorem dX11_pane_63 : decode cX11_pane 63 = .ok (.ireturn, 1) := by decide +kernel
theorem dX11_pane_64 : decode cX11_pane 64 = .ok (.aload_n 0, 1) := by decide +kernel
theorem dX11_pane_65 : decode cX11_pane 65 = .ok (.getfield 19, 3) := by decide +kernel
theorem dX11_pane_68 : decode cX11_pane 68 = .ok (.iload_n 1, 1) := by decide +kernel
theorem dX11_pane_69 : decode cX11_pane 69 = .ok (.invokevirtual 141, 3) := by decide +kernel
theorem dX11_pane_72 : decode cX11_pane 72 = .ok (.ifCond .eq 7, 3) := by decide +kernel
theorem dX11_pane_75 : decode cX11_pane 75 = .ok (.iconst 1, 1) := by decide +kernel
theorem dX11_pane_76 : decode cX11_pane 76 = .ok (.goto 4, 3) := by decide +kernel
theorem dX11_pane_79 : decode cX11_pane 79 = .ok (.iconst 0, 1) := by decide +kernel
theorem dX11_pane_80 : decode cX11_pane 80 = .ok (.ireturn, 1) := by decide +kernel
theorem dX11_pane_81 : decode cX11_pane 81 = .ok (.aload_n 0, 1) := by decide +kernel
theorem dX11_pane_82 : decode cX11_pane 82 = .ok (.getfield 19, 3) := by decide +kernel
theorem dX11_pane_85 : decode cX11_pane 85 = .ok (.getfield 145, 3) := by decide +kernel
theorem dX11_pane_88 : decode cX11_pane 88 = .ok (.iload_n 1, 1) := by decide +kernel
theorem dX11_pane_89 : decode cX11_pane 89 = .ok (.invokevirtual 135, 3) := by decide +kernel
theorem dX11_pane_92 : decode cX11_pane 92 = .ok (.ireturn, 1) := by decide +kernel
theorem dX11_pane_93 : decode cX11_pane 93 = .ok (.aload_n 0, 1) := by decide +kernel
theorem dX11_pane_94 : decode cX11_pane 94 = .ok (.getfield 19, 3) := by decide +kernel
theorem dX11_pane_97 : decode cX11_pane 97 = .ok (.getfield 148, 3) := by decide +kernel
theorem dX11_pane_100 : decode cX11_pane 100 = .ok (.iload_n 1, 1) := by decide +kernel
theorem dX11_pane_101 : decode cX11_pane 101 = .ok (.invokevirtual 135, 3) := by decide +kernel
theorem dX11_pane_104 : decode cX11_pane 104 = .ok (.ireturn, 1) := by decide +kernel
theorem dX11_pane_105 : decode cX11_pane 105 = .ok (.aload_n 0, 1) := by decide +kernel
theorem dX11_pane_106 : decode cX11_pane 106 = .ok (.getfield 66, 3) := by decide +kernel
theorem dX11_pane_109 : decode cX11_pane 109 = .ok (.aload_n 0, 1) := by decide +kernel
theorem dX11_pane_110 : decode cX11_pane 110 = .ok (.getfield 19, 3) := by decide +kernel
theorem dX11_pane_113 : decode cX11_pane 113 = .ok (.aload_n 0, 1) := by decide +kernel
theorem dX11_pane_114 : decode cX11_pane 114 = .ok (.getfield 32, 3) := by decide +kernel
theorem dX11_pane_117 : decode cX11_pane 117 = .ok (.iload_n 1, 1) := by decide +kernel
theorem dX11_pane_118 : decode cX11_pane 118 = .ok (.invokevirtual 151, 3) := by decide +kernel
theorem dX11_pane_121 : decode cX11_pane 121 = .ok (.ireturn, 1) := by decide +kernel
theorem dX11_pane_122 : decode cX11_pane 122 = .ok (.aload_n 0, 1) := by decide +kernel
theorem dX11_pane_123 : decode cX11_pane 123 = .ok (.getfield 52, 3) := by decide +kernel
theorem dX11_pane_126 : decode cX11_pane 126 = .ok (.aload_n 0, 1) := by decide +kernel
theorem dX11_pane_127 : decode cX11_pane 127 = .ok (.getfield 19, 3) := by decide +kernel
theorem dX11_pane_130 : decode cX11_pane 130 = .ok (.aload_n 0, 1) := by decide +kernel
theorem dX11_pane_131 : decode cX11_pane 131 = .ok (.getfield 32, 3) := by decide +kernel
theorem dX11_pane_134 : decode cX11_pane 134 = .ok (.iload_n 1, 1) := by decide +kernel
theorem dX11_pane_135 : decode cX11_pane 135 = .ok (.invokevirtual 155, 3) := by decide +kernel
theorem dX11_pane_138 : decode cX11_pane 138 = .ok (.ireturn, 1) := by decide +kernel
theorem dX11_pane_139 : decode cX11_pane 139 = .ok (.aload_n 0, 1) := by decide +kernel
theorem dX11_pane_140 : decode cX11_pane 140 = .ok (.getfield 66, 3) := by decide +kernel
theorem dX11_pane_143 : decode cX11_pane 143 = .ok (.aload_n 0, 1) := by decide +kernel
theorem dX11_pane_144 : decode cX11_pane 144 = .ok (.getfield 19, 3) := by decide +kernel
theorem dX11_pane_147 : decode cX11_pane 147 = .ok (.aload_n 0, 1) := by decide +kernel
theorem dX11_pane_148 : decode cX11_pane 148 = .ok (.getfield 32, 3) := by decide +kernel
theorem dX11_pane_151 : decode cX11_pane 151 = .ok (.iload_n 1, 1) := by decide +kernel
theorem dX11_pane_152 : decode cX11_pane 152 = .ok (.invokevirtual 158, 3) := by decide +kernel
theorem dX11_pane_155 : decode cX11_pane 155 = .ok (.ireturn, 1) := by decide +kernel
theorem dX11_pane_156 : decode cX11_pane 156 = .ok (.aload_n 0, 1) := by decide +kernel
theorem dX11_pane_157 : decode cX11_pane 157 = .ok (.getfield 19, 3) := by decide +kernel
theorem dX11_pane_160 : decode cX11_pane 160 = .ok (.iload_n 1, 1) := by decide +kernel
theorem dX11_pane_161 : decode cX11_pane 161 = .ok (.invokevirtual 141, 3) := by decide +kernel
theorem dX11_pane_164 : decode cX11_pane 164 = .ok (.ifCond .eq 17, 3) := by decide +kernel
theorem dX11_pane_167 : decode cX11_pane 167 = .ok (.aload_n 0, 1) := by decide +kernel
theorem dX11_pane_168 : decode cX11_pane 168 = .ok (.getfield 19, 3) := by decide +kernel
theorem dX11_pane_171 : decode cX11_pane 171 = .ok (.getfield 131, 3) := by decide +kernel
theorem dX11_pane_174 : decode cX11_pane 174 = .ok (.iload_n 1, 1) := by decide +kernel
theorem dX11_pane_175 : decode cX11_pane 175 = .ok (.invokevirtual 135, 3) := by decide +kernel
theorem dX11_pane_178 : decode cX11_pane 178 = .ok (.goto 4, 3) := by decide +kernel
theorem dX11_pane_181 : decode cX11_pane 181 = .ok (.iconst 0, 1) := by decide +kernel
theorem dX11_pane_182 : decode cX11_pane 182 = .ok (.ireturn, 1) := by decide +kernel
theorem dX11_pane_183 : decode cX11_pane 183 = .ok (.new 161, 3) := by decide +kernel
theorem dX11_pane_186 : decode cX11_pane 186 = .ok (.dup, 1) := by decide +kernel
theorem dX11_pane_187 : decode cX11_pane 187 = .ok (.ldc 163, 2) := by decide +kernel
theorem dX11_pane_189 : decode cX11_pane 189 = .ok (.invokespecial 165, 3) := by decide +kernel
theorem dX11_pane_192 : decode cX11_pane 192 = .ok (.athrow, 1) := by decide +kernel
theorem dX11_walker_0 : decode cX11_walker 0 = .ok (.aload_n 0, 1) := by decide +kernel
theorem dX11_walker_1 : decode cX11_walker 1 = .ok (.iload_n 1, 1) := by decide +kernel
theorem dX11_walker_2 : decode cX11_walker 2 = .ok (.invokevirtual 166, 3) := by decide +kernel
theorem dX11_walker_5 : decode cX11_walker 5 = .ok (.iload_n 2, 1) := by decide +kernel
theorem dX11_walker_6 : decode cX11_walker 6 = .ok (.tableswitch 133 0 6 #[42, 54, 66, 78, 90, 107, 124], 42) := by decide +kernel
theorem dX11_walker_48 : decode cX11_walker 48 = .ok (.aload_n 0, 1) := by decide +kernel
theorem dX11_walker_49 : decode cX11_walker 49 = .ok (.getfield 19, 3) := by decide +kernel
theorem dX11_walker_52 : decode cX11_walker 52 = .ok (.getfield 169, 3) := by decide +kernel
theorem dX11_walker_55 : decode cX11_walker 55 = .ok (.iload_n 1, 1) := by decide +kernel
theorem dX11_walker_56 : decode cX11_walker 56 = .ok (.invokevirtual 135, 3) := by decide +kernel
theorem dX11_walker_59 : decode cX11_walker 59 = .ok (.ireturn, 1) := by decide +kernel
theorem dX11_walker_60 : decode cX11_walker 60 = .ok (.aload_n 0, 1) := by decide +kernel
theorem dX11_walker_61 : decode cX11_walker 61 = .ok (.getfield 19, 3) := by decide +kernel
theorem dX11_walker_64 : decode cX11_walker 64 = .ok (.getfield 172, 3) := by decide +kernel
theorem dX11_walker_67 : decode cX11_walker 67 = .ok (.iload_n 1, 1) := by decide +kernel
theorem dX11_walker_68 : decode cX11_walker 68 = .ok (.invokevirtual 135, 3) := by decide +kernel
theorem dX11_walker_71 : decode cX11_walker 71 = .ok (.ireturn, 1) := by decide +kernel
theorem dX11_walker_72 : decode cX11_walker 72 = .ok (.aload_n 0, 1) := by decide +kernel
theorem dX11_walker_73 : decode cX11_walker 73 = .ok (.getfield 19, 3) := by decide +kernel
theorem dX11_walker_76 : decode cX11_walker 76 = .ok (.getfield 175, 3) := by decide +kernel
theorem dX11_walker_79 : decode cX11_walker 79 = .ok (.iload_n 1, 1) := by decide +kernel
theorem dX11_walker_80 : decode cX11_walker 80 = .ok (.invokevirtual 135, 3) := by decide +kernel
theorem dX11_walker_83 : decode cX11_walker 83 = .ok (.ireturn, 1) := by decide +kernel
theorem dX11_walker_84 : decode cX11_walker 84 = .ok (.aload_n 0, 1) := by decide +kernel
theorem dX11_walker_85 : decode cX11_walker 85 = .ok (.getfield 19, 3) := by decide +kernel
theorem dX11_walker_88 : decode cX11_walker 88 = .ok (.getfield 178, 3) := by decide +kernel
theorem dX11_walker_91 : decode cX11_walker 91 = .ok (.iload_n 1, 1) := by decide +kernel
theorem dX11_walker_92 : decode cX11_walker 92 = .ok (.invokevirtual 135, 3) := by decide +kernel
theorem dX11_walker_95 : decode cX11_walker 95 = .ok (.ireturn, 1) := by decide +kernel
theorem dX11_walker_96 : decode cX11_walker 96 = .ok (.aload_n 0, 1) := by decide +kernel
theorem dX11_walker_97 : decode cX11_walker 97 = .ok (.getfield 66, 3) := by decide +kernel
theorem dX11_walker_100 : decode cX11_walker 100 = .ok (.aload_n 0, 1) := by decide +kernel
theorem dX11_walker_101 : decode cX11_walker 101 = .ok (.getfield 19, 3) := by decide +kernel
theorem dX11_walker_104 : decode cX11_walker 104 = .ok (.aload_n 0, 1) := by decide +kernel
theorem dX11_walker_105 : decode cX11_walker 105 = .ok (.getfield 32, 3) := by decide +kernel
theorem dX11_walker_108 : decode cX11_walker 108 = .ok (.iload_n 1, 1) := by decide +kernel
theorem dX11_walker_109 : decode cX11_walker 109 = .ok (.invokevirtual 181, 3) := by decide +kernel
theorem dX11_walker_112 : decode cX11_walker 112 = .ok (.ireturn, 1) := by decide +kernel
theorem dX11_walker_113 : decode cX11_walker 113 = .ok (.aload_n 0, 1) := by decide +kernel
theorem dX11_walker_114 : decode cX11_walker 114 = .ok (.getfield 66, 3) := by decide +kernel
theorem dX11_walker_117 : decode cX11_walker 117 = .ok (.aload_n 0, 1) := by decide +kernel
theorem dX11_walker_118 : decode cX11_walker 118 = .ok (.getfield 19, 3) := by decide +kernel
theorem dX11_walker_121 : decode cX11_walker 121 = .ok (.aload_n 0, 1) := by decide +kernel
theorem dX11_walker_122 : decode cX11_walker 122 = .ok (.getfield 32, 3) := by decide +kernel
theorem dX11_walker_125 : decode cX11_walker 125 = .ok (.iload_n 1, 1) := by decide +kernel
theorem dX11_walker_126 : decode cX11_walker 126 = .ok (.invokevirtual 184, 3) := by decide +kernel
theorem dX11_walker_129 : decode cX11_walker 129 = .ok (.ireturn, 1) := by decide +kernel
theorem dX11_walker_130 : decode cX11_walker 130 = .ok (.aload_n 0, 1) := by decide +kernel
theorem dX11_walker_131 : decode cX11_walker 131 = .ok (.getfield 19, 3) := by decide +kernel
theorem dX11_walker_134 : decode cX11_walker 134 = .ok (.iload_n 1, 1) := by decide +kernel
theorem dX11_walker_135 : decode cX11_walker 135 = .ok (.invokevirtual 187, 3) := by decide +kernel
theorem dX11_walker_138 : decode cX11_walker 138 = .ok (.ireturn, 1) := by decide +kernel
theorem dX11_walker_139 : decode cX11_walker 139 = .ok (.new 161, 3) := by decide +kernel
theorem dX11_walker_142 : decode cX11_walker 142 = .ok (.dup, 1) := by decide +kernel
theorem dX11_walker_143 : decode cX11_walker 143 = .ok (.ldc 190, 2) := by decide +kernel
theorem dX11_walker_145 : decode cX11_walker 145 = .ok (.invokespecial 165, 3) := by decide +kernel
theorem dX11_walker_148 : decode cX11_walker 148 = .ok (.athrow, 1) := by decide +kernel
theorem dX11_likes_0 : decode cX11_likes 0 = .ok (.aload_n 0, 1) := by decide +kernel
theorem dX11_likes_1 : decode cX11_likes 1 = .ok (.iload_n 1, 1) := by decide +kernel
theorem dX11_likes_2 : decode cX11_likes 2 = .ok (.iload_n 2, 1) := by decide +kernel
theorem dX11_likes_3 : decode cX11_likes 3 = .ok (.invokevirtual 192, 3) := by decide +kernel
theorem dX11_likes_6 : decode cX11_likes 6 = .ok (.aload_n 0, 1) := by decide +kernel
theorem dX11_likes_7 : decode cX11_likes 7 = .ok (.getfield 19, 3) := by decide +kernel
theorem dX11_likes_10 : decode cX11_likes 10 = .ok (.iload_n 1, 1) := by decide +kernel
theorem dX11_likes_11 : decode cX11_likes 11 = .ok (.iload_n 2, 1) := by decide +kernel
theorem dX11_likes_12 : decode cX11_likes 12 = .ok (.invokevirtual 196, 3) := by decide +kernel
theorem dX11_likes_15 : decode cX11_likes 15 = .ok (.ireturn, 1) := by decide +kernel
theorem dX11_will_0 : decode cX11_will 0 = .ok (.aload_n 0, 1) := by decide +kernel
theorem dX11_will_1 : decode cX11_will 1 = .ok (.iload_n 1, 1) := by decide +kernel
theorem dX11_will_2 : decode cX11_will 2 = .ok (.invokevirtual 166, 3) := by decide +kernel
theorem dX11_will_5 : decode cX11_will 5 = .ok (.aload_n 0, 1) := by decide +kernel
theorem dX11_will_6 : decode cX11_will 6 = .ok (.iload_n 2, 1) := by decide +kernel
theorem dX11_will_7 : decode cX11_will 7 = .ok (.invokevirtual 128, 3) := by decide +kernel
theorem dX11_will_10 : decode cX11_will 10 = .ok (.aload_n 0, 1) := by decide +kernel
theorem dX11_will_11 : decode cX11_will 11 = .ok (.getfield 32, 3) := by decide +kernel
theorem dX11_will_14 : decode cX11_will 14 = .ok (.aload_n 0, 1) := by decide +kernel
theorem dX11_will_15 : decode cX11_will 15 = .ok (.getfield 19, 3) := by decide +kernel
theorem dX11_will_18 : decode cX11_will 18 = .ok (.iload_n 1, 1) := by decide +kernel
theorem dX11_will_19 : decode cX11_will 19 = .ok (.iload_n 2, 1) := by decide +kernel
theorem dX11_will_20 : decode cX11_will 20 = .ok (.aload_n 0, 1) := by decide +kernel
theorem dX11_will_21 : decode cX11_will 21 = .ok (.getfield 19, 3) := by decide +kernel
theorem dX11_will_24 : decode cX11_will 24 = .ok (.iload_n 1, 1) := by decide +kernel
theorem dX11_will_25 : decode cX11_will 25 = .ok (.iload_n 2, 1) := by decide +kernel
theorem dX11_will_26 : decode cX11_will 26 = .ok (.invokevirtual 200, 3) := by decide +kernel
theorem dX11_will_29 : decode cX11_will 29 = .ok (.aload_n 0, 1) := by decide +kernel
theorem dX11_will_30 : decode cX11_will 30 = .ok (.getfield 19, 3) := by decide +kernel
theorem dX11_will_33 : decode cX11_will 33 = .ok (.getfield 172, 3) := by decide +kernel
theorem dX11_will_36 : decode cX11_will 36 = .ok (.iload_n 1, 1) := by decide +kernel
theorem dX11_will_37 : decode cX11_will 37 = .ok (.invokevirtual 135, 3) := by decide +kernel
theorem dX11_will_40 : decode cX11_will 40 = .ok (.invokevirtual 203, 3) := by decide +kernel
theorem dX11_will_43 : decode cX11_will 43 = .ok (.aload_n 0, 1) := by decide +kernel
theorem dX11_will_44 : decode cX11_will 44 = .ok (.getfield 32, 3) := by decide +kernel
theorem dX11_will_47 : decode cX11_will 47 = .ok (.invokevirtual 207, 3) := by decide +kernel
theorem dX11_will_50 : decode cX11_will 50 = .ok (.ireturn, 1) := by decide +kernel
theorem dX11_lights_0 : decode cX11_lights 0 = .ok (.aload_n 0, 1) := by decide +kernel
theorem dX11_lights_1 : decode cX11_lights 1 = .ok (.iload_n 1, 1) := by decide +kernel
theorem dX11_lights_2 : decode cX11_lights 2 = .ok (.invokevirtual 166, 3) := by decide +kernel
theorem dX11_lights_5 : decode cX11_lights 5 = .ok (.aload_n 0, 1) := by decide +kernel
theorem dX11_lights_6 : decode cX11_lights 6 = .ok (.iload_n 2, 1) := by decide +kernel
theorem dX11_lights_7 : decode cX11_lights 7 = .ok (.invokevirtual 128, 3) := by decide +kernel
theorem dX11_lights_10 : decode cX11_lights 10 = .ok (.aload_n 0, 1) := by decide +kernel
theorem dX11_lights_11 : decode cX11_lights 11 = .ok (.getfield 32, 3) := by decide +kernel
theorem dX11_lights_14 : decode cX11_lights 14 = .ok (.aload_n 0, 1) := by decide +kernel
theorem dX11_lights_15 : decode cX11_lights 15 = .ok (.getfield 19, 3) := by decide +kernel
theorem dX11_lights_18 : decode cX11_lights 18 = .ok (.iload_n 1, 1) := by decide +kernel
theorem dX11_lights_19 : decode cX11_lights 19 = .ok (.iload_n 2, 1) := by decide +kernel
theorem dX11_lights_20 : decode cX11_lights 20 = .ok (.aload_n 0, 1) := by decide +kernel
theorem dX11_lights_21 : decode cX11_lights 21 = .ok (.getfield 19, 3) := by decide +kernel
theorem dX11_lights_24 : decode cX11_lights 24 = .ok (.iload_n 1, 1) := by decide +kernel
theorem dX11_lights_25 : decode cX11_lights 25 = .ok (.iload_n 2, 1) := by decide +kernel
theorem dX11_lights_26 : decode cX11_lights 26 = .ok (.invokevirtual 200, 3) := by decide +kernel
theorem dX11_lights_29 : decode cX11_lights 29 = .ok (.aload_n 0, 1) := by decide +kernel
theorem dX11_lights_30 : decode cX11_lights 30 = .ok (.getfield 19, 3) := by decide +kernel
theorem dX11_lights_33 : decode cX11_lights 33 = .ok (.getfield 172, 3) := by decide +kernel
theorem dX11_lights_36 : decode cX11_lights 36 = .ok (.iload_n 1, 1) := by decide +kernel
theorem dX11_lights_37 : decode cX11_lights 37 = .ok (.invokevirtual 135, 3) := by decide +kernel
theorem dX11_lights_40 : decode cX11_lights 40 = .ok (.invokevirtual 211, 3) := by decide +kernel
theorem dX11_lights_43 : decode cX11_lights 43 = .ok (.ireturn, 1) := by decide +kernel
theorem dX11_isOpen_0 : decode cX11_isOpen 0 = .ok (.aload_n 0, 1) := by decide +kernel
theorem dX11_isOpen_1 : decode cX11_isOpen 1 = .ok (.iload_n 1, 1) := by decide +kernel
theorem dX11_isOpen_2 : decode cX11_isOpen 2 = .ok (.iload_n 2, 1) := by decide +kernel
theorem dX11_isOpen_3 : decode cX11_isOpen 3 = .ok (.invokevirtual 215, 3) := by decide +kernel
theorem dX11_isOpen_6 : decode cX11_isOpen 6 = .ok (.aload_n 0, 1) := by decide +kernel
theorem dX11_isOpen_7 : decode cX11_isOpen 7 = .ok (.getfield 19, 3) := by decide +kernel
theorem dX11_isOpen_10 : decode cX11_isOpen 10 = .ok (.iload_n 1, 1) := by decide +kernel
theorem dX11_isOpen_11 : decode cX11_isOpen 11 = .ok (.iload_n 2, 1) := by decide +kernel
theorem dX11_isOpen_12 : decode cX11_isOpen 12 = .ok (.invokevirtual 218, 3) := by decide +kernel
theorem dX11_isOpen_15 : decode cX11_isOpen 15 = .ok (.ireturn, 1) := by decide +kernel
theorem dX11_hours_0 : decode cX11_hours 0 = .ok (.iload_n 1, 1) := by decide +kernel
theorem dX11_hours_1 : decode cX11_hours 1 = .ok (.iconst 1, 1) := by decide +kernel
theorem dX11_hours_2 : decode cX11_hours 2 = .ok (.bipush 60, 2) := by decide +kernel
theorem dX11_hours_4 : decode cX11_hours 4 = .ok (.invokestatic 222, 3) := by decide +kernel
theorem dX11_hours_7 : decode cX11_hours 7 = .ok (.aload_n 0, 1) := by decide +kernel
theorem dX11_hours_8 : decode cX11_hours 8 = .ok (.getfield 45, 3) := by decide +kernel
theorem dX11_hours_11 : decode cX11_hours 11 = .ok (.aload_n 0, 1) := by decide +kernel
theorem dX11_hours_12 : decode cX11_hours 12 = .ok (.getfield 19, 3) := by decide +kernel
theorem dX11_hours_15 : decode cX11_hours 15 = .ok (.invokevirtual 226, 3) := by decide +kernel
theorem dX11_hours_18 : decode cX11_hours 18 = .ok (.iconst 0, 1) := by decide +kernel
theorem dX11_hours_19 : decode cX11_hours 19 = .ok (.istore_n 2, 1) := by decide +kernel
theorem dX11_hours_20 : decode cX11_hours 20 = .ok (.iconst 0, 1) := by decide +kernel
theorem dX11_hours_21 : decode cX11_hours 21 = .ok (.istore_n 3, 1) := by decide +kernel
theorem dX11_hours_22 : decode cX11_hours 22 = .ok (.iload_n 3, 1) := by decide +kernel
theorem dX11_hours_23 : decode cX11_hours 23 = .ok (.iload_n 1, 1) := by decide +kernel
theorem dX11_hours_24 : decode cX11_hours 24 = .ok (.if_icmp .ge 28, 3) := by decide +kernel
theorem dX11_hours_27 : decode cX11_hours 27 = .ok (.iload_n 2, 1) := by decide +kernel
theorem dX11_hours_28 : decode cX11_hours 28 = .ok (.aload_n 0, 1) := by decide +kernel
theorem dX11_hours_29 : decode cX11_hours 29 = .ok (.getfield 52, 3) := by decide +kernel
theorem dX11_hours_32 : decode cX11_hours 32 = .ok (.aload_n 0, 1) := by decide +kernel
theorem dX11_hours_33 : decode cX11_hours 33 = .ok (.getfield 19, 3) := by decide +kernel
theorem dX11_hours_36 : decode cX11_hours 36 = .ok (.aload_n 0, 1) := by decide +kernel
theorem dX11_hours_37 : decode cX11_hours 37 = .ok (.getfield 32, 3) := by decide +kernel
theorem dX11_hours_40 : decode cX11_hours 40 = .ok (.iconst 1, 1) := by decide +kernel
theorem dX11_hours_41 : decode cX11_hours 41 = .ok (.invokevirtual 229, 3) := by decide +kernel
theorem dX11_hours_44 : decode cX11_hours 44 = .ok (.iadd, 1) := by decide +kernel
theorem dX11_hours_45 : decode cX11_hours 45 = .ok (.istore_n 2, 1) := by decide +kernel
theorem dX11_hours_46 : decode cX11_hours 46 = .ok (.iinc 3 1, 3) := by decide +kernel
theorem dX11_hours_49 : decode cX11_hours 49 = .ok (.goto (-27), 3) := by decide +kernel
theorem dX11_hours_52 : decode cX11_hours 52 = .ok (.iload_n 2, 1) := by decide +kernel
theorem dX11_hours_53 : decode cX11_hours 53 = .ok (.ireturn, 1) := by decide +kernel
theorem dX11_heads_0 : decode cX11_heads 0 = .ok (.aload_n 0, 1) := by decide +kernel
theorem dX11_heads_1 : decode cX11_heads 1 = .ok (.iload_n 1, 1) := by decide +kernel
theorem dX11_heads_2 : decode cX11_heads 2 = .ok (.invokevirtual 166, 3) := by decide +kernel
theorem dX11_heads_5 : decode cX11_heads 5 = .ok (.iload_n 2, 1) := by decide +kernel
theorem dX11_heads_6 : decode cX11_heads 6 = .ok (.iconst (-1), 1) := by decide +kernel
theorem dX11_heads_7 : decode cX11_heads 7 = .ok (.if_icmp .eq 8, 3) := by decide +kernel
theorem dX11_heads_10 : decode cX11_heads 10 = .ok (.aload_n 0, 1) := by decide +kernel
theorem dX11_heads_11 : decode cX11_heads 11 = .ok (.iload_n 2, 1) := by decide +kernel
theorem dX11_heads_12 : decode cX11_heads 12 = .ok (.invokevirtual 128, 3) := by decide +kernel
theorem dX11_heads_15 : decode cX11_heads 15 = .ok (.aload_n 0, 1) := by decide +kernel
theorem dX11_heads_16 : decode cX11_heads 16 = .ok (.getfield 45, 3) := by decide +kernel
theorem dX11_heads_19 : decode cX11_heads 19 = .ok (.aload_n 0, 1) := by decide +kernel
theorem dX11_heads_20 : decode cX11_heads 20 = .ok (.getfield 19, 3) := by decide +kernel
theorem dX11_heads_23 : decode cX11_heads 23 = .ok (.invokevirtual 226, 3) := by decide +kernel
theorem dX11_heads_26 : decode cX11_heads 26 = .ok (.aload_n 0, 1) := by decide +kernel
theorem dX11_heads_27 : decode cX11_heads 27 = .ok (.getfield 19, 3) := by decide +kernel
theorem dX11_heads_30 : decode cX11_heads 30 = .ok (.getfield 175, 3) := by decide +kernel
theorem dX11_heads_33 : decode cX11_heads 33 = .ok (.iload_n 1, 1) := by decide +kernel
theorem dX11_heads_34 : decode cX11_heads 34 = .ok (.invokevirtual 135, 3) := by decide +kernel
theorem dX11_heads_37 : decode cX11_heads 37 = .ok (.istore_n 3, 1) := by decide +kernel
theorem dX11_heads_38 : decode cX11_heads 38 = .ok (.aload_n 0, 1) := by decide +kernel
theorem dX11_heads_39 : decode cX11_heads 39 = .ok (.getfield 19, 3) := by decide +kernel
theorem dX11_heads_42 : decode cX11_heads 42 = .ok (.getfield 175, 3) := by decide +kernel
theorem dX11_heads_45 : decode cX11_heads 45 = .ok (.iload_n 1, 1) := by decide +kernel
theorem dX11_heads_46 : decode cX11_heads 46 = .ok (.iload_n 2, 1) := by decide +kernel
theorem dX11_heads_47 : decode cX11_heads 47 = .ok (.invokevirtual 233, 3) := by decide +kernel
theorem dX11_heads_50 : decode cX11_heads 50 = .ok (.iload_n 3, 1) := by decide +kernel
theorem dX11_heads_51 : decode cX11_heads 51 = .ok (.ireturn, 1) := by decide +kernel
theorem dX11_strike_0 : decode cX11_strike 0 = .ok (.aload_n 0, 1) := by decide +kernel
theorem dX11_strike_1 : decode cX11_strike 1 = .ok (.iload_n 1, 1) := by decide +kernel
theorem dX11_strike_2 : decode cX11_strike 2 = .ok (.invokevirtual 166, 3) := by decide +kernel
theorem dX11_strike_5 : decode cX11_strike 5 = .ok (.aload_n 0, 1) := by decide +kernel
theorem dX11_strike_6 : decode cX11_strike 6 = .ok (.getfield 19, 3) := by decide +kernel
theorem dX11_strike_9 : decode cX11_strike 9 = .ok (.getfield 169, 3) := by decide +kernel
theorem dX11_strike_12 : decode cX11_strike 12 = .ok (.iload_n 1, 1) := by decide +kernel
theorem dX11_strike_13 : decode cX11_strike 13 = .ok (.invokevirtual 135, 3) := by decide +kernel
theorem dX11_strike_16 : decode cX11_strike 16 = .ok (.istore_n 2, 1) := by decide +kernel
theorem dX11_strike_17 : decode cX11_strike 17 = .ok (.aload_n 0, 1) := by decide +kernel
theorem dX11_strike_18 : decode cX11_strike 18 = .ok (.getfield 19, 3) := by decide +kernel
theorem dX11_strike_21 : decode cX11_strike 21 = .ok (.iload_n 1, 1) := by decide +kernel
theorem dX11_strike_22 : decode cX11_strike 22 = .ok (.iload_n 2, 1) := by decide +kernel
theorem dX11_strike_23 : decode cX11_strike 23 = .ok (.invokevirtual 236, 3) := by decide +kernel
theorem dX11_strike_26 : decode cX11_strike 26 = .ok (.ifCond .ne 13, 3) := by decide +kernel
theorem dX11_strike_29 : decode cX11_strike 29 = .ok (.new 239, 3) := by decide +kernel
theorem dX11_strike_32 : decode cX11_strike 32 = .ok (.dup, 1) := by decide +kernel
theorem dX11_strike_33 : decode cX11_strike 33 = .ok (.ldc 241, 2) := by decide +kernel
theorem dX11_strike_35 : decode cX11_strike 35 = .ok (.invokespecial 243, 3) := by decide +kernel
theorem dX11_strike_38 : decode cX11_strike 38 = .ok (.athrow, 1) := by decide +kernel
theorem dX11_strike_39 : decode cX11_strike 39 = .ok (.aload_n 0, 1) := by decide +kernel
theorem dX11_strike_40 : decode cX11_strike 40 = .ok (.getfield 45, 3) := by decide +kernel
theorem dX11_strike_43 : decode cX11_strike 43 = .ok (.aload_n 0, 1) := by decide +kernel
theorem dX11_strike_44 : decode cX11_strike 44 = .ok (.getfield 19, 3) := by decide +kernel
theorem dX11_strike_47 : decode cX11_strike 47 = .ok (.invokevirtual 226, 3) := by decide +kernel
theorem dX11_strike_50 : decode cX11_strike 50 = .ok (.aload_n 0, 1) := by decide +kernel
theorem dX11_strike_51 : decode cX11_strike 51 = .ok (.getfield 19, 3) := by decide +kernel
theorem dX11_strike_54 : decode cX11_strike 54 = .ok (.iload_n 1, 1) := by decide +kernel
theorem dX11_strike_55 : decode cX11_strike 55 = .ok (.iload_n 2, 1) := by decide +kernel
theorem dX11_strike_56 : decode cX11_strike 56 = .ok (.iconst 1, 1) := by decide +kernel
theorem dX11_strike_57 : decode cX11_strike 57 = .ok (.invokevirtual 244, 3) := by decide +kernel
theorem dX11_strike_60 : decode cX11_strike 60 = .ok (.aload_n 0, 1) := by decide +kernel
theorem dX11_strike_61 : decode cX11_strike 61 = .ok (.getfield 19, 3) := by decide +kernel
theorem dX11_strike_64 : decode cX11_strike 64 = .ok (.getfield 172, 3) := by decide +kernel
theorem dX11_strike_67 : decode cX11_strike 67 = .ok (.iload_n 1, 1) := by decide +kernel
theorem dX11_strike_68 : decode cX11_strike 68 = .ok (.invokevirtual 135, 3) := by decide +kernel
theorem dX11_strike_71 : decode cX11_strike 71 = .ok (.ireturn, 1) := by decide +kernel
theorem dX11_snuff_0 : decode cX11_snuff 0 = .ok (.aload_n 0, 1) := by decide +kernel
theorem dX11_snuff_1 : decode cX11_snuff 1 = .ok (.iload_n 1, 1) := by decide +kernel
theorem dX11_snuff_2 : decode cX11_snuff 2 = .ok (.invokevirtual 128, 3) := by decide +kernel
theorem dX11_snuff_5 : decode cX11_snuff 5 = .ok (.aload_n 0, 1) := by decide +kernel
theorem dX11_snuff_6 : decode cX11_snuff 6 = .ok (.getfield 19, 3) := by decide +kernel
theorem dX11_snuff_9 : decode cX11_snuff 9 = .ok (.iload_n 1, 1) := by decide +kernel
theorem dX11_snuff_10 : decode cX11_snuff 10 = .ok (.invokevirtual 141, 3) := by decide +kernel
theorem dX11_snuff_13 : decode cX11_snuff 13 = .ok (.ifCond .eq 18, 3) := by decide +kernel
theorem dX11_snuff_16 : decode cX11_snuff 16 = .ok (.aload_n 0, 1) := by decide +kernel
theorem dX11_snuff_17 : decode cX11_snuff 17 = .ok (.getfield 19, 3) := by decide +kernel
theorem dX11_snuff_20 : decode cX11_snuff 20 = .ok (.getfield 145, 3) := by decide +kernel
theorem dX11_snuff_23 : decode cX11_snuff 23 = .ok (.iload_n 1, 1) := by decide +kernel
theorem dX11_snuff_24 : decode cX11_snuff 24 = .ok (.invokevirtual 135, 3) := by decide +kernel
theorem dX11_snuff_27 : decode cX11_snuff 27 = .ok (.iconst (-1), 1) := by decide +kernel
theorem dX11_snuff_28 : decode cX11_snuff 28 = .ok (.if_icmp .ne 13, 3) := by decide +kernel
theorem dX11_snuff_31 : decode cX11_snuff 31 = .ok (.new 239, 3) := by decide +kernel
theorem dX11_snuff_34 : decode cX11_snuff 34 = .ok (.dup, 1) := by decide +kernel
theorem dX11_snuff_35 : decode cX11_snuff 35 = .ok (.ldc 247, 2) := by decide +kernel
theorem dX11_snuff_37 : decode cX11_snuff 37 = .ok (.invokespecial 243, 3) := by decide +kernel
theorem dX11_snuff_40 : decode cX11_snuff 40 = .ok (.athrow, 1) := by decide +kernel
theorem dX11_snuff_41 : decode cX11_snuff 41 = .ok (.aload_n 0, 1) := by decide +kernel
theorem dX11_snuff_42 : decode cX11_snuff 42 = .ok (.getfield 45, 3) := by decide +kernel
theorem dX11_snuff_45 : decode cX11_snuff 45 = .ok (.aload_n 0, 1) := by decide +kernel
theorem dX11_snuff_46 : decode cX11_snuff 46 = .ok (.getfield 19, 3) := by decide +kernel
theorem dX11_snuff_49 : decode cX11_snuff 49 = .ok (.invokevirtual 226, 3) := by decide +kernel
theorem dX11_snuff_52 : decode cX11_snuff 52 = .ok (.aload_n 0, 1) := by decide +kernel
theorem dX11_snuff_53 : decode cX11_snuff 53 = .ok (.getfield 19, 3) := by decide +kernel
theorem dX11_snuff_56 : decode cX11_snuff 56 = .ok (.dup, 1) := by decide +kernel
theorem dX11_snuff_57 : decode cX11_snuff 57 = .ok (.getfield 249, 3) := by decide +kernel
theorem dX11_snuff_60 : decode cX11_snuff 60 = .ok (.iload_n 1, 1) := by decide +kernel
theorem dX11_snuff_61 : decode cX11_snuff 61 = .ok (.invokestatic 252, 3) := by decide +kernel
theorem dX11_snuff_64 : decode cX11_snuff 64 = .ok (.iconst (-1), 1) := by decide +kernel
theorem dX11_snuff_65 : decode cX11_snuff 65 = .ok (.ixor, 1) := by decide +kernel
theorem dX11_snuff_66 : decode cX11_snuff 66 = .ok (.iand, 1) := by decide +kernel
theorem dX11_snuff_67 : decode cX11_snuff 67 = .ok (.putfield 249, 3) := by decide +kernel
theorem dX11_snuff_70 : decode cX11_snuff 70 = .ok (.aload_n 0, 1) := by decide +kernel
theorem dX11_snuff_71 : decode cX11_snuff 71 = .ok (.getfield 19, 3) := by decide +kernel
theorem dX11_snuff_74 : decode cX11_snuff 74 = .ok (.iconst 3, 1) := by decide +kernel
theorem dX11_snuff_75 : decode cX11_snuff 75 = .ok (.iload_n 1, 1) := by decide +kernel
theorem dX11_snuff_76 : decode cX11_snuff 76 = .ok (.aload_n 0, 1) := by decide +kernel
theorem dX11_snuff_77 : decode cX11_snuff 77 = .ok (.getfield 19, 3) := by decide +kernel
theorem dX11_snuff_80 : decode cX11_snuff 80 = .ok (.getfield 145, 3) := by decide +kernel
theorem dX11_snuff_83 : decode cX11_snuff 83 = .ok (.iload_n 1, 1) := by decide +kernel
theorem dX11_snuff_84 : decode cX11_snuff 84 = .ok (.invokevirtual 135, 3) := by decide +kernel
theorem dX11_snuff_87 : decode cX11_snuff 87 = .ok (.invokevirtual 255, 3) := by decide +kernel
theorem dX11_snuff_90 : decode cX11_snuff 90 = .ok (.aload_n 0, 1) := by decide +kernel
theorem dX11_snuff_91 : decode cX11_snuff 91 = .ok (.getfield 19, 3) := by decide +kernel
theorem dX11_snuff_94 : decode cX11_snuff 94 = .ok (.getfield 131, 3) := by decide +kernel
theorem dX11_snuff_97 : decode cX11_snuff 97 = .ok (.iload_n 1, 1) := by decide +kernel
theorem dX11_snuff_98 : decode cX11_snuff 98 = .ok (.invokevirtual 135, 3) := by decide +kernel
theorem dX11_snuff_101 : decode cX11_snuff 101 = .ok (.ireturn, 1) := by decide +kernel
theorem dX11_oil_0 : decode cX11_oil 0 = .ok (.aload_n 0, 1) := by decide +kernel
theorem dX11_oil_1 : decode cX11_oil 1 = .ok (.iload_n 1, 1) := by decide +kernel
theorem dX11_oil_2 : decode cX11_oil 2 = .ok (.invokevirtual 128, 3) := by decide +kernel
theorem dX11_oil_5 : decode cX11_oil 5 = .ok (.iload_n 2, 1) := by decide +kernel
theorem dX11_oil_6 : decode cX11_oil 6 = .ok (.iconst 1, 1) := by decide +kernel
theorem dX11_oil_7 : decode cX11_oil 7 = .ok (.bipush 99, 2) := by decide +kernel
theorem dX11_oil_9 : decode cX11_oil 9 = .ok (.invokestatic 222, 3) := by decide +kernel
theorem dX11_oil_12 : decode cX11_oil 12 = .ok (.aload_n 0, 1) := by decide +kernel
theorem dX11_oil_13 : decode cX11_oil 13 = .ok (.getfield 45, 3) := by decide +kernel
theorem dX11_oil_16 : decode cX11_oil 16 = .ok (.aload_n 0, 1) := by decide +kernel
theorem dX11_oil_17 : decode cX11_oil 17 = .ok (.getfield 19, 3) := by decide +kernel
theorem dX11_oil_20 : decode cX11_oil 20 = .ok (.invokevirtual 226, 3) := by decide +kernel
theorem dX11_oil_23 : decode cX11_oil 23 = .ok (.aload_n 0, 1) := by decide +kernel
theorem dX11_oil_24 : decode cX11_oil 24 = .ok (.getfield 19, 3) := by decide +kernel
theorem dX11_oil_27 : decode cX11_oil 27 = .ok (.getfield 131, 3) := by decide +kernel
theorem dX11_oil_30 : decode cX11_oil 30 = .ok (.iload_n 1, 1) := by decide +kernel
theorem dX11_oil_31 : decode cX11_oil 31 = .ok (.aload_n 0, 1) := by decide +kernel
theorem dX11_oil_32 : decode cX11_oil 32 = .ok (.getfield 19, 3) := by decide +kernel
theorem dX11_oil_35 : decode cX11_oil 35 = .ok (.getfield 131, 3) := by decide +kernel
theorem dX11_oil_38 : decode cX11_oil 38 = .ok (.iload_n 1, 1) := by decide +kernel
theorem dX11_oil_39 : decode cX11_oil 39 = .ok (.invokevirtual 135, 3) := by decide +kernel
theorem dX11_oil_42 : decode cX11_oil 42 = .ok (.iload_n 2, 1) := by decide +kernel
theorem dX11_oil_43 : decode cX11_oil 43 = .ok (.iadd, 1) := by decide +kernel
theorem dX11_oil_44 : decode cX11_oil 44 = .ok (.bipush 99, 2) := by decide +kernel
theorem dX11_oil_46 : decode cX11_oil 46 = .ok (.invokestatic 258, 3) := by decide +kernel
theorem dX11_oil_49 : decode cX11_oil 49 = .ok (.invokevirtual 233, 3) := by decide +kernel
theorem dX11_oil_52 : decode cX11_oil 52 = .ok (.aload_n 0, 1) := by decide +kernel
theorem dX11_oil_53 : decode cX11_oil 53 = .ok (.getfield 19, 3) := by decide +kernel
theorem dX11_oil_56 : decode cX11_oil 56 = .ok (.getfield 131, 3) := by decide +kernel
theorem dX11_oil_59 : decode cX11_oil 59 = .ok (.iload_n 1, 1) := by decide +kernel
theorem dX11_oil_60 : decode cX11_oil 60 = .ok (.invokevirtual 135, 3) := by decide +kernel
theorem dX11_oil_63 : decode cX11_oil 63 = .ok (.ireturn, 1) := by decide +kernel
theorem dX11_taper_0 : decode cX11_taper 0 = .ok (.aload_n 0, 1) := by decide +kernel
theorem dX11_taper_1 : decode cX11_taper 1 = .ok (.iload_n 1, 1) := by decide +kernel
theorem dX11_taper_2 : decode cX11_taper 2 = .ok (.invokevirtual 166, 3) := by decide +kernel
theorem dX11_taper_5 : decode cX11_taper 5 = .ok (.iload_n 2, 1) := by decide +kernel
theorem dX11_taper_6 : decode cX11_taper 6 = .ok (.iconst 1, 1) := by decide +kernel
theorem dX11_taper_7 : decode cX11_taper 7 = .ok (.bipush 99, 2) := by decide +kernel
theorem dX11_taper_9 : decode cX11_taper 9 = .ok (.invokestatic 222, 3) := by decide +kernel
theorem dX11_taper_12 : decode cX11_taper 12 = .ok (.aload_n 0, 1) := by decide +kernel
theorem dX11_taper_13 : decode cX11_taper 13 = .ok (.getfield 45, 3) := by decide +kernel
theorem dX11_taper_16 : decode cX11_taper 16 = .ok (.aload_n 0, 1) := by decide +kernel
theorem dX11_taper_17 : decode cX11_taper 17 = .ok (.getfield 19, 3) := by decide +kernel
theorem dX11_taper_20 : decode cX11_taper 20 = .ok (.invokevirtual 226, 3) := by decide +kernel
theorem dX11_taper_23 : decode cX11_taper 23 = .ok (.aload_n 0, 1) := by decide +kernel
theorem dX11_taper_24 : decode cX11_taper 24 = .ok (.getfield 19, 3) := by decide +kernel
theorem dX11_taper_27 : decode cX11_taper 27 = .ok (.getfield 172, 3) := by decide +kernel
theorem dX11_taper_30 : decode cX11_taper 30 = .ok (.iload_n 1, 1) := by decide +kernel
theorem dX11_taper_31 : decode cX11_taper 31 = .ok (.aload_n 0, 1) := by decide +kernel
theorem dX11_taper_32 : decode cX11_taper 32 = .ok (.getfield 19, 3) := by decide +kernel
theorem dX11_taper_35 : decode cX11_taper 35 = .ok (.getfield 172, 3) := by decide +kernel
theorem dX11_taper_38 : decode cX11_taper 38 = .ok (.iload_n 1, 1) := by decide +kernel
theorem dX11_taper_39 : decode cX11_taper 39 = .ok (.invokevirtual 135, 3) := by decide +kernel
theorem dX11_taper_42 : decode cX11_taper 42 = .ok (.iload_n 2, 1) := by decide +kernel
theorem dX11_taper_43 : decode cX11_taper 43 = .ok (.iadd, 1) := by decide +kernel
theorem dX11_taper_44 : decode cX11_taper 44 = .ok (.bipush 99, 2) := by decide +kernel
theorem dX11_taper_46 : decode cX11_taper 46 = .ok (.invokestatic 258, 3) := by decide +kernel
theorem dX11_taper_49 : decode cX11_taper 49 = .ok (.invokevirtual 233, 3) := by decide +kernel
theorem dX11_taper_52 : decode cX11_taper 52 = .ok (.aload_n 0, 1) := by decide +kernel
theorem dX11_taper_53 : decode cX11_taper 53 = .ok (.getfield 19, 3) := by decide +kernel
theorem dX11_taper_56 : decode cX11_taper 56 = .ok (.getfield 172, 3) := by decide +kernel
theorem dX11_taper_59 : decode cX11_taper 59 = .ok (.iload_n 1, 1) := by decide +kernel
theorem dX11_taper_60 : decode cX11_taper 60 = .ok (.invokevirtual 135, 3) := by decide +kernel
theorem dX11_taper_63 : decode cX11_taper 63 = .ok (.ireturn, 1) := by decide +kernel
theorem dX11_like_0 : decode cX11_like 0 = .ok (.aload_n 0, 1) := by decide +kernel
theorem dX11_like_1 : decode cX11_like 1 = .ok (.iload_n 1, 1) := by decide +kernel
theorem dX11_like_2 : decode cX11_like 2 = .ok (.iload_n 2, 1) := by decide +kernel
theorem dX11_like_3 : decode cX11_like 3 = .ok (.invokevirtual 192, 3) := by decide +kernel
theorem dX11_like_6 : decode cX11_like 6 = .ok (.iload_n 3, 1) := by decide +kernel
theorem dX11_like_7 : decode cX11_like 7 = .ok (.iconst 0, 1) := by decide +kernel
theorem dX11_like_8 : decode cX11_like 8 = .ok (.bipush 9, 2) := by decide +kernel
theorem dX11_like_10 : decode cX11_like 10 = .ok (.invokestatic 222, 3) := by decide +kernel
theorem dX11_like_13 : decode cX11_like 13 = .ok (.aload_n 0, 1) := by decide +kernel
theorem dX11_like_14 : decode cX11_like 14 = .ok (.getfield 45, 3) := by decide +kernel
theorem dX11_like_17 : decode cX11_like 17 = .ok (.aload_n 0, 1) := by decide +kernel
theorem dX11_like_18 : decode cX11_like 18 = .ok (.getfield 19, 3) := by decide +kernel
theorem dX11_like_21 : decode cX11_like 21 = .ok (.invokevirtual 226, 3) := by decide +kernel
theorem dX11_like_24 : decode cX11_like 24 = .ok (.aload_n 0, 1) := by decide +kernel
theorem dX11_like_25 : decode cX11_like 25 = .ok (.getfield 19, 3) := by decide +kernel
theorem dX11_like_28 : decode cX11_like 28 = .ok (.iload_n 1, 1) := by decide +kernel
theorem dX11_like_29 : decode cX11_like 29 = .ok (.iload_n 2, 1) := by decide +kernel
theorem dX11_like_30 : decode cX11_like 30 = .ok (.invokevirtual 196, 3) := by decide +kernel
theorem dX11_like_33 : decode cX11_like 33 = .ok (.istore 4, 2) := by decide +kernel
theorem dX11_like_35 : decode cX11_like 35 = .ok (.aload_n 0, 1) := by decide +kernel
theorem dX11_like_36 : decode cX11_like 36 = .ok (.getfield 19, 3) := by decide +kernel
theorem dX11_like_39 : decode cX11_like 39 = .ok (.iload_n 1, 1) := by decide +kernel
theorem dX11_like_40 : decode cX11_like 40 = .ok (.iload_n 2, 1) := by decide +kernel
theorem dX11_like_41 : decode cX11_like 41 = .ok (.iload_n 3, 1) := by decide +kernel
theorem dX11_like_42 : decode cX11_like 42 = .ok (.invokevirtual 263, 3) := by decide +kernel
theorem dX11_like_45 : decode cX11_like 45 = .ok (.iload 4, 2) := by decide +kernel
theorem dX11_like_47 : decode cX11_like 47 = .ok (.ireturn, 1) := by decide +kernel
theorem dX11_way_0 : decode cX11_way 0 = .ok (.aload_n 0, 1) := by decide +kernel
theorem dX11_way_1 : decode cX11_way 1 = .ok (.iload_n 1, 1) := by decide +kernel
theorem dX11_way_2 : decode cX11_way 2 = .ok (.iload_n 2, 1) := by decide +kernel
theorem dX11_way_3 : decode cX11_way 3 = .ok (.invokevirtual 215, 3) := by decide +kernel
theorem dX11_way_6 : decode cX11_way 6 = .ok (.aload_n 0, 1) := by decide +kernel
theorem dX11_way_7 : decode cX11_way 7 = .ok (.getfield 45, 3) := by decide +kernel
theorem dX11_way_10 : decode cX11_way 10 = .ok (.aload_n 0, 1) := by decide +kernel
theorem dX11_way_11 : decode cX11_way 11 = .ok (.getfield 19, 3) := by decide +kernel
theorem dX11_way_14 : decode cX11_way 14 = .ok (.invokevirtual 226, 3) := by decide +kernel
theorem dX11_way_17 : decode cX11_way 17 = .ok (.aload_n 0, 1) := by decide +kernel
theorem dX11_way_18 : decode cX11_way 18 = .ok (.getfield 19, 3) := by decide +kernel
theorem dX11_way_21 : decode cX11_way 21 = .ok (.iload_n 1, 1) := by decide +kernel
theorem dX11_way_22 : decode cX11_way 22 = .ok (.iload_n 2, 1) := by decide +kernel
theorem dX11_way_23 : decode cX11_way 23 = .ok (.invokevirtual 218, 3) := by decide +kernel
theorem dX11_way_26 : decode cX11_way 26 = .ok (.istore 4, 2) := by decide +kernel
theorem dX11_way_28 : decode cX11_way 28 = .ok (.aload_n 0, 1) := by decide +kernel
theorem dX11_way_29 : decode cX11_way 29 = .ok (.getfield 19, 3) := by decide +kernel
theorem dX11_way_32 : decode cX11_way 32 = .ok (.iload_n 1, 1) := by decide +kernel
theorem dX11_way_33 : decode cX11_way 33 = .ok (.iload_n 2, 1) := by decide +kernel
theorem dX11_way_34 : decode cX11_way 34 = .ok (.iload_n 3, 1) := by decide +kernel
theorem dX11_way_35 : decode cX11_way 35 = .ok (.invokevirtual 266, 3) := by decide +kernel
theorem dX11_way_38 : decode cX11_way 38 = .ok (.iload 4, 2) := by decide +kernel
theorem dX11_way_40 : decode cX11_way 40 = .ok (.iload_n 3, 1) := by decide +kernel
theorem dX11_way_41 : decode cX11_way 41 = .ok (.if_icmp .eq 7, 3) := by decide +kernel
theorem dX11_way_44 : decode cX11_way 44 = .ok (.iconst 1, 1) := by decide +kernel
theorem dX11_way_45 : decode cX11_way 45 = .ok (.goto 4, 3) := by decide +kernel
theorem dX11_way_48 : decode cX11_way 48 = .ok (.iconst 0, 1) := by decide +kernel
theorem dX11_way_49 : decode cX11_way 49 = .ok (.ireturn, 1) := by decide +kernel
theorem dX11_far_0 : decode cX11_far 0 = .ok (.aload_n 0, 1) := by decide +kernel
theorem dX11_far_1 : decode cX11_far 1 = .ok (.iload_n 1, 1) := by decide +kernel
theorem dX11_far_2 : decode cX11_far 2 = .ok (.invokevirtual 128, 3) := by decide +kernel
theorem dX11_far_5 : decode cX11_far 5 = .ok (.aload_n 0, 1) := by decide +kernel
theorem dX11_far_6 : decode cX11_far 6 = .ok (.iload_n 2, 1) := by decide +kernel
theorem dX11_far_7 : decode cX11_far 7 = .ok (.invokevirtual 128, 3) := by decide +kernel
theorem dX11_far_10 : decode cX11_far 10 = .ok (.aload_n 0, 1) := by decide +kernel
theorem dX11_far_11 : decode cX11_far 11 = .ok (.getfield 19, 3) := by decide +kernel
theorem dX11_far_14 : decode cX11_far 14 = .ok (.iload_n 1, 1) := by decide +kernel
theorem dX11_far_15 : decode cX11_far 15 = .ok (.iload_n 2, 1) := by decide +kernel
theorem dX11_far_16 : decode cX11_far 16 = .ok (.invokevirtual 270, 3) := by decide +kernel
theorem dX11_far_19 : decode cX11_far 19 = .ok (.ireturn, 1) := by decide +kernel
theorem dX11_out_0 : decode cX11_out 0 = .ok (.aload_n 0, 1) := by decide +kernel
theorem dX11_out_1 : decode cX11_out 1 = .ok (.getfield 52, 3) := by decide +kernel
theorem dX11_out_4 : decode cX11_out 4 = .ok (.aload_n 0, 1) := by decide +kernel
theorem dX11_out_5 : decode cX11_out 5 = .ok (.getfield 19, 3) := by decide +kernel
theorem dX11_out_8 : decode cX11_out 8 = .ok (.aload_n 0, 1) := by decide +kernel
theorem dX11_out_9 : decode cX11_out 9 = .ok (.getfield 32, 3) := by decide +kernel
theorem dX11_out_12 : decode cX11_out 12 = .ok (.invokevirtual 273, 3) := by decide +kernel
theorem dX11_out_15 : decode cX11_out 15 = .ok (.ireturn, 1) := by decide +kernel
theorem dX11_spoon_0 : decode cX11_spoon 0 = .ok (.aload_n 0, 1) := by decide +kernel
theorem dX11_spoon_1 : decode cX11_spoon 1 = .ok (.getfield 52, 3) := by decide +kernel
theorem dX11_spoon_4 : decode cX11_spoon 4 = .ok (.aload_n 0, 1) := by decide +kernel
theorem dX11_spoon_5 : decode cX11_spoon 5 = .ok (.getfield 19, 3) := by decide +kernel
theorem dX11_spoon_8 : decode cX11_spoon 8 = .ok (.aload_n 0, 1) := by decide +kernel
theorem dX11_spoon_9 : decode cX11_spoon 9 = .ok (.getfield 32, 3) := by decide +kernel
theorem dX11_spoon_12 : decode cX11_spoon 12 = .ok (.invokevirtual 277, 3) := by decide +kernel
theorem dX11_spoon_15 : decode cX11_spoon 15 = .ok (.ireturn, 1) := by decide +kernel
theorem dX11_never_0 : decode cX11_never 0 = .ok (.aload_n 0, 1) := by decide +kernel
theorem dX11_never_1 : decode cX11_never 1 = .ok (.getfield 66, 3) := by decide +kernel
theorem dX11_never_4 : decode cX11_never 4 = .ok (.aload_n 0, 1) := by decide +kernel
theorem dX11_never_5 : decode cX11_never 5 = .ok (.getfield 19, 3) := by decide +kernel
theorem dX11_never_8 : decode cX11_never 8 = .ok (.aload_n 0, 1) := by decide +kernel
theorem dX11_never_9 : decode cX11_never 9 = .ok (.getfield 32, 3) := by decide +kernel
theorem dX11_never_12 : decode cX11_never 12 = .ok (.invokevirtual 280, 3) := by decide +kernel
theorem dX11_never_15 : decode cX11_never 15 = .ok (.ireturn, 1) := by decide +kernel
theorem dX11_round_0 : decode cX11_round 0 = .ok (.aload_n 0, 1) := by decide +kernel
theorem dX11_round_1 : decode cX11_round 1 = .ok (.getfield 10, 3) := by decide +kernel
theorem dX11_round_4 : decode cX11_round 4 = .ok (.invokevirtual 283, 3) := by decide +kernel
theorem dX11_round_7 : decode cX11_round 7 = .ok (.istore_n 3, 1) := by decide +kernel
theorem dX11_round_8 : decode cX11_round 8 = .ok (.aload_n 0, 1) := by decide +kernel
theorem dX11_round_9 : decode cX11_round 9 = .ok (.iload_n 1, 1) := by decide +kernel
theorem dX11_round_10 : decode cX11_round 10 = .ok (.invokevirtual 166, 3) := by decide +kernel
theorem dX11_round_13 : decode cX11_round 13 = .ok (.aload_n 0, 1) := by decide +kernel
theorem dX11_round_14 : decode cX11_round 14 = .ok (.getfield 59, 3) := by decide +kernel
theorem dX11_round_17 : decode cX11_round 17 = .ok (.aload_n 0, 1) := by decide +kernel
theorem dX11_round_18 : decode cX11_round 18 = .ok (.getfield 19, 3) := by decide +kernel
theorem dX11_round_21 : decode cX11_round 21 = .ok (.aload_n 0, 1) := by decide +kernel
theorem dX11_round_22 : decode cX11_round 22 = .ok (.getfield 10, 3) := by decide +kernel
theorem dX11_round_25 : decode cX11_round 25 = .ok (.iload_n 3, 1) := by decide +kernel
theorem dX11_round_26 : decode cX11_round 26 = .ok (.invokevirtual 286, 3) := by decide +kernel
theorem dX11_round_29 : decode cX11_round 29 = .ok (.istore 4, 2) := by decide +kernel
theorem dX11_round_31 : decode cX11_round 31 = .ok (.iload 4, 2) := by decide +kernel
theorem dX11_round_33 : decode cX11_round 33 = .ok (.iconst (-1), 1) := by decide +kernel
theorem dX11_round_34 : decode cX11_round 34 = .ok (.if_icmp .ne 14, 3) := by decide +kernel
theorem dX11_round_37 : decode cX11_round 37 = .ok (.new 91, 3) := by decide +kernel
theorem dX11_round_40 : decode cX11_round 40 = .ok (.dup, 1) := by decide +kernel
theorem dX11_round_41 : decode cX11_round 41 = .ok (.ldc_w 290, 3) := by decide +kernel
theorem dX11_round_44 : decode cX11_round 44 = .ok (.invokespecial 95, 3) := by decide +kernel
theorem dX11_round_47 : decode cX11_round 47 = .ok (.athrow, 1) := by decide +kernel
theorem dX11_round_48 : decode cX11_round 48 = .ok (.aload_n 0, 1) := by decide +kernel
theorem dX11_round_49 : decode cX11_round 49 = .ok (.getfield 19, 3) := by decide +kernel
theorem dX11_round_52 : decode cX11_round 52 = .ok (.getfield 169, 3) := by decide +kernel
theorem dX11_round_55 : decode cX11_round 55 = .ok (.iload_n 1, 1) := by decide +kernel
theorem dX11_round_56 : decode cX11_round 56 = .ok (.invokevirtual 135, 3) := by decide +kernel
theorem dX11_round_59 : decode cX11_round 59 = .ok (.istore 5, 2) := by decide +kernel
theorem dX11_round_61 : decode cX11_round 61 = .ok (.aload_n 0, 1) := by decide +kernel
theorem dX11_round_62 : decode cX11_round 62 = .ok (.getfield 59, 3) := by decide +kernel
theorem dX11_round_65 : decode cX11_round 65 = .ok (.aload_n 0, 1) := by decide +kernel
theorem dX11_round_66 : decode cX11_round 66 = .ok (.getfield 19, 3) := by decide +kernel
theorem dX11_round_69 : decode cX11_round 69 = .ok (.iload 5, 2) := by decide +kernel
theorem dX11_round_71 : decode cX11_round 71 = .ok (.iload 4, 2) := by decide +kernel
theorem dX11_round_73 : decode cX11_round 73 = .ok (.invokevirtual 292, 3) := by decide +kernel
theorem dX11_round_76 : decode cX11_round 76 = .ok (.istore 6, 2) := by decide +kernel
theorem dX11_round_78 : decode cX11_round 78 = .ok (.iload_n 2, 1) := by decide +kernel
theorem dX11_round_79 : decode cX11_round 79 = .ok (.ifCond .eq 9, 3) := by decide +kernel
theorem dX11_round_82 : decode cX11_round 82 = .ok (.iload 6, 2) := by decide +kernel
theorem dX11_round_84 : decode cX11_round 84 = .ok (.iconst (-1), 1) := by decide +kernel
theorem dX11_round_85 : decode cX11_round 85 = .ok (.if_icmp .ne 6, 3) := by decide +kernel
theorem dX11_round_88 : decode cX11_round 88 = .ok (.iload 6, 2) := by decide +kernel
theorem dX11_round_90 : decode cX11_round 90 = .ok (.ireturn, 1) := by decide +kernel
theorem dX11_round_91 : decode cX11_round 91 = .ok (.aload_n 0, 1) := by decide +kernel
theorem dX11_round_92 : decode cX11_round 92 = .ok (.getfield 59, 3) := by decide +kernel
theorem dX11_round_95 : decode cX11_round 95 = .ok (.iload 5, 2) := by decide +kernel
theorem dX11_round_97 : decode cX11_round 97 = .ok (.iload 4, 2) := by decide +kernel
theorem dX11_round_99 : decode cX11_round 99 = .ok (.iload 6, 2) := by decide +kernel
theorem dX11_round_101 : decode cX11_round 101 = .ok (.invokevirtual 296, 3) := by decide +kernel
theorem dX11_round_104 : decode cX11_round 104 = .ok (.ireturn, 1) := by decide +kernel
theorem dX11_beats_0 : decode cX11_beats 0 = .ok (.aload_n 0, 1) := by decide +kernel
theorem dX11_beats_1 : decode cX11_beats 1 = .ok (.getfield 59, 3) := by decide +kernel
theorem dX11_beats_4 : decode cX11_beats 4 = .ok (.aload_n 0, 1) := by decide +kernel
theorem dX11_beats_5 : decode cX11_beats 5 = .ok (.getfield 19, 3) := by decide +kernel
theorem dX11_beats_8 : decode cX11_beats 8 = .ok (.invokevirtual 300, 3) := by decide +kernel
theorem dX11_beats_11 : decode cX11_beats 11 = .ok (.ireturn, 1) := by decide +kernel
theorem dX11_parts_0 : decode cX11_parts 0 = .ok (.aload_n 0, 1) := by decide +kernel
theorem dX11_parts_1 : decode cX11_parts 1 = .ok (.getfield 59, 3) := by decide +kernel
theorem dX11_parts_4 : decode cX11_parts 4 = .ok (.aload_n 0, 1) := by decide +kernel
theorem dX11_parts_5 : decode cX11_parts 5 = .ok (.getfield 19, 3) := by decide +kernel
theorem dX11_parts_8 : decode cX11_parts 8 = .ok (.invokevirtual 304, 3) := by decide +kernel
theorem dX11_parts_11 : decode cX11_parts 11 = .ok (.ireturn, 1) := by decide +kernel
theorem dX11_bend_0 : decode cX11_bend 0 = .ok (.aload_n 0, 1) := by decide +kernel
theorem dX11_bend_1 : decode cX11_bend 1 = .ok (.getfield 59, 3) := by decide +kernel
theorem dX11_bend_4 : decode cX11_bend 4 = .ok (.aload_n 0, 1) := by decide +kernel
theorem dX11_bend_5 : decode cX11_bend 5 = .ok (.getfield 19, 3) := by decide +kernel
theorem dX11_bend_8 : decode cX11_bend 8 = .ok (.invokevirtual 307, 3) := by decide +kernel
theorem dX11_bend_11 : decode cX11_bend 11 = .ok (.ireturn, 1) := by decide +kernel
theorem dX11_closed_0 : decode cX11_closed 0 = .ok (.aload_n 0, 1) := by decide +kernel
theorem dX11_closed_1 : decode cX11_closed 1 = .ok (.iload_n 1, 1) := by decide +kernel
theorem dX11_closed_2 : decode cX11_closed 2 = .ok (.invokevirtual 128, 3) := by decide +kernel
theorem dX11_closed_5 : decode cX11_closed 5 = .ok (.aload_n 0, 1) := by decide +kernel
theorem dX11_closed_6 : decode cX11_closed 6 = .ok (.iload_n 2, 1) := by decide +kernel
theorem dX11_closed_7 : decode cX11_closed 7 = .ok (.invokevirtual 128, 3) := by decide +kernel
theorem dX11_closed_10 : decode cX11_closed 10 = .ok (.aload_n 0, 1) := by decide +kernel
theorem dX11_closed_11 : decode cX11_closed 11 = .ok (.getfield 59, 3) := by decide +kernel
theorem dX11_closed_14 : decode cX11_closed 14 = .ok (.aload_n 0, 1) := by decide +kernel
theorem dX11_closed_15 : decode cX11_closed 15 = .ok (.getfield 19, 3) := by decide +kernel
theorem dX11_closed_18 : decode cX11_closed 18 = .ok (.iload_n 1, 1) := by decide +kernel
theorem dX11_closed_19 : decode cX11_closed 19 = .ok (.iload_n 2, 1) := by decide +kernel
theorem dX11_closed_20 : decode cX11_closed 20 = .ok (.invokevirtual 310, 3) := by decide +kernel
theorem dX11_closed_23 : decode cX11_closed 23 = .ok (.ireturn, 1) := by decide +kernel
theorem dX11_madeUp_0 : decode cX11_madeUp 0 = .ok (.aload_n 0, 1) := by decide +kernel
theorem dX11_madeUp_1 : decode cX11_madeUp 1 = .ok (.getfield 66, 3) := by decide +kernel
theorem dX11_madeUp_4 : decode cX11_madeUp 4 = .ok (.aload_n 0, 1) := by decide +kernel
theorem dX11_madeUp_5 : decode cX11_madeUp 5 = .ok (.getfield 19, 3) := by decide +kernel
theorem dX11_madeUp_8 : decode cX11_madeUp 8 = .ok (.aload_n 0, 1) := by decide +kernel
theorem dX11_madeUp_9 : decode cX11_madeUp 9 = .ok (.getfield 32, 3) := by decide +kernel
theorem dX11_madeUp_12 : decode cX11_madeUp 12 = .ok (.invokevirtual 313, 3) := by decide +kernel
theorem dX11_madeUp_15 : decode cX11_madeUp 15 = .ok (.ireturn, 1) := by decide +kernel
theorem dX11_whoLit_0 : decode cX11_whoLit 0 = .ok (.aload_n 0, 1) := by decide +kernel
theorem dX11_whoLit_1 : decode cX11_whoLit 1 = .ok (.invokevirtual 316, 3) := by decide +kernel
theorem dX11_whoLit_4 : decode cX11_whoLit 4 = .ok (.ireturn, 1) := by decide +kernel
theorem dX11_ask_0 : decode cX11_ask 0 = .ok (.aload_n 0, 1) := by decide +kernel
theorem dX11_ask_1 : decode cX11_ask 1 = .ok (.getfield 59, 3) := by decide +kernel
theorem dX11_ask_4 : decode cX11_ask 4 = .ok (.aload_n 0, 1) := by decide +kernel
theorem dX11_ask_5 : decode cX11_ask 5 = .ok (.getfield 19, 3) := by decide +kernel
theorem dX11_ask_8 : decode cX11_ask 8 = .ok (.aload_n 0, 1) := by decide +kernel
theorem dX11_ask_9 : decode cX11_ask 9 = .ok (.invokevirtual 316, 3) := by decide +kernel
theorem dX11_ask_12 : decode cX11_ask 12 = .ok (.invokevirtual 319, 3) := by decide +kernel
theorem dX11_ask_15 : decode cX11_ask 15 = .ok (.ireturn, 1) := by decide +kernel
theorem dX11_ring_0 : decode cX11_ring 0 = .ok (.aload_n 0, 1) := by decide +kernel
theorem dX11_ring_1 : decode cX11_ring 1 = .ok (.iload_n 1, 1) := by decide +kernel
theorem dX11_ring_2 : decode cX11_ring 2 = .ok (.invokevirtual 166, 3) := by decide +kernel
theorem dX11_ring_5 : decode cX11_ring 5 = .ok (.aload_n 0, 1) := by decide +kernel
theorem dX11_ring_6 : decode cX11_ring 6 = .ok (.getfield 66, 3) := by decide +kernel
theorem dX11_ring_9 : decode cX11_ring 9 = .ok (.aload_n 0, 1) := by decide +kernel
theorem dX11_ring_10 : decode cX11_ring 10 = .ok (.getfield 19, 3) := by decide +kernel
theorem dX11_ring_13 : decode cX11_ring 13 = .ok (.aload_n 0, 1) := by decide +kernel
theorem dX11_ring_14 : decode cX11_ring 14 = .ok (.getfield 32, 3) := by decide +kernel
theorem dX11_ring_17 : decode cX11_ring 17 = .ok (.iload_n 1, 1) := by decide +kernel
theorem dX11_ring_18 : decode cX11_ring 18 = .ok (.invokevirtual 323, 3) := by decide +kernel
theorem dX11_ring_21 : decode cX11_ring 21 = .ok (.ireturn, 1) := by decide +kernel
theorem dX11_sides_0 : decode cX11_sides 0 = .ok (.aload_n 0, 1) := by decide +kernel
theorem dX11_sides_1 : decode cX11_sides 1 = .ok (.getfield 66, 3) := by decide +kernel
theorem dX11_sides_4 : decode cX11_sides 4 = .ok (.aload_n 0, 1) := by decide +kernel
theorem dX11_sides_5 : decode cX11_sides 5 = .ok (.getfield 19, 3) := by decide +kernel
theorem dX11_sides_8 : decode cX11_sides 8 = .ok (.invokevirtual 327, 3) := by decide +kernel
theorem dX11_sides_11 : decode cX11_sides 11 = .ok (.ireturn, 1) := by decide +kernel
theorem dX11_pairs_0 : decode cX11_pairs 0 = .ok (.iload_n 1, 1) := by decide +kernel
theorem dX11_pairs_1 : decode cX11_pairs 1 = .ok (.iconst (-1), 1) := by decide +kernel
theorem dX11_pairs_2 : decode cX11_pairs 2 = .ok (.if_icmp .ne 15, 3) := by decide +kernel
theorem dX11_pairs_5 : decode cX11_pairs 5 = .ok (.aload_n 0, 1) := by decide +kernel
theorem dX11_pairs_6 : decode cX11_pairs 6 = .ok (.getfield 66, 3) := by decide +kernel
theorem dX11_pairs_9 : decode cX11_pairs 9 = .ok (.aload_n 0, 1) := by decide +kernel
theorem dX11_pairs_10 : decode cX11_pairs 10 = .ok (.getfield 19, 3) := by decide +kernel
theorem dX11_pairs_13 : decode cX11_pairs 13 = .ok (.invokevirtual 330, 3) := by decide +kernel
theorem dX11_pairs_16 : decode cX11_pairs 16 = .ok (.ireturn, 1) := by decide +kernel
theorem dX11_pairs_17 : decode cX11_pairs 17 = .ok (.aload_n 0, 1) := by decide +kernel
theorem dX11_pairs_18 : decode cX11_pairs 18 = .ok (.iload_n 1, 1) := by decide +kernel
theorem dX11_pairs_19 : decode cX11_pairs 19 = .ok (.invokevirtual 166, 3) := by decide +kernel
theorem dX11_pairs_22 : decode cX11_pairs 22 = .ok (.aload_n 0, 1) := by decide +kernel
theorem dX11_pairs_23 : decode cX11_pairs 23 = .ok (.getfield 66, 3) := by decide +kernel
theorem dX11_pairs_26 : decode cX11_pairs 26 = .ok (.aload_n 0, 1) := by decide +kernel
theorem dX11_pairs_27 : decode cX11_pairs 27 = .ok (.getfield 19, 3) := by decide +kernel
theorem dX11_pairs_30 : decode cX11_pairs 30 = .ok (.iload_n 1, 1) := by decide +kernel
theorem dX11_pairs_31 : decode cX11_pairs 31 = .ok (.invokevirtual 333, 3) := by decide +kernel
theorem dX11_pairs_34 : decode cX11_pairs 34 = .ok (.ireturn, 1) := by decide +kernel
theorem dX11_learnt_0 : decode cX11_learnt 0 = .ok (.aload_n 0, 1) := by decide +kernel
theorem dX11_learnt_1 : decode cX11_learnt 1 = .ok (.getfield 10, 3) := by decide +kernel
theorem dX11_learnt_4 : decode cX11_learnt 4 = .ok (.invokevirtual 283, 3) := by decide +kernel
theorem dX11_learnt_7 : decode cX11_learnt 7 = .ok (.istore_n 1, 1) := by decide +kernel
theorem dX11_learnt_8 : decode cX11_learnt 8 = .ok (.aload_n 0, 1) := by decide +kernel
theorem dX11_learnt_9 : decode cX11_learnt 9 = .ok (.getfield 66, 3) := by decide +kernel
theorem dX11_learnt_12 : decode cX11_learnt 12 = .ok (.aload_n 0, 1) := by decide +kernel
theorem dX11_learnt_13 : decode cX11_learnt 13 = .ok (.getfield 19, 3) := by decide +kernel
theorem dX11_learnt_16 : decode cX11_learnt 16 = .ok (.aload_n 0, 1) := by decide +kernel
theorem dX11_learnt_17 : decode cX11_learnt 17 = .ok (.getfield 10, 3) := by decide +kernel
theorem dX11_learnt_20 : decode cX11_learnt 20 = .ok (.iload_n 1, 1) := by decide +kernel
theorem dX11_learnt_21 : decode cX11_learnt 21 = .ok (.invokevirtual 336, 3) := by decide +kernel
theorem dX11_learnt_24 : decode cX11_learnt 24 = .ok (.ifCond .ne 14, 3) := by decide +kernel
theorem dX11_learnt_27 : decode cX11_learnt 27 = .ok (.new 91, 3) := by decide +kernel
theorem dX11_learnt_30 : decode cX11_learnt 30 = .ok (.dup, 1) := by decide +kernel
theorem dX11_learnt_31 : decode cX11_learnt 31 = .ok (.ldc_w 340, 3) := by decide +kernel
theorem dX11_learnt_34 : decode cX11_learnt 34 = .ok (.invokespecial 95, 3) := by decide +kernel
theorem dX11_learnt_37 : decode cX11_learnt 37 = .ok (.athrow, 1) := by decide +kernel
theorem dX11_learnt_38 : decode cX11_learnt 38 = .ok (.aload_n 0, 1) := by decide +kernel
theorem dX11_learnt_39 : decode cX11_learnt 39 = .ok (.getfield 66, 3) := by decide +kernel
theorem dX11_learnt_42 : decode cX11_learnt 42 = .ok (.aload_n 0, 1) := by decide +kernel
theorem dX11_learnt_43 : decode cX11_learnt 43 = .ok (.getfield 19, 3) := by decide +kernel
theorem dX11_learnt_46 : decode cX11_learnt 46 = .ok (.aload_n 0, 1) := by decide +kernel
theorem dX11_learnt_47 : decode cX11_learnt 47 = .ok (.getfield 10, 3) := by decide +kernel
theorem dX11_learnt_50 : decode cX11_learnt 50 = .ok (.iload_n 1, 1) := by decide +kernel
theorem dX11_learnt_51 : decode cX11_learnt 51 = .ok (.invokevirtual 342, 3) := by decide +kernel
theorem dX11_learnt_54 : decode cX11_learnt 54 = .ok (.ireturn, 1) := by decide +kernel
theorem dX11_share_0 : decode cX11_share 0 = .ok (.aload_n 0, 1) := by decide +kernel
theorem dX11_share_1 : decode cX11_share 1 = .ok (.iload_n 1, 1) := by decide +kernel
theorem dX11_share_2 : decode cX11_share 2 = .ok (.invokevirtual 128, 3) := by decide +kernel
theorem dX11_share_5 : decode cX11_share 5 = .ok (.iload_n 2, 1) := by decide +kernel
theorem dX11_share_6 : decode cX11_share 6 = .ok (.iconst 0, 1) := by decide +kernel
theorem dX11_share_7 : decode cX11_share 7 = .ok (.sipush 999, 3) := by decide +kernel
theorem dX11_share_10 : decode cX11_share 10 = .ok (.invokestatic 222, 3) := by decide +kernel
theorem dX11_share_13 : decode cX11_share 13 = .ok (.aload_n 0, 1) := by decide +kernel
theorem dX11_share_14 : decode cX11_share 14 = .ok (.getfield 23, 3) := by decide +kernel
theorem dX11_share_17 : decode cX11_share 17 = .ok (.aload_n 0, 1) := by decide +kernel
theorem dX11_share_18 : decode cX11_share 18 = .ok (.getfield 19, 3) := by decide +kernel
theorem dX11_share_21 : decode cX11_share 21 = .ok (.invokevirtual 81, 3) := by decide +kernel
theorem dX11_share_24 : decode cX11_share 24 = .ok (.aload_n 0, 1) := by decide +kernel
theorem dX11_share_25 : decode cX11_share 25 = .ok (.getfield 23, 3) := by decide +kernel
theorem dX11_share_28 : decode cX11_share 28 = .ok (.iload_n 2, 1) := by decide +kernel
theorem dX11_share_29 : decode cX11_share 29 = .ok (.invokevirtual 345, 3) := by decide +kernel
theorem dX11_share_32 : decode cX11_share 32 = .ok (.aload_n 0, 1) := by decide +kernel
theorem dX11_share_33 : decode cX11_share 33 = .ok (.getfield 23, 3) := by decide +kernel
theorem dX11_share_36 : decode cX11_share 36 = .ok (.getfield 131, 3) := by decide +kernel
theorem dX11_share_39 : decode cX11_share 39 = .ok (.iload_n 1, 1) := by decide +kernel
theorem dX11_share_40 : decode cX11_share 40 = .ok (.invokevirtual 135, 3) := by decide +kernel
theorem dX11_share_43 : decode cX11_share 43 = .ok (.ireturn, 1) := by decide +kernel
theorem dX11_rests_0 : decode cX11_rests 0 = .ok (.aload_n 0, 1) := by decide +kernel
theorem dX11_rests_1 : decode cX11_rests 1 = .ok (.iload_n 1, 1) := by decide +kernel
theorem dX11_rests_2 : decode cX11_rests 2 = .ok (.iload_n 2, 1) := by decide +kernel
theorem dX11_rests_3 : decode cX11_rests 3 = .ok (.invokevirtual 192, 3) := by decide +kernel
theorem dX11_rests_6 : decode cX11_rests 6 = .ok (.aload_n 0, 1) := by decide +kernel
theorem dX11_rests_7 : decode cX11_rests 7 = .ok (.getfield 66, 3) := by decide +kernel
theorem dX11_rests_10 : decode cX11_rests 10 = .ok (.aload_n 0, 1) := by decide +kernel
theorem dX11_rests_11 : decode cX11_rests 11 = .ok (.getfield 19, 3) := by decide +kernel
theorem dX11_rests_14 : decode cX11_rests 14 = .ok (.iload_n 1, 1) := by decide +kernel
theorem dX11_rests_15 : decode cX11_rests 15 = .ok (.iload_n 2, 1) := by decide +kernel
theorem dX11_rests_16 : decode cX11_rests 16 = .ok (.invokevirtual 196, 3) := by decide +kernel
theorem dX11_rests_19 : decode cX11_rests 19 = .ok (.aload_n 0, 1) := by decide +kernel
theorem dX11_rests_20 : decode cX11_rests 20 = .ok (.getfield 19, 3) := by decide +kernel
theorem dX11_rests_23 : decode cX11_rests 23 = .ok (.iload_n 2, 1) := by decide +kernel
theorem dX11_rests_24 : decode cX11_rests 24 = .ok (.iload_n 1, 1) := by decide +kernel
theorem dX11_rests_25 : decode cX11_rests 25 = .ok (.invokevirtual 196, 3) := by decide +kernel
theorem dX11_rests_28 : decode cX11_rests 28 = .ok (.invokevirtual 348, 3) := by decide +kernel
theorem dX11_rests_31 : decode cX11_rests 31 = .ok (.ireturn, 1) := by decide +kernel
theorem dX11_odds_0 : decode cX11_odds 0 = .ok (.iload_n 1, 1) := by decide +kernel
theorem dX11_odds_1 : decode cX11_odds 1 = .ok (.iconst 0, 1) := by decide +kernel
theorem dX11_odds_2 : decode cX11_odds 2 = .ok (.bipush 6, 2) := by decide +kernel
theorem dX11_odds_4 : decode cX11_odds 4 = .ok (.invokestatic 222, 3) := by decide +kernel
theorem dX11_odds_7 : decode cX11_odds 7 = .ok (.iload_n 2, 1) := by decide +kernel
theorem dX11_odds_8 : decode cX11_odds 8 = .ok (.iconst 0, 1) := by decide +kernel
theorem dX11_odds_9 : decode cX11_odds 9 = .ok (.bipush 6, 2) := by decide +kernel
theorem dX11_odds_11 : decode cX11_odds 11 = .ok (.invokestatic 222, 3) := by decide +kernel
theorem dX11_odds_14 : decode cX11_odds 14 = .ok (.aload_n 0, 1) := by decide +kernel
theorem dX11_odds_15 : decode cX11_odds 15 = .ok (.getfield 52, 3) := by decide +kernel
theorem dX11_odds_18 : decode cX11_odds 18 = .ok (.aload_n 0, 1) := by decide +kernel
theorem dX11_odds_19 : decode cX11_odds 19 = .ok (.getfield 19, 3) := by decide +kernel
theorem dX11_odds_22 : decode cX11_odds 22 = .ok (.getfield 351, 3) := by decide +kernel
theorem dX11_odds_25 : decode cX11_odds 25 = .ok (.iload_n 1, 1) := by decide +kernel
theorem dX11_odds_26 : decode cX11_odds 26 = .ok (.iload_n 2, 1) := by decide +kernel
theorem dX11_odds_27 : decode cX11_odds 27 = .ok (.invokevirtual 354, 3) := by decide +kernel
theorem dX11_odds_30 : decode cX11_odds 30 = .ok (.ireturn, 1) := by decide +kernel
theorem dX11_bright_0 : decode cX11_bright 0 = .ok (.aload_n 0, 1) := by decide +kernel
theorem dX11_bright_1 : decode cX11_bright 1 = .ok (.getfield 19, 3) := by decide +kernel
theorem dX11_bright_4 : decode cX11_bright 4 = .ok (.getfield 249, 3) := by decide +kernel
theorem dX11_bright_7 : decode cX11_bright 7 = .ok (.ireturn, 1) := by decide +kernel
theorem dX11_gloom_0 : decode cX11_gloom 0 = .ok (.aload_n 0, 1) := by decide +kernel
theorem dX11_gloom_1 : decode cX11_gloom 1 = .ok (.getfield 19, 3) := by decide +kernel
theorem dX11_gloom_4 : decode cX11_gloom 4 = .ok (.invokevirtual 357, 3) := by decide +kernel
theorem dX11_gloom_7 : decode cX11_gloom 7 = .ok (.ireturn, 1) := by decide +kernel
theorem dX11_lamplighter_0 : decode cX11_lamplighter 0 = .ok (.aload_n 0, 1) := by decide +kernel
theorem dX11_lamplighter_1 : decode cX11_lamplighter 1 = .ok (.getfield 19, 3) := by decide +kernel
theorem dX11_lamplighter_4 : decode cX11_lamplighter 4 = .ok (.invokevirtual 360, 3) := by decide +kernel
theorem dX11_lamplighter_7 : decode cX11_lamplighter 7 = .ok (.ireturn, 1) := by decide +kernel
theorem dX11_spent_0 : decode cX11_spent 0 = .ok (.aload_n 0, 1) := by decide +kernel
theorem dX11_spent_1 : decode cX11_spent 1 = .ok (.getfield 19, 3) := by decide +kernel
theorem dX11_spent_4 : decode cX11_spent 4 = .ok (.invokevirtual 363, 3) := by decide +kernel
theorem dX11_spent_7 : decode cX11_spent 7 = .ok (.ireturn, 1) := by decide +kernel
theorem dX11_crowd_0 : decode cX11_crowd 0 = .ok (.aload_n 0, 1) := by decide +kernel
theorem dX11_crowd_1 : decode cX11_crowd 1 = .ok (.getfield 19, 3) := by decide +kernel
theorem dX11_crowd_4 : decode cX11_crowd 4 = .ok (.invokevirtual 366, 3) := by decide +kernel
theorem dX11_crowd_7 : decode cX11_crowd 7 = .ok (.ireturn, 1) := by decide +kernel
theorem dX11_alike_0 : decode cX11_alike 0 = .ok (.aload_n 0, 1) := by decide +kernel
theorem dX11_alike_1 : decode cX11_alike 1 = .ok (.getfield 19, 3) := by decide +kernel
theorem dX11_alike_4 : decode cX11_alike 4 = .ok (.invokevirtual 369, 3) := by decide +kernel
theorem dX11_alike_7 : decode cX11_alike 7 = .ok (.ireturn, 1) := by decide +kernel
theorem dX11_ahead_0 : decode cX11_ahead 0 = .ok (.aload_n 0, 1) := by decide +kernel
theorem dX11_ahead_1 : decode cX11_ahead 1 = .ok (.iload_n 1, 1) := by decide +kernel
theorem dX11_ahead_2 : decode cX11_ahead 2 = .ok (.invokevirtual 128, 3) := by decide +kernel
theorem dX11_ahead_5 : decode cX11_ahead 5 = .ok (.iload_n 2, 1) := by decide +kernel
theorem dX11_ahead_6 : decode cX11_ahead 6 = .ok (.iconst 0, 1) := by decide +kernel
theorem dX11_ahead_7 : decode cX11_ahead 7 = .ok (.bipush 60, 2) := by decide +kernel
theorem dX11_ahead_9 : decode cX11_ahead 9 = .ok (.invokestatic 222, 3) := by decide +kernel
theorem dX11_ahead_12 : decode cX11_ahead 12 = .ok (.iload_n 3, 1) := by decide +kernel
theorem dX11_ahead_13 : decode cX11_ahead 13 = .ok (.ifCond .lt 8, 3) := by decide +kernel
theorem dX11_ahead_16 : decode cX11_ahead 16 = .ok (.iload_n 3, 1) := by decide +kernel
theorem dX11_ahead_17 : decode cX11_ahead 17 = .ok (.iconst 2, 1) := by decide +kernel
theorem dX11_ahead_18 : decode cX11_ahead 18 = .ok (.if_icmp .le 14, 3) := by decide +kernel
theorem dX11_ahead_21 : decode cX11_ahead 21 = .ok (.new 161, 3) := by decide +kernel
theorem dX11_ahead_24 : decode cX11_ahead 24 = .ok (.dup, 1) := by decide +kernel
theorem dX11_ahead_25 : decode cX11_ahead 25 = .ok (.ldc_w 372, 3) := by decide +kernel
theorem dX11_ahead_28 : decode cX11_ahead 28 = .ok (.invokespecial 165, 3) := by decide +kernel
theorem dX11_ahead_31 : decode cX11_ahead 31 = .ok (.athrow, 1) := by decide +kernel
theorem dX11_ahead_32 : decode cX11_ahead 32 = .ok (.aload_n 0, 1) := by decide +kernel
theorem dX11_ahead_33 : decode cX11_ahead 33 = .ok (.getfield 52, 3) := by decide +kernel
theorem dX11_ahead_36 : decode cX11_ahead 36 = .ok (.aload_n 0, 1) := by decide +kernel
theorem dX11_ahead_37 : decode cX11_ahead 37 = .ok (.getfield 19, 3) := by decide +kernel
theorem dX11_ahead_40 : decode cX11_ahead 40 = .ok (.aload_n 0, 1) := by decide +kernel
theorem dX11_ahead_41 : decode cX11_ahead 41 = .ok (.getfield 32, 3) := by decide +kernel
theorem dX11_ahead_44 : decode cX11_ahead 44 = .ok (.iload_n 2, 1) := by decide +kernel
theorem dX11_ahead_45 : decode cX11_ahead 45 = .ok (.iconst 0, 1) := by decide +kernel
theorem dX11_ahead_46 : decode cX11_ahead 46 = .ok (.aload_n 0, 1) := by decide +kernel
theorem dX11_ahead_47 : decode cX11_ahead 47 = .ok (.getfield 19, 3) := by decide +kernel
theorem dX11_ahead_50 : decode cX11_ahead 50 = .ok (.getfield 374, 3) := by decide +kernel
theorem dX11_ahead_53 : decode cX11_ahead 53 = .ok (.invokevirtual 377, 3) := by decide +kernel
theorem dX11_ahead_56 : decode cX11_ahead 56 = .ok (.astore 4, 2) := by decide +kernel
theorem dX11_ahead_58 : decode cX11_ahead 58 = .ok (.iload_n 3, 1) := by decide +kernel
theorem dX11_ahead_59 : decode cX11_ahead 59 = .ok (.ifCond .ne 13, 3) := by decide +kernel
theorem dX11_ahead_62 : decode cX11_ahead 62 = .ok (.aload 4, 2) := by decide +kernel
theorem dX11_ahead_64 : decode cX11_ahead 64 = .ok (.getfield 131, 3) := by decide +kernel
theorem dX11_ahead_67 : decode cX11_ahead 67 = .ok (.iload_n 1, 1) := by decide +kernel
theorem dX11_ahead_68 : decode cX11_ahead 68 = .ok (.invokevirtual 135, 3) := by decide +kernel
theorem dX11_ahead_71 : decode cX11_ahead 71 = .ok (.ireturn, 1) := by decide +kernel
theorem dX11_ahead_72 : decode cX11_ahead 72 = .ok (.iload_n 3, 1) := by decide +kernel
theorem dX11_ahead_73 : decode cX11_ahead 73 = .ok (.iconst 1, 1) := by decide +kernel
theorem dX11_ahead_74 : decode cX11_ahead 74 = .ok (.if_icmp .ne 18, 3) := by decide +kernel
theorem dX11_ahead_77 : decode cX11_ahead 77 = .ok (.aload 4, 2) := by decide +kernel
theorem dX11_ahead_79 : decode cX11_ahead 79 = .ok (.iload_n 1, 1) := by decide +kernel
theorem dX11_ahead_80 : decode cX11_ahead 80 = .ok (.invokevirtual 141, 3) := by decide +kernel
theorem dX11_ahead_83 : decode cX11_ahead 83 = .ok (.ifCond .eq 7, 3) := by decide +kernel
theorem dX11_ahead_86 : decode cX11_ahead 86 = .ok (.iconst 1, 1) := by decide +kernel
theorem dX11_ahead_87 : decode cX11_ahead 87 = .ok (.goto 4, 3) := by decide +kernel
theorem dX11_ahead_90 : decode cX11_ahead 90 = .ok (.iconst 0, 1) := by decide +kernel
theorem dX11_ahead_91 : decode cX11_ahead 91 = .ok (.ireturn, 1) := by decide +kernel
theorem dX11_ahead_92 : decode cX11_ahead 92 = .ok (.aload 4, 2) := by decide +kernel
theorem dX11_ahead_94 : decode cX11_ahead 94 = .ok (.getfield 148, 3) := by decide +kernel
theorem dX11_ahead_97 : decode cX11_ahead 97 = .ok (.iload_n 1, 1) := by decide +kernel
theorem dX11_ahead_98 : decode cX11_ahead 98 = .ok (.invokevirtual 135, 3) := by decide +kernel
theorem dX11_ahead_101 : decode cX11_ahead 101 = .ok (.ireturn, 1) := by decide +kernel
theorem dX11_trial_0 : decode cX11_trial 0 = .ok (.iload_n 1, 1) := by decide +kernel
theorem dX11_trial_1 : decode cX11_trial 1 = .ok (.iconst 0, 1) := by decide +kernel
theorem dX11_trial_2 : decode cX11_trial 2 = .ok (.bipush 60, 2) := by decide +kernel
theorem dX11_trial_4 : decode cX11_trial 4 = .ok (.invokestatic 222, 3) := by decide +kernel
theorem dX11_trial_7 : decode cX11_trial 7 = .ok (.aload_n 0, 1) := by decide +kernel
theorem dX11_trial_8 : decode cX11_trial 8 = .ok (.getfield 52, 3) := by decide +kernel
theorem dX11_trial_11 : decode cX11_trial 11 = .ok (.aload_n 0, 1) := by decide +kernel
theorem dX11_trial_12 : decode cX11_trial 12 = .ok (.getfield 19, 3) := by decide +kernel
theorem dX11_trial_15 : decode cX11_trial 15 = .ok (.aload_n 0, 1) := by decide +kernel
theorem dX11_trial_16 : decode cX11_trial 16 = .ok (.getfield 32, 3) := by decide +kernel
theorem dX11_trial_19 : decode cX11_trial 19 = .ok (.iload_n 1, 1) := by decide +kernel
theorem dX11_trial_20 : decode cX11_trial 20 = .ok (.iconst 1, 1) := by decide +kernel
theorem dX11_trial_21 : decode cX11_trial 21 = .ok (.aload_n 0, 1) := by decide +kernel
theorem dX11_trial_22 : decode cX11_trial 22 = .ok (.getfield 19, 3) := by decide +kernel
theorem dX11_trial_25 : decode cX11_trial 25 = .ok (.getfield 374, 3) := by decide +kernel
theorem dX11_trial_28 : decode cX11_trial 28 = .ok (.invokevirtual 377, 3) := by decide +kernel
theorem dX11_trial_31 : decode cX11_trial 31 = .ok (.astore_n 3, 1) := by decide +kernel
theorem dX11_trial_32 : decode cX11_trial 32 = .ok (.iload_n 2, 1) := by decide +kernel
theorem dX11_trial_33 : decode cX11_trial 33 = .ok (.ifCond .eq 10, 3) := by decide +kernel
theorem dX11_trial_36 : decode cX11_trial 36 = .ok (.aload_n 3, 1) := by decide +kernel
theorem dX11_trial_37 : decode cX11_trial 37 = .ok (.invokevirtual 381, 3) := by decide +kernel
theorem dX11_trial_40 : decode cX11_trial 40 = .ok (.goto 7, 3) := by decide +kernel
theorem dX11_trial_43 : decode cX11_trial 43 = .ok (.aload_n 3, 1) := by decide +kernel
theorem dX11_trial_44 : decode cX11_trial 44 = .ok (.getfield 249, 3) := by decide +kernel
theorem dX11_trial_47 : decode cX11_trial 47 = .ok (.ireturn, 1) := by decide +kernel
theorem dX11_span_0 : decode cX11_span 0 = .ok (.iload_n 1, 1) := by decide +kernel
theorem dX11_span_1 : decode cX11_span 1 = .ok (.iconst 0, 1) := by decide +kernel
theorem dX11_span_2 : decode cX11_span 2 = .ok (.bipush 60, 2) := by decide +kernel
theorem dX11_span_4 : decode cX11_span 4 = .ok (.invokestatic 222, 3) := by decide +kernel
theorem dX11_span_7 : decode cX11_span 7 = .ok (.iload_n 2, 1) := by decide +kernel
theorem dX11_span_8 : decode cX11_span 8 = .ok (.ifCond .eq 7, 3) := by decide +kernel
theorem dX11_span_11 : decode cX11_span 11 = .ok (.iconst 0, 1) := by decide +kernel
theorem dX11_span_12 : decode cX11_span 12 = .ok (.goto 5, 3) := by decide +kernel
theorem dX11_span_15 : decode cX11_span 15 = .ok (.bipush 9, 2) := by decide +kernel
theorem dX11_span_17 : decode cX11_span 17 = .ok (.istore_n 3, 1) := by decide +kernel
theorem dX11_span_18 : decode cX11_span 18 = .ok (.iconst 1, 1) := by decide +kernel
theorem dX11_span_19 : decode cX11_span 19 = .ok (.istore 4, 2) := by decide +kernel
theorem dX11_span_21 : decode cX11_span 21 = .ok (.iload 4, 2) := by decide +kernel
theorem dX11_span_23 : decode cX11_span 23 = .ok (.bipush 6, 2) := by decide +kernel
theorem dX11_span_25 : decode cX11_span 25 = .ok (.if_icmp .gt 56, 3) := by decide +kernel
theorem dX11_span_28 : decode cX11_span 28 = .ok (.aload_n 0, 1) := by decide +kernel
theorem dX11_span_29 : decode cX11_span 29 = .ok (.getfield 52, 3) := by decide +kernel
theorem dX11_span_32 : decode cX11_span 32 = .ok (.aload_n 0, 1) := by decide +kernel
theorem dX11_span_33 : decode cX11_span 33 = .ok (.getfield 19, 3) := by decide +kernel
theorem dX11_span_36 : decode cX11_span 36 = .ok (.aload_n 0, 1) := by decide +kernel
theorem dX11_span_37 : decode cX11_span 37 = .ok (.getfield 32, 3) := by decide +kernel
theorem dX11_span_40 : decode cX11_span 40 = .ok (.iload_n 1, 1) := by decide +kernel
theorem dX11_span_41 : decode cX11_span 41 = .ok (.iconst 1, 1) := by decide +kernel
theorem dX11_span_42 : decode cX11_span 42 = .ok (.iload 4, 2) := by decide +kernel
theorem dX11_span_44 : decode cX11_span 44 = .ok (.invokevirtual 377, 3) := by decide +kernel
theorem dX11_span_47 : decode cX11_span 47 = .ok (.getfield 249, 3) := by decide +kernel
theorem dX11_span_50 : decode cX11_span 50 = .ok (.invokestatic 384, 3) := by decide +kernel
theorem dX11_span_53 : decode cX11_span 53 = .ok (.istore 5, 2) := by decide +kernel
theorem dX11_span_55 : decode cX11_span 55 = .ok (.iload_n 2, 1) := by decide +kernel
theorem dX11_span_56 : decode cX11_span 56 = .ok (.ifCond .eq 12, 3) := by decide +kernel
theorem dX11_span_59 : decode cX11_span 59 = .ok (.iload_n 3, 1) := by decide +kernel
theorem dX11_span_60 : decode cX11_span 60 = .ok (.iload 5, 2) := by decide +kernel
theorem dX11_span_62 : decode cX11_span 62 = .ok (.invokestatic 389, 3) := by decide +kernel
theorem dX11_span_65 : decode cX11_span 65 = .ok (.goto 9, 3) := by decide +kernel
theorem dX11_span_68 : decode cX11_span 68 = .ok (.iload_n 3, 1) := by decide +kernel
theorem dX11_span_69 : decode cX11_span 69 = .ok (.iload 5, 2) := by decide +kernel
theorem dX11_span_71 : decode cX11_span 71 = .ok (.invokestatic 258, 3) := by decide +kernel
theorem dX11_span_74 : decode cX11_span 74 = .ok (.istore_n 3, 1) := by decide +kernel
theorem dX11_span_75 : decode cX11_span 75 = .ok (.iinc 4 1, 3) := by decide +kernel
theorem dX11_span_78 : decode cX11_span 78 = .ok (.goto (-57), 3) := by decide +kernel
theorem dX11_span_81 : decode cX11_span 81 = .ok (.iload_n 3, 1) := by decide +kernel
theorem dX11_span_82 : decode cX11_span 82 = .ok (.ireturn, 1) := by decide +kernel
theorem dX11_led_0 : decode cX11_led 0 = .ok (.aload_n 0, 1) := by decide +kernel
theorem dX11_led_1 : decode cX11_led 1 = .ok (.iload_n 1, 1) := by decide +kernel
theorem dX11_led_2 : decode cX11_led 2 = .ok (.invokevirtual 128, 3) := by decide +kernel
theorem dX11_led_5 : decode cX11_led 5 = .ok (.iconst 0, 1) := by decide +kernel
theorem dX11_led_6 : decode cX11_led 6 = .ok (.istore_n 3, 1) := by decide +kernel
theorem dX11_led_7 : decode cX11_led 7 = .ok (.iconst (-1), 1) := by decide +kernel
theorem dX11_led_8 : decode cX11_led 8 = .ok (.istore 4, 2) := by decide +kernel
theorem dX11_led_10 : decode cX11_led 10 = .ok (.aload_n 0, 1) := by decide +kernel
theorem dX11_led_11 : decode cX11_led 11 = .ok (.getfield 19, 3) := by decide +kernel
theorem dX11_led_14 : decode cX11_led 14 = .ok (.invokevirtual 392, 3) := by decide +kernel
theorem dX11_led_17 : decode cX11_led 17 = .ok (.iconst 1, 1) := by decide +kernel
theorem dX11_led_18 : decode cX11_led 18 = .ok (.isub, 1) := by decide +kernel
theorem dX11_led_19 : decode cX11_led 19 = .ok (.istore 5, 2) := by decide +kernel
theorem dX11_led_21 : decode cX11_led 21 = .ok (.iload 5, 2) := by decide +kernel
theorem dX11_led_23 : decode cX11_led 23 = .ok (.ifCond .lt 38, 3) := by decide +kernel
theorem dX11_led_26 : decode cX11_led 26 = .ok (.aload_n 0, 1) := by decide +kernel
theorem dX11_led_27 : decode cX11_led 27 = .ok (.getfield 19, 3) := by decide +kernel
theorem dX11_led_30 : decode cX11_led 30 = .ok (.iload 5, 2) := by decide +kernel
theorem dX11_led_32 : decode cX11_led 32 = .ok (.iconst 3, 1) := by decide +kernel
theorem dX11_led_33 : decode cX11_led 33 = .ok (.invokevirtual 395, 3) := by decide +kernel
theorem dX11_led_36 : decode cX11_led 36 = .ok (.iload_n 1, 1) := by decide +kernel
theorem dX11_led_37 : decode cX11_led 37 = .ok (.if_icmp .ne 18, 3) := by decide +kernel
theorem dX11_led_40 : decode cX11_led 40 = .ok (.iinc 3 1, 3) := by decide +kernel
theorem dX11_led_43 : decode cX11_led 43 = .ok (.aload_n 0, 1) := by decide +kernel
theorem dX11_led_44 : decode cX11_led 44 = .ok (.getfield 19, 3) := by decide +kernel
theorem dX11_led_47 : decode cX11_led 47 = .ok (.iload 5, 2) := by decide +kernel
theorem dX11_led_49 : decode cX11_led 49 = .ok (.iconst 0, 1) := by decide +kernel
theorem dX11_led_50 : decode cX11_led 50 = .ok (.invokevirtual 395, 3) := by decide +kernel
theorem dX11_led_53 : decode cX11_led 53 = .ok (.istore 4, 2) := by decide +kernel
theorem dX11_led_55 : decode cX11_led 55 = .ok (.iinc 5 (-1), 3) := by decide +kernel
theorem dX11_led_58 : decode cX11_led 58 = .ok (.goto (-37), 3) := by decide +kernel
theorem dX11_led_61 : decode cX11_led 61 = .ok (.iload_n 2, 1) := by decide +kernel
theorem dX11_led_62 : decode cX11_led 62 = .ok (.ifCond .eq 8, 3) := by decide +kernel
theorem dX11_led_65 : decode cX11_led 65 = .ok (.iload 4, 2) := by decide +kernel
theorem dX11_led_67 : decode cX11_led 67 = .ok (.goto 4, 3) := by decide +kernel
theorem dX11_led_70 : decode cX11_led 70 = .ok (.iload_n 3, 1) := by decide +kernel
theorem dX11_led_71 : decode cX11_led 71 = .ok (.ireturn, 1) := by decide +kernel
theorem dX11_log_0 : decode cX11_log 0 = .ok (.iload_n 2, 1) := by decide +kernel
theorem dX11_log_1 : decode cX11_log 1 = .ok (.ifCond .lt 8, 3) := by decide +kernel
theorem dX11_log_4 : decode cX11_log 4 = .ok (.iload_n 2, 1) := by decide +kernel
theorem dX11_log_5 : decode cX11_log 5 = .ok (.iconst 4, 1) := by decide +kernel
theorem dX11_log_6 : decode cX11_log 6 = .ok (.if_icmp .le 14, 3) := by decide +kernel
theorem dX11_log_9 : decode cX11_log 9 = .ok (.new 161, 3) := by decide +kernel
theorem dX11_log_12 : decode cX11_log 12 = .ok (.dup, 1) := by decide +kernel
theorem dX11_log_13 : decode cX11_log 13 = .ok (.ldc_w 398, 3) := by decide +kernel
theorem dX11_log_16 : decode cX11_log 16 = .ok (.invokespecial 165, 3) := by decide +kernel
theorem dX11_log_19 : decode cX11_log 19 = .ok (.athrow, 1) := by decide +kernel
theorem dX11_log_20 : decode cX11_log 20 = .ok (.iload_n 1, 1) := by decide +kernel
theorem dX11_log_21 : decode cX11_log 21 = .ok (.ifCond .lt 14, 3) := by decide +kernel
theorem dX11_log_24 : decode cX11_log 24 = .ok (.iload_n 1, 1) := by decide +kernel
theorem dX11_log_25 : decode cX11_log 25 = .ok (.aload_n 0, 1) := by decide +kernel
theorem dX11_log_26 : decode cX11_log 26 = .ok (.getfield 19, 3) := by decide +kernel
theorem dX11_log_29 : decode cX11_log 29 = .ok (.invokevirtual 392, 3) := by decide +kernel
theorem dX11_log_32 : decode cX11_log 32 = .ok (.if_icmp .lt 6, 3) := by decide +kernel
theorem dX11_log_35 : decode cX11_log 35 = .ok (.bipush (-2), 2) := by decide +kernel
theorem dX11_log_37 : decode cX11_log 37 = .ok (.ireturn, 1) := by decide +kernel
theorem dX11_log_38 : decode cX11_log 38 = .ok (.aload_n 0, 1) := by decide +kernel
theorem dX11_log_39 : decode cX11_log 39 = .ok (.getfield 19, 3) := by decide +kernel
theorem dX11_log_42 : decode cX11_log 42 = .ok (.iload_n 1, 1) := by decide +kernel
theorem dX11_log_43 : decode cX11_log 43 = .ok (.iload_n 2, 1) := by decide +kernel
theorem dX11_log_44 : decode cX11_log 44 = .ok (.invokevirtual 395, 3) := by decide +kernel
theorem dX11_log_47 : decode cX11_log 47 = .ok (.ireturn, 1) := by decide +kernel
theorem dX11_seed_0 : decode cX11_seed 0 = .ok (.aload_n 0, 1) := by decide +kernel
theorem dX11_seed_1 : decode cX11_seed 1 = .ok (.getfield 19, 3) := by decide +kernel
theorem dX11_seed_4 : decode cX11_seed 4 = .ok (.getfield 374, 3) := by decide +kernel
theorem dX11_seed_7 : decode cX11_seed 7 = .ok (.istore_n 2, 1) := by decide +kernel
theorem dX11_seed_8 : decode cX11_seed 8 = .ok (.aload_n 0, 1) := by decide +kernel
theorem dX11_seed_9 : decode cX11_seed 9 = .ok (.getfield 19, 3) := by decide +kernel
theorem dX11_seed_12 : decode cX11_seed 12 = .ok (.iload_n 1, 1) := by decide +kernel
theorem dX11_seed_13 : decode cX11_seed 13 = .ok (.putfield 374, 3) := by decide +kernel
theorem dX11_seed_16 : decode cX11_seed 16 = .ok (.iload_n 2, 1) := by decide +kernel
theorem dX11_seed_17 : decode cX11_seed 17 = .ok (.ireturn, 1) := by decide +kernel
theorem dX11_undo_0 : decode cX11_undo 0 = .ok (.aload_n 0, 1) := by decide +kernel
theorem dX11_undo_1 : decode cX11_undo 1 = .ok (.getfield 45, 3) := by decide +kernel
theorem dX11_undo_4 : decode cX11_undo 4 = .ok (.aload_n 0, 1) := by decide +kernel
theorem dX11_undo_5 : decode cX11_undo 5 = .ok (.getfield 19, 3) := by decide +kernel
theorem dX11_undo_8 : decode cX11_undo 8 = .ok (.invokevirtual 400, 3) := by decide +kernel
theorem dX11_undo_11 : decode cX11_undo 11 = .ok (.ireturn, 1) := by decide +kernel
theorem dX11_image_0 : decode cX11_image 0 = .ok (.aload_n 0, 1) := by decide +kernel
theorem dX11_image_1 : decode cX11_image 1 = .ok (.getfield 26, 3) := by decide +kernel
theorem dX11_image_4 : decode cX11_image 4 = .ok (.aload_n 0, 1) := by decide +kernel
theorem dX11_image_5 : decode cX11_image 5 = .ok (.getfield 19, 3) := by decide +kernel
theorem dX11_image_8 : decode cX11_image 8 = .ok (.invokevirtual 81, 3) := by decide +kernel
theorem dX11_image_11 : decode cX11_image 11 = .ok (.aload_n 0, 1) := by decide +kernel
theorem dX11_image_12 : decode cX11_image 12 = .ok (.getfield 39, 3) := by decide +kernel
theorem dX11_image_15 : decode cX11_image 15 = .ok (.aload_n 0, 1) := by decide +kernel
theorem dX11_image_16 : decode cX11_image 16 = .ok (.getfield 32, 3) := by decide +kernel
theorem dX11_image_19 : decode cX11_image 19 = .ok (.invokevirtual 119, 3) := by decide +kernel
theorem dX11_image_22 : decode cX11_image 22 = .ok (.aload_n 0, 1) := by decide +kernel
theorem dX11_image_23 : decode cX11_image 23 = .ok (.iconst 1, 1) := by decide +kernel
theorem dX11_image_24 : decode cX11_image 24 = .ok (.putfield 404, 3) := by decide +kernel
theorem dX11_image_27 : decode cX11_image 27 = .ok (.return_, 1) := by decide +kernel
theorem dX11_back_0 : decode cX11_back 0 = .ok (.aload_n 0, 1) := by decide +kernel
theorem dX11_back_1 : decode cX11_back 1 = .ok (.getfield 404, 3) := by decide +kernel
theorem dX11_back_4 : decode cX11_back 4 = .ok (.ifCond .ne 5, 3) := by decide +kernel
theorem dX11_back_7 : decode cX11_back 7 = .ok (.iconst 0, 1) := by decide +kernel
theorem dX11_back_8 : decode cX11_back 8 = .ok (.ireturn, 1) := by decide +kernel
theorem dX11_back_9 : decode cX11_back 9 = .ok (.aload_n 0, 1) := by decide +kernel
theorem dX11_back_10 : decode cX11_back 10 = .ok (.getfield 19, 3) := by decide +kernel
theorem dX11_back_13 : decode cX11_back 13 = .ok (.aload_n 0, 1) := by decide +kernel
theorem dX11_back_14 : decode cX11_back 14 = .ok (.getfield 26, 3) := by decide +kernel
theorem dX11_back_17 : decode cX11_back 17 = .ok (.invokevirtual 81, 3) := by decide +kernel
theorem dX11_back_20 : decode cX11_back 20 = .ok (.aload_n 0, 1) := by decide +kernel
theorem dX11_back_21 : decode cX11_back 21 = .ok (.getfield 32, 3) := by decide +kernel
theorem dX11_back_24 : decode cX11_back 24 = .ok (.aload_n 0, 1) := by decide +kernel
theorem dX11_back_25 : decode cX11_back 25 = .ok (.getfield 39, 3) := by decide +kernel
theorem dX11_back_28 : decode cX11_back 28 = .ok (.invokevirtual 119, 3) := by decide +kernel
theorem dX11_back_31 : decode cX11_back 31 = .ok (.aload_n 0, 1) := by decide +kernel
theorem dX11_back_32 : decode cX11_back 32 = .ok (.getfield 45, 3) := by decide +kernel
theorem dX11_back_35 : decode cX11_back 35 = .ok (.invokevirtual 106, 3) := by decide +kernel
theorem dX11_back_38 : decode cX11_back 38 = .ok (.iconst 1, 1) := by decide +kernel
theorem dX11_back_39 : decode cX11_back 39 = .ok (.ireturn, 1) := by decide +kernel
theorem dX11_count_0 : decode cX11_count 0 = .ok (.iload_n 1, 1) := by decide +kernel
theorem dX11_count_1 : decode cX11_count 1 = .ok (.tableswitch 179 0 12 #[67, 75, 83, 91, 99, 107, 115, 123, 139, 147, 155, 163, 171], 67) := by decide +kernel
theorem dX11_count_68 : decode cX11_count 68 = .ok (.aload_n 0, 1) := by decide +kernel
theorem dX11_count_69 : decode cX11_count 69 = .ok (.getfield 19, 3) := by decide +kernel
theorem dX11_count_72 : decode cX11_count 72 = .ok (.getfield 408, 3) := by decide +kernel
theorem dX11_count_75 : decode cX11_count 75 = .ok (.ireturn, 1) := by decide +kernel
theorem dX11_count_76 : decode cX11_count 76 = .ok (.aload_n 0, 1) := by decide +kernel
theorem dX11_count_77 : decode cX11_count 77 = .ok (.getfield 19, 3) := by decide +kernel
theorem dX11_count_80 : decode cX11_count 80 = .ok (.getfield 411, 3) := by decide +kernel
theorem dX11_count_83 : decode cX11_count 83 = .ok (.ireturn, 1) := by decide +kernel
theorem dX11_count_84 : decode cX11_count 84 = .ok (.aload_n 0, 1) := by decide +kernel
theorem dX11_count_85 : decode cX11_count 85 = .ok (.getfield 19, 3) := by decide +kernel
theorem dX11_count_88 : decode cX11_count 88 = .ok (.getfield 98, 3) := by decide +kernel
theorem dX11_count_91 : decode cX11_count 91 = .ok (.ireturn, 1) := by decide +kernel
theorem dX11_count_92 : decode cX11_count 92 = .ok (.aload_n 0, 1) := by decide +kernel
theorem dX11_count_93 : decode cX11_count 93 = .ok (.getfield 32, 3) := by decide +kernel
theorem dX11_count_96 : decode cX11_count 96 = .ok (.getfield 122, 3) := by decide +kernel
theorem dX11_count_99 : decode cX11_count 99 = .ok (.ireturn, 1) := by decide +kernel
theorem dX11_count_100 : decode cX11_count 100 = .ok (.aload_n 0, 1) := by decide +kernel
theorem dX11_count_101 : decode cX11_count 101 = .ok (.getfield 19, 3) := by decide +kernel
theorem dX11_count_104 : decode cX11_count 104 = .ok (.getfield 414, 3) := by decide +kernel
theorem dX11_count_107 : decode cX11_count 107 = .ok (.ireturn, 1) := by decide +kernel
theorem dX11_count_108 : decode cX11_count 108 = .ok (.aload_n 0, 1) := by decide +kernel
theorem dX11_count_109 : decode cX11_count 109 = .ok (.getfield 19, 3) := by decide +kernel
theorem dX11_count_112 : decode cX11_count 112 = .ok (.getfield 417, 3) := by decide +kernel
theorem dX11_count_115 : decode cX11_count 115 = .ok (.ireturn, 1) := by decide +kernel
theorem dX11_count_116 : decode cX11_count 116 = .ok (.aload_n 0, 1) := by decide +kernel
theorem dX11_count_117 : decode cX11_count 117 = .ok (.getfield 19, 3) := by decide +kernel
theorem dX11_count_120 : decode cX11_count 120 = .ok (.getfield 351, 3) := by decide +kernel
theorem dX11_count_123 : decode cX11_count 123 = .ok (.ireturn, 1) := by decide +kernel
theorem dX11_count_124 : decode cX11_count 124 = .ok (.aload_n 0, 1) := by decide +kernel
theorem dX11_count_125 : decode cX11_count 125 = .ok (.getfield 19, 3) := by decide +kernel
theorem dX11_count_128 : decode cX11_count 128 = .ok (.getfield 420, 3) := by decide +kernel
theorem dX11_count_131 : decode cX11_count 131 = .ok (.ifCond .eq 7, 3) := by decide +kernel
theorem dX11_count_134 : decode cX11_count 134 = .ok (.iconst 1, 1) := by decide +kernel
theorem dX11_count_135 : decode cX11_count 135 = .ok (.goto 4, 3) := by decide +kernel
theorem dX11_count_138 : decode cX11_count 138 = .ok (.iconst 0, 1) := by decide +kernel
theorem dX11_count_139 : decode cX11_count 139 = .ok (.ireturn, 1) := by decide +kernel
theorem dX11_count_140 : decode cX11_count 140 = .ok (.aload_n 0, 1) := by decide +kernel
theorem dX11_count_141 : decode cX11_count 141 = .ok (.getfield 19, 3) := by decide +kernel
theorem dX11_count_144 : decode cX11_count 144 = .ok (.invokevirtual 381, 3) := by decide +kernel
theorem dX11_count_147 : decode cX11_count 147 = .ok (.ireturn, 1) := by decide +kernel
theorem dX11_count_148 : decode cX11_count 148 = .ok (.aload_n 0, 1) := by decide +kernel
theorem dX11_count_149 : decode cX11_count 149 = .ok (.getfield 19, 3) := by decide +kernel
theorem dX11_count_152 : decode cX11_count 152 = .ok (.invokevirtual 423, 3) := by decide +kernel
theorem dX11_count_155 : decode cX11_count 155 = .ok (.ireturn, 1) := by decide +kernel
theorem dX11_count_156 : decode cX11_count 156 = .ok (.aload_n 0, 1) := by decide +kernel
theorem dX11_count_157 : decode cX11_count 157 = .ok (.getfield 19, 3) := by decide +kernel
theorem dX11_count_160 : decode cX11_count 160 = .ok (.invokevirtual 426, 3) := by decide +kernel
theorem dX11_count_163 : decode cX11_count 163 = .ok (.ireturn, 1) := by decide +kernel
theorem dX11_count_164 : decode cX11_count 164 = .ok (.aload_n 0, 1) := by decide +kernel
theorem dX11_count_165 : decode cX11_count 165 = .ok (.getfield 19, 3) := by decide +kernel
theorem dX11_count_168 : decode cX11_count 168 = .ok (.invokevirtual 392, 3) := by decide +kernel
theorem dX11_count_171 : decode cX11_count 171 = .ok (.ireturn, 1) := by decide +kernel
theorem dX11_count_172 : decode cX11_count 172 = .ok (.aload_n 0, 1) := by decide +kernel
theorem dX11_count_173 : decode cX11_count 173 = .ok (.getfield 45, 3) := by decide +kernel
theorem dX11_count_176 : decode cX11_count 176 = .ok (.getfield 429, 3) := by decide +kernel
theorem dX11_count_179 : decode cX11_count 179 = .ok (.ireturn, 1) := by decide +kernel
theorem dX11_count_180 : decode cX11_count 180 = .ok (.iconst (-1), 1) := by decide +kernel
theorem dX11_count_181 : decode cX11_count 181 = .ok (.ireturn, 1) := by decide +kernel
theorem dX11_placesTold_0 : decode cX11_placesTold 0 = .ok (.aload_n 0, 1) := by decide +kernel
theorem dX11_placesTold_1 : decode cX11_placesTold 1 = .ok (.getfield 10, 3) := by decide +kernel
theorem dX11_placesTold_4 : decode cX11_placesTold 4 = .ok (.invokevirtual 283, 3) := by decide +kernel
theorem dX11_placesTold_7 : decode cX11_placesTold 7 = .ok (.istore_n 1, 1) := by decide +kernel
theorem dX11_placesTold_8 : decode cX11_placesTold 8 = .ok (.aload_n 0, 1) := by decide +kernel
theorem dX11_placesTold_9 : decode cX11_placesTold 9 = .ok (.getfield 59, 3) := by decide +kernel
theorem dX11_placesTold_12 : decode cX11_placesTold 12 = .ok (.aload_n 0, 1) := by decide +kernel
theorem dX11_placesTold_13 : decode cX11_placesTold 13 = .ok (.getfield 19, 3) := by decide +kernel
theorem dX11_placesTold_16 : decode cX11_placesTold 16 = .ok (.aload_n 0, 1) := by decide +kernel
theorem dX11_placesTold_17 : decode cX11_placesTold 17 = .ok (.getfield 10, 3) := by decide +kernel
theorem dX11_placesTold_20 : decode cX11_placesTold 20 = .ok (.iload_n 1, 1) := by decide +kernel
theorem dX11_placesTold_21 : decode cX11_placesTold 21 = .ok (.invokevirtual 432, 3) := by decide +kernel
theorem dX11_placesTold_24 : decode cX11_placesTold 24 = .ok (.ifCond .ne 14, 3) := by decide +kernel
theorem dX11_placesTold_27 : decode cX11_placesTold 27 = .ok (.new 91, 3) := by decide +kernel
theorem dX11_placesTold_30 : decode cX11_placesTold 30 = .ok (.dup, 1) := by decide +kernel
theorem dX11_placesTold_31 : decode cX11_placesTold 31 = .ok (.ldc_w 435, 3) := by decide +kernel
theorem dX11_placesTold_34 : decode cX11_placesTold 34 = .ok (.invokespecial 95, 3) := by decide +kernel
theorem dX11_placesTold_37 : decode cX11_placesTold 37 = .ok (.athrow, 1) := by decide +kernel
theorem dX11_placesTold_38 : decode cX11_placesTold 38 = .ok (.aload_n 0, 1) := by decide +kernel
theorem dX11_placesTold_39 : decode cX11_placesTold 39 = .ok (.getfield 59, 3) := by decide +kernel
theorem dX11_placesTold_42 : decode cX11_placesTold 42 = .ok (.aload_n 0, 1) := by decide +kernel
theorem dX11_placesTold_43 : decode cX11_placesTold 43 = .ok (.getfield 19, 3) := by decide +kernel
theorem dX11_placesTold_46 : decode cX11_placesTold 46 = .ok (.aload_n 0, 1) := by decide +kernel
theorem dX11_placesTold_47 : decode cX11_placesTold 47 = .ok (.getfield 10, 3) := by decide +kernel
theorem dX11_placesTold_50 : decode cX11_placesTold 50 = .ok (.iload_n 1, 1) := by decide +kernel
theorem dX11_placesTold_51 : decode cX11_placesTold 51 = .ok (.invokevirtual 437, 3) := by decide +kernel
theorem dX11_placesTold_54 : decode cX11_placesTold 54 = .ok (.ireturn, 1) := by decide +kernel
theorem dX11_needPane_0 : decode cX11_needPane 0 = .ok (.iload_n 1, 1) := by decide +kernel
theorem dX11_needPane_1 : decode cX11_needPane 1 = .ok (.ifCond .lt 14, 3) := by decide +kernel
theorem dX11_needPane_4 : decode cX11_needPane 4 = .ok (.iload_n 1, 1) := by decide +kernel
theorem dX11_needPane_5 : decode cX11_needPane 5 = .ok (.aload_n 0, 1) := by decide +kernel
theorem dX11_needPane_6 : decode cX11_needPane 6 = .ok (.getfield 19, 3) := by decide +kernel
theorem dX11_needPane_9 : decode cX11_needPane 9 = .ok (.getfield 408, 3) := by decide +kernel
theorem dX11_needPane_12 : decode cX11_needPane 12 = .ok (.if_icmp .lt 14, 3) := by decide +kernel
theorem dX11_needPane_15 : decode cX11_needPane 15 = .ok (.new 440, 3) := by decide +kernel
theorem dX11_needPane_18 : decode cX11_needPane 18 = .ok (.dup, 1) := by decide +kernel
theorem dX11_needPane_19 : decode cX11_needPane 19 = .ok (.ldc_w 442, 3) := by decide +kernel
theorem dX11_needPane_22 : decode cX11_needPane 22 = .ok (.invokespecial 444, 3) := by decide +kernel
theorem dX11_needPane_25 : decode cX11_needPane 25 = .ok (.athrow, 1) := by decide +kernel
theorem dX11_needPane_26 : decode cX11_needPane 26 = .ok (.return_, 1) := by decide +kernel
theorem dX11_needWalker_0 : decode cX11_needWalker 0 = .ok (.iload_n 1, 1) := by decide +kernel
theorem dX11_needWalker_1 : decode cX11_needWalker 1 = .ok (.ifCond .lt 14, 3) := by decide +kernel
theorem dX11_needWalker_4 : decode cX11_needWalker 4 = .ok (.iload_n 1, 1) := by decide +kernel
theorem dX11_needWalker_5 : decode cX11_needWalker 5 = .ok (.aload_n 0, 1) := by decide +kernel
theorem dX11_needWalker_6 : decode cX11_needWalker 6 = .ok (.getfield 19, 3) := by decide +kernel
theorem dX11_needWalker_9 : decode cX11_needWalker 9 = .ok (.getfield 411, 3) := by decide +kernel
theorem dX11_needWalker_12 : decode cX11_needWalker 12 = .ok (.if_icmp .lt 14, 3) := by decide +kernel
theorem dX11_needWalker_15 : decode cX11_needWalker 15 = .ok (.new 440, 3) := by decide +kernel
theorem dX11_needWalker_18 : decode cX11_needWalker 18 = .ok (.dup, 1) := by decide +kernel
theorem dX11_needWalker_19 : decode cX11_needWalker 19 = .ok (.ldc_w 445, 3) := by decide +kernel
theorem dX11_needWalker_22 : decode cX11_needWalker 22 = .ok (.invokespecial 444, 3) := by decide +kernel
theorem dX11_needWalker_25 : decode cX11_needWalker 25 = .ok (.athrow, 1) := by decide +kernel
theorem dX11_needWalker_26 : decode cX11_needWalker 26 = .ok (.return_, 1) := by decide +kernel
theorem dX11_needTwoPanes_0 : decode cX11_needTwoPanes 0 = .ok (.aload_n 0, 1) := by decide +kernel
theorem dX11_needTwoPanes_1 : decode cX11_needTwoPanes 1 = .ok (.iload_n 1, 1) := by decide +kernel
theorem dX11_needTwoPanes_2 : decode cX11_needTwoPanes 2 = .ok (.invokevirtual 128, 3) := by decide +kernel
theorem dX11_needTwoPanes_5 : decode cX11_needTwoPanes 5 = .ok (.aload_n 0, 1) := by decide +kernel
theorem dX11_needTwoPanes_6 : decode cX11_needTwoPanes 6 = .ok (.iload_n 2, 1) := by decide +kernel
theorem dX11_needTwoPanes_7 : decode cX11_needTwoPanes 7 = .ok (.invokevirtual 128, 3) := by decide +kernel
theorem dX11_needTwoPanes_10 : decode cX11_needTwoPanes 10 = .ok (.iload_n 1, 1) := by decide +kernel
theorem dX11_needTwoPanes_11 : decode cX11_needTwoPanes 11 = .ok (.iload_n 2, 1) := by decide +kernel
theorem dX11_needTwoPanes_12 : decode cX11_needTwoPanes 12 = .ok (.if_icmp .ne 14, 3) := by decide +kernel
theorem dX11_needTwoPanes_15 : decode cX11_needTwoPanes 15 = .ok (.new 91, 3) := by decide +kernel
theorem dX11_needTwoPanes_18 : decode cX11_needTwoPanes 18 = .ok (.dup, 1) := by decide +kernel
theorem dX11_needTwoPanes_19 : decode cX11_needTwoPanes 19 = .ok (.ldc_w 447, 3) := by decide +kernel
theorem dX11_needTwoPanes_22 : decode cX11_needTwoPanes 22 = .ok (.invokespecial 95, 3) := by decide +kernel
theorem dX11_needTwoPanes_25 : decode cX11_needTwoPanes 25 = .ok (.athrow, 1) := by decide +kernel
theorem dX11_needTwoPanes_26 : decode cX11_needTwoPanes 26 = .ok (.return_, 1) := by decide +kernel
theorem dX11_needTwoWalkers_0 : decode cX11_needTwoWalkers 0 = .ok (.aload_n 0, 1) := by decide +kernel
theorem dX11_needTwoWalkers_1 : decode cX11_needTwoWalkers 1 = .ok (.iload_n 1, 1) := by decide +kernel
theorem dX11_needTwoWalkers_2 : decode cX11_needTwoWalkers 2 = .ok (.invokevirtual 166, 3) := by decide +kernel
theorem dX11_needTwoWalkers_5 : decode cX11_needTwoWalkers 5 = .ok (.aload_n 0, 1) := by decide +kernel
theorem dX11_needTwoWalkers_6 : decode cX11_needTwoWalkers 6 = .ok (.iload_n 2, 1) := by decide +kernel
theorem dX11_needTwoWalkers_7 : decode cX11_needTwoWalkers 7 = .ok (.invokevirtual 166, 3) := by decide +kernel
theorem dX11_needTwoWalkers_10 : decode cX11_needTwoWalkers 10 = .ok (.iload_n 1, 1) := by decide +kernel
theorem dX11_needTwoWalkers_11 : decode cX11_needTwoWalkers 11 = .ok (.iload_n 2, 1) := by decide +kernel
theorem dX11_needTwoWalkers_12 : decode cX11_needTwoWalkers 12 = .ok (.if_icmp .ne 14, 3) := by decide +kernel
theorem dX11_needTwoWalkers_15 : decode cX11_needTwoWalkers 15 = .ok (.new 91, 3) := by decide +kernel
theorem dX11_needTwoWalkers_18 : decode cX11_needTwoWalkers 18 = .ok (.dup, 1) := by decide +kernel
theorem dX11_needTwoWalkers_19 : decode cX11_needTwoWalkers 19 = .ok (.ldc_w 449, 3) := by decide +kernel
theorem dX11_needTwoWalkers_22 : decode cX11_needTwoWalkers 22 = .ok (.invokespecial 95, 3) := by decide +kernel
theorem dX11_needTwoWalkers_25 : decode cX11_needTwoWalkers 25 = .ok (.athrow, 1) := by decide +kernel
theorem dX11_needTwoWalkers_26 : decode cX11_needTwoWalkers 26 = .ok (.return_, 1) := by decide +kernel
theorem dX11_needNumber_0 : decode cX11_needNumber 0 = .ok (.iload_n 0, 1) := by decide +kernel
theorem dX11_needNumber_1 : decode cX11_needNumber 1 = .ok (.iload_n 1, 1) := by decide +kernel
theorem dX11_needNumber_2 : decode cX11_needNumber 2 = .ok (.if_icmp .lt 8, 3) := by decide +kernel
theorem dX11_needNumber_5 : decode cX11_needNumber 5 = .ok (.iload_n 0, 1) := by decide +kernel
theorem dX11_needNumber_6 : decode cX11_needNumber 6 = .ok (.iload_n 2, 1) := by decide +kernel
theorem dX11_needNumber_7 : decode cX11_needNumber 7 = .ok (.if_icmp .le 14, 3) := by decide +kernel
theorem dX11_needNumber_10 : decode cX11_needNumber 10 = .ok (.new 91, 3) := by decide +kernel
theorem dX11_needNumber_13 : decode cX11_needNumber 13 = .ok (.dup, 1) := by decide +kernel
theorem dX11_needNumber_14 : decode cX11_needNumber 14 = .ok (.ldc_w 451, 3) := by decide +kernel
theorem dX11_needNumber_17 : decode cX11_needNumber 17 = .ok (.invokespecial 95, 3) := by decide +kernel
theorem dX11_needNumber_20 : decode cX11_needNumber 20 = .ok (.athrow, 1) := by decide +kernel
theorem dX11_needNumber_21 : decode cX11_needNumber 21 = .ok (.return_, 1) := by decide +kernel
theorem dX11_bit_0 : decode cX11_bit 0 = .ok (.iconst 1, 1) := by decide +kernel
theorem dX11_bit_1 : decode cX11_bit 1 = .ok (.iload_n 0, 1) := by decide +kernel
theorem dX11_bit_2 : decode cX11_bit 2 = .ok (.ishl, 1) := by decide +kernel
theorem dX11_bit_3 : decode cX11_bit 3 = .ok (.ireturn, 1) := by decide +kernel
theorem dX11_hasBit_0 : decode cX11_hasBit 0 = .ok (.iload_n 0, 1) := by decide +kernel
theorem dX11_hasBit_1 : decode cX11_hasBit 1 = .ok (.iload_n 1, 1) := by decide +kernel
theorem dX11_hasBit_2 : decode cX11_hasBit 2 = .ok (.ishr, 1) := by decide +kernel
theorem dX11_hasBit_3 : decode cX11_hasBit 3 = .ok (.iconst 1, 1) := by decide +kernel
theorem dX11_hasBit_4 : decode cX11_hasBit 4 = .ok (.iand, 1) := by decide +kernel
theorem dX11_hasBit_5 : decode cX11_hasBit 5 = .ok (.ifCond .eq 7, 3) := by decide +kernel
theorem dX11_hasBit_8 : decode cX11_hasBit 8 = .ok (.iconst 1, 1) := by decide +kernel
theorem dX11_hasBit_9 : decode cX11_hasBit 9 = .ok (.goto 4, 3) := by decide +kernel
theorem dX11_hasBit_12 : decode cX11_hasBit 12 = .ok (.iconst 0, 1) := by decide +kernel
theorem dX11_hasBit_13 : decode cX11_hasBit 13 = .ok (.ireturn, 1) := by decide +kernel
theorem dX11_lowest_0 : decode cX11_lowest 0 = .ok (.iconst 0, 1) := by decide +kernel
theorem dX11_lowest_1 : decode cX11_lowest 1 = .ok (.istore_n 1, 1) := by decide +kernel
theorem dX11_lowest_2 : decode cX11_lowest 2 = .ok (.iload_n 1, 1) := by decide +kernel
theorem dX11_lowest_3 : decode cX11_lowest 3 = .ok (.bipush 9, 2) := by decide +kernel
theorem dX11_lowest_5 : decode cX11_lowest 5 = .ok (.if_icmp .ge 19, 3) := by decide +kernel
theorem dX11_lowest_8 : decode cX11_lowest 8 = .ok (.iload_n 0, 1) := by decide +kernel
theorem dX11_lowest_9 : decode cX11_lowest 9 = .ok (.iload_n 1, 1) := by decide +kernel
theorem dX11_lowest_10 : decode cX11_lowest 10 = .ok (.invokestatic 453, 3) := by decide +kernel
theorem dX11_lowest_13 : decode cX11_lowest 13 = .ok (.ifCond .eq 5, 3) := by decide +kernel
theorem dX11_lowest_16 : decode cX11_lowest 16 = .ok (.iload_n 1, 1) := by decide +kernel
theorem dX11_lowest_17 : decode cX11_lowest 17 = .ok (.ireturn, 1) := by decide +kernel
theorem dX11_lowest_18 : decode cX11_lowest 18 = .ok (.iinc 1 1, 3) := by decide +kernel
theorem dX11_lowest_21 : decode cX11_lowest 21 = .ok (.goto (-19), 3) := by decide +kernel
theorem dX11_lowest_24 : decode cX11_lowest 24 = .ok (.iconst (-1), 1) := by decide +kernel
theorem dX11_lowest_25 : decode cX11_lowest 25 = .ok (.ireturn, 1) := by decide +kernel
