theorem dL_street_0 : decode cL_street 0 = .ok (.aload_n 1, 1) := by decide +kernel
theorem dL_street_1 : decode cL_street 1 = .ok (.iconst 0, 1) := by decide +kernel
theorem dL_street_2 : decode cL_street 2 = .ok (.aload_n 0, 1) := by decide +kernel
theorem dL_street_3 : decode cL_street 3 = .ok (.invokevirtual 7, 3) := by decide +kernel
theorem dL_street_6 : decode cL_street 6 = .ok (.i2l, 1) := by decide +kernel
theorem dL_street_7 : decode cL_street 7 = .ok (.lastore, 1) := by decide +kernel
theorem dL_street_8 : decode cL_street 8 = .ok (.goto 9, 3) := by decide +kernel
theorem dL_street_11 : decode cL_street 11 = .ok (.astore_n 2, 1) := by decide +kernel
theorem dL_street_12 : decode cL_street 12 = .ok (.iconst 1, 1) := by decide +kernel
theorem dL_street_13 : decode cL_street 13 = .ok (.ireturn, 1) := by decide +kernel
theorem dL_street_14 : decode cL_street 14 = .ok (.astore_n 2, 1) := by decide +kernel
theorem dL_street_15 : decode cL_street 15 = .ok (.iconst 2, 1) := by decide +kernel
theorem dL_street_16 : decode cL_street 16 = .ok (.ireturn, 1) := by decide +kernel
theorem dL_street_17 : decode cL_street 17 = .ok (.iconst 0, 1) := by decide +kernel
theorem dL_street_18 : decode cL_street 18 = .ok (.ireturn, 1) := by decide +kernel
theorem dL_law_0 : decode cL_law 0 = .ok (.aload_n 1, 1) := by decide +kernel
theorem dL_law_1 : decode cL_law 1 = .ok (.iconst 0, 1) := by decide +kernel
theorem dL_law_2 : decode cL_law 2 = .ok (.aload_n 0, 1) := by decide +kernel
theorem dL_law_3 : decode cL_law 3 = .ok (.invokevirtual 17, 3) := by decide +kernel
theorem dL_law_6 : decode cL_law 6 = .ok (.i2l, 1) := by decide +kernel
theorem dL_law_7 : decode cL_law 7 = .ok (.lastore, 1) := by decide +kernel
theorem dL_law_8 : decode cL_law 8 = .ok (.goto 6, 3) := by decide +kernel
theorem dL_law_11 : decode cL_law 11 = .ok (.astore_n 2, 1) := by decide +kernel
theorem dL_law_12 : decode cL_law 12 = .ok (.iconst 1, 1) := by decide +kernel
theorem dL_law_13 : decode cL_law 13 = .ok (.ireturn, 1) := by decide +kernel
theorem dL_law_14 : decode cL_law 14 = .ok (.iconst 0, 1) := by decide +kernel
theorem dL_law_15 : decode cL_law 15 = .ok (.ireturn, 1) := by decide +kernel
theorem dL_pane_0 : decode cL_pane 0 = .ok (.aload_n 3, 1) := by decide +kernel
theorem dL_pane_1 : decode cL_pane 1 = .ok (.iconst 0, 1) := by decide +kernel
theorem dL_pane_2 : decode cL_pane 2 = .ok (.aload_n 0, 1) := by decide +kernel
theorem dL_pane_3 : decode cL_pane 3 = .ok (.iload_n 1, 1) := by decide +kernel
theorem dL_pane_4 : decode cL_pane 4 = .ok (.iload_n 2, 1) := by decide +kernel
theorem dL_pane_5 : decode cL_pane 5 = .ok (.invokevirtual 20, 3) := by decide +kernel
theorem dL_pane_8 : decode cL_pane 8 = .ok (.i2l, 1) := by decide +kernel
theorem dL_pane_9 : decode cL_pane 9 = .ok (.lastore, 1) := by decide +kernel
theorem dL_pane_10 : decode cL_pane 10 = .ok (.goto 11, 3) := by decide +kernel
theorem dL_pane_13 : decode cL_pane 13 = .ok (.astore 4, 2) := by decide +kernel
theorem dL_pane_15 : decode cL_pane 15 = .ok (.iconst 1, 1) := by decide +kernel
theorem dL_pane_16 : decode cL_pane 16 = .ok (.ireturn, 1) := by decide +kernel
theorem dL_pane_17 : decode cL_pane 17 = .ok (.astore 4, 2) := by decide +kernel
theorem dL_pane_19 : decode cL_pane 19 = .ok (.iconst 2, 1) := by decide +kernel
theorem dL_pane_20 : decode cL_pane 20 = .ok (.ireturn, 1) := by decide +kernel
theorem dL_pane_21 : decode cL_pane 21 = .ok (.iconst 0, 1) := by decide +kernel
theorem dL_pane_22 : decode cL_pane 22 = .ok (.ireturn, 1) := by decide +kernel
theorem dL_walker_0 : decode cL_walker 0 = .ok (.aload_n 3, 1) := by decide +kernel
theorem dL_walker_1 : decode cL_walker 1 = .ok (.iconst 0, 1) := by decide +kernel
theorem dL_walker_2 : decode cL_walker 2 = .ok (.aload_n 0, 1) := by decide +kernel
theorem dL_walker_3 : decode cL_walker 3 = .ok (.iload_n 1, 1) := by decide +kernel
theorem dL_walker_4 : decode cL_walker 4 = .ok (.iload_n 2, 1) := by decide +kernel
theorem dL_walker_5 : decode cL_walker 5 = .ok (.invokevirtual 28, 3) := by decide +kernel
theorem dL_walker_8 : decode cL_walker 8 = .ok (.i2l, 1) := by decide +kernel
theorem dL_walker_9 : decode cL_walker 9 = .ok (.lastore, 1) := by decide +kernel
theorem dL_walker_10 : decode cL_walker 10 = .ok (.goto 11, 3) := by decide +kernel
theorem dL_walker_13 : decode cL_walker 13 = .ok (.astore 4, 2) := by decide +kernel
theorem dL_walker_15 : decode cL_walker 15 = .ok (.iconst 1, 1) := by decide +kernel
theorem dL_walker_16 : decode cL_walker 16 = .ok (.ireturn, 1) := by decide +kernel
theorem dL_walker_17 : decode cL_walker 17 = .ok (.astore 4, 2) := by decide +kernel
theorem dL_walker_19 : decode cL_walker 19 = .ok (.iconst 2, 1) := by decide +kernel
theorem dL_walker_20 : decode cL_walker 20 = .ok (.ireturn, 1) := by decide +kernel
theorem dL_walker_21 : decode cL_walker 21 = .ok (.iconst 0, 1) := by decide +kernel
theorem dL_walker_22 : decode cL_walker 22 = .ok (.ireturn, 1) := by decide +kernel
theorem dL_likes_0 : decode cL_likes 0 = .ok (.aload_n 3, 1) := by decide +kernel
theorem dL_likes_1 : decode cL_likes 1 = .ok (.iconst 0, 1) := by decide +kernel
theorem dL_likes_2 : decode cL_likes 2 = .ok (.aload_n 0, 1) := by decide +kernel
theorem dL_likes_3 : decode cL_likes 3 = .ok (.iload_n 1, 1) := by decide +kernel
theorem dL_likes_4 : decode cL_likes 4 = .ok (.iload_n 2, 1) := by decide +kernel
theorem dL_likes_5 : decode cL_likes 5 = .ok (.invokevirtual 31, 3) := by decide +kernel
theorem dL_likes_8 : decode cL_likes 8 = .ok (.i2l, 1) := by decide +kernel
theorem dL_likes_9 : decode cL_likes 9 = .ok (.lastore, 1) := by decide +kernel
theorem dL_likes_10 : decode cL_likes 10 = .ok (.goto 11, 3) := by decide +kernel
theorem dL_likes_13 : decode cL_likes 13 = .ok (.astore 4, 2) := by decide +kernel
theorem dL_likes_15 : decode cL_likes 15 = .ok (.iconst 1, 1) := by decide +kernel
theorem dL_likes_16 : decode cL_likes 16 = .ok (.ireturn, 1) := by decide +kernel
theorem dL_likes_17 : decode cL_likes 17 = .ok (.astore 4, 2) := by decide +kernel
theorem dL_likes_19 : decode cL_likes 19 = .ok (.iconst 2, 1) := by decide +kernel
theorem dL_likes_20 : decode cL_likes 20 = .ok (.ireturn, 1) := by decide +kernel
theorem dL_likes_21 : decode cL_likes 21 = .ok (.iconst 0, 1) := by decide +kernel
theorem dL_likes_22 : decode cL_likes 22 = .ok (.ireturn, 1) := by decide +kernel
theorem dL_will_0 : decode cL_will 0 = .ok (.aload_n 3, 1) := by decide +kernel
theorem dL_will_1 : decode cL_will 1 = .ok (.iconst 0, 1) := by decide +kernel
theorem dL_will_2 : decode cL_will 2 = .ok (.aload_n 0, 1) := by decide +kernel
theorem dL_will_3 : decode cL_will 3 = .ok (.iload_n 1, 1) := by decide +kernel
theorem dL_will_4 : decode cL_will 4 = .ok (.iload_n 2, 1) := by decide +kernel
theorem dL_will_5 : decode cL_will 5 = .ok (.invokevirtual 34, 3) := by decide +kernel
theorem dL_will_8 : decode cL_will 8 = .ok (.i2l, 1) := by decide +kernel
theorem dL_will_9 : decode cL_will 9 = .ok (.lastore, 1) := by decide +kernel
theorem dL_will_10 : decode cL_will 10 = .ok (.goto 7, 3) := by decide +kernel
theorem dL_will_13 : decode cL_will 13 = .ok (.astore 4, 2) := by decide +kernel
theorem dL_will_15 : decode cL_will 15 = .ok (.iconst 1, 1) := by decide +kernel
theorem dL_will_16 : decode cL_will 16 = .ok (.ireturn, 1) := by decide +kernel
theorem dL_will_17 : decode cL_will 17 = .ok (.iconst 0, 1) := by decide +kernel
theorem dL_will_18 : decode cL_will 18 = .ok (.ireturn, 1) := by decide +kernel
theorem dL_lights_0 : decode cL_lights 0 = .ok (.aload_n 3, 1) := by decide +kernel
theorem dL_lights_1 : decode cL_lights 1 = .ok (.iconst 0, 1) := by decide +kernel
theorem dL_lights_2 : decode cL_lights 2 = .ok (.aload_n 0, 1) := by decide +kernel
theorem dL_lights_3 : decode cL_lights 3 = .ok (.iload_n 1, 1) := by decide +kernel
theorem dL_lights_4 : decode cL_lights 4 = .ok (.iload_n 2, 1) := by decide +kernel
theorem dL_lights_5 : decode cL_lights 5 = .ok (.invokevirtual 37, 3) := by decide +kernel
theorem dL_lights_8 : decode cL_lights 8 = .ok (.ifCond .eq 7, 3) := by decide +kernel
theorem dL_lights_11 : decode cL_lights 11 = .ok (.lconst 1, 1) := by decide +kernel
theorem dL_lights_12 : decode cL_lights 12 = .ok (.goto 4, 3) := by decide +kernel
theorem dL_lights_15 : decode cL_lights 15 = .ok (.lconst 0, 1) := by decide +kernel
theorem dL_lights_16 : decode cL_lights 16 = .ok (.lastore, 1) := by decide +kernel
theorem dL_lights_17 : decode cL_lights 17 = .ok (.goto 7, 3) := by decide +kernel
theorem dL_lights_20 : decode cL_lights 20 = .ok (.astore 4, 2) := by decide +kernel
theorem dL_lights_22 : decode cL_lights 22 = .ok (.iconst 1, 1) := by decide +kernel
theorem dL_lights_23 : decode cL_lights 23 = .ok (.ireturn, 1) := by decide +kernel
theorem dL_lights_24 : decode cL_lights 24 = .ok (.iconst 0, 1) := by decide +kernel
theorem dL_lights_25 : decode cL_lights 25 = .ok (.ireturn, 1) := by decide +kernel
theorem dL_isOpen_0 : decode cL_isOpen 0 = .ok (.aload_n 3, 1) := by decide +kernel
theorem dL_isOpen_1 : decode cL_isOpen 1 = .ok (.iconst 0, 1) := by decide +kernel
theorem dL_isOpen_2 : decode cL_isOpen 2 = .ok (.aload_n 0, 1) := by decide +kernel
theorem dL_isOpen_3 : decode cL_isOpen 3 = .ok (.iload_n 1, 1) := by decide +kernel
theorem dL_isOpen_4 : decode cL_isOpen 4 = .ok (.iload_n 2, 1) := by decide +kernel
theorem dL_isOpen_5 : decode cL_isOpen 5 = .ok (.invokevirtual 41, 3) := by decide +kernel
theorem dL_isOpen_8 : decode cL_isOpen 8 = .ok (.ifCond .eq 7, 3) := by decide +kernel
theorem dL_isOpen_11 : decode cL_isOpen 11 = .ok (.lconst 1, 1) := by decide +kernel
theorem dL_isOpen_12 : decode cL_isOpen 12 = .ok (.goto 4, 3) := by decide +kernel
theorem dL_isOpen_15 : decode cL_isOpen 15 = .ok (.lconst 0, 1) := by decide +kernel
theorem dL_isOpen_16 : decode cL_isOpen 16 = .ok (.lastore, 1) := by decide +kernel
theorem dL_isOpen_17 : decode cL_isOpen 17 = .ok (.goto 11, 3) := by decide +kernel
theorem dL_isOpen_20 : decode cL_isOpen 20 = .ok (.astore 4, 2) := by decide +kernel
theorem dL_isOpen_22 : decode cL_isOpen 22 = .ok (.iconst 1, 1) := by decide +kernel
theorem dL_isOpen_23 : decode cL_isOpen 23 = .ok (.ireturn, 1) := by decide +kernel
theorem dL_isOpen_24 : decode cL_isOpen 24 = .ok (.astore 4, 2) := by decide +kernel
theorem dL_isOpen_26 : decode cL_isOpen 26 = .ok (.iconst 2, 1) := by decide +kernel
theorem dL_isOpen_27 : decode cL_isOpen 27 = .ok (.ireturn, 1) := by decide +kernel
theorem dL_isOpen_28 : decode cL_isOpen 28 = .ok (.iconst 0, 1) := by decide +kernel
theorem dL_isOpen_29 : decode cL_isOpen 29 = .ok (.ireturn, 1) := by decide +kernel
theorem dL_hours_0 : decode cL_hours 0 = .ok (.aload_n 2, 1) := by decide +kernel
theorem dL_hours_1 : decode cL_hours 1 = .ok (.iconst 0, 1) := by decide +kernel
theorem dL_hours_2 : decode cL_hours 2 = .ok (.aload_n 0, 1) := by decide +kernel
theorem dL_hours_3 : decode cL_hours 3 = .ok (.iload_n 1, 1) := by decide +kernel
theorem dL_hours_4 : decode cL_hours 4 = .ok (.invokevirtual 44, 3) := by decide +kernel
theorem dL_hours_7 : decode cL_hours 7 = .ok (.i2l, 1) := by decide +kernel
theorem dL_hours_8 : decode cL_hours 8 = .ok (.lastore, 1) := by decide +kernel
theorem dL_hours_9 : decode cL_hours 9 = .ok (.goto 6, 3) := by decide +kernel
theorem dL_hours_12 : decode cL_hours 12 = .ok (.astore_n 3, 1) := by decide +kernel
theorem dL_hours_13 : decode cL_hours 13 = .ok (.iconst 1, 1) := by decide +kernel
theorem dL_hours_14 : decode cL_hours 14 = .ok (.ireturn, 1) := by decide +kernel
theorem dL_hours_15 : decode cL_hours 15 = .ok (.iconst 0, 1) := by decide +kernel
theorem dL_hours_16 : decode cL_hours 16 = .ok (.ireturn, 1) := by decide +kernel
theorem dL_heads_0 : decode cL_heads 0 = .ok (.aload_n 3, 1) := by decide +kernel
theorem dL_heads_1 : decode cL_heads 1 = .ok (.iconst 0, 1) := by decide +kernel
theorem dL_heads_2 : decode cL_heads 2 = .ok (.aload_n 0, 1) := by decide +kernel
theorem dL_heads_3 : decode cL_heads 3 = .ok (.iload_n 1, 1) := by decide +kernel
theorem dL_heads_4 : decode cL_heads 4 = .ok (.iload_n 2, 1) := by decide +kernel
theorem dL_heads_5 : decode cL_heads 5 = .ok (.invokevirtual 48, 3) := by decide +kernel
theorem dL_heads_8 : decode cL_heads 8 = .ok (.i2l, 1) := by decide +kernel
theorem dL_heads_9 : decode cL_heads 9 = .ok (.lastore, 1) := by decide +kernel
theorem dL_heads_10 : decode cL_heads 10 = .ok (.goto 7, 3) := by decide +kernel
theorem dL_heads_13 : decode cL_heads 13 = .ok (.astore 4, 2) := by decide +kernel
theorem dL_heads_15 : decode cL_heads 15 = .ok (.iconst 1, 1) := by decide +kernel
theorem dL_heads_16 : decode cL_heads 16 = .ok (.ireturn, 1) := by decide +kernel
theorem dL_heads_17 : decode cL_heads 17 = .ok (.iconst 0, 1) := by decide +kernel
theorem dL_heads_18 : decode cL_heads 18 = .ok (.ireturn, 1) := by decide +kernel
theorem dL_strike_0 : decode cL_strike 0 = .ok (.aload_n 2, 1) := by decide +kernel
theorem dL_strike_1 : decode cL_strike 1 = .ok (.iconst 0, 1) := by decide +kernel
theorem dL_strike_2 : decode cL_strike 2 = .ok (.aload_n 0, 1) := by decide +kernel
theorem dL_strike_3 : decode cL_strike 3 = .ok (.iload_n 1, 1) := by decide +kernel
theorem dL_strike_4 : decode cL_strike 4 = .ok (.invokevirtual 51, 3) := by decide +kernel
theorem dL_strike_7 : decode cL_strike 7 = .ok (.i2l, 1) := by decide +kernel
theorem dL_strike_8 : decode cL_strike 8 = .ok (.lastore, 1) := by decide +kernel
theorem dL_strike_9 : decode cL_strike 9 = .ok (.goto 9, 3) := by decide +kernel
theorem dL_strike_12 : decode cL_strike 12 = .ok (.astore_n 3, 1) := by decide +kernel
theorem dL_strike_13 : decode cL_strike 13 = .ok (.iconst 1, 1) := by decide +kernel
theorem dL_strike_14 : decode cL_strike 14 = .ok (.ireturn, 1) := by decide +kernel
theorem dL_strike_15 : decode cL_strike 15 = .ok (.astore_n 3, 1) := by decide +kernel
theorem dL_strike_16 : decode cL_strike 16 = .ok (.iconst 2, 1) := by decide +kernel
theorem dL_strike_17 : decode cL_strike 17 = .ok (.ireturn, 1) := by decide +kernel
theorem dL_strike_18 : decode cL_strike 18 = .ok (.iconst 0, 1) := by decide +kernel
theorem dL_strike_19 : decode cL_strike 19 = .ok (.ireturn, 1) := by decide +kernel
theorem dL_snuff_0 : decode cL_snuff 0 = .ok (.aload_n 2, 1) := by decide +kernel
theorem dL_snuff_1 : decode cL_snuff 1 = .ok (.iconst 0, 1) := by decide +kernel
theorem dL_snuff_2 : decode cL_snuff 2 = .ok (.aload_n 0, 1) := by decide +kernel
theorem dL_snuff_3 : decode cL_snuff 3 = .ok (.iload_n 1, 1) := by decide +kernel
theorem dL_snuff_4 : decode cL_snuff 4 = .ok (.invokevirtual 56, 3) := by decide +kernel
theorem dL_snuff_7 : decode cL_snuff 7 = .ok (.i2l, 1) := by decide +kernel
theorem dL_snuff_8 : decode cL_snuff 8 = .ok (.lastore, 1) := by decide +kernel
theorem dL_snuff_9 : decode cL_snuff 9 = .ok (.goto 9, 3) := by decide +kernel
theorem dL_snuff_12 : decode cL_snuff 12 = .ok (.astore_n 3, 1) := by decide +kernel
theorem dL_snuff_13 : decode cL_snuff 13 = .ok (.iconst 1, 1) := by decide +kernel
theorem dL_snuff_14 : decode cL_snuff 14 = .ok (.ireturn, 1) := by decide +kernel
theorem dL_snuff_15 : decode cL_snuff 15 = .ok (.astore_n 3, 1) := by decide +kernel
theorem dL_snuff_16 : decode cL_snuff 16 = .ok (.iconst 2, 1) := by decide +kernel
theorem dL_snuff_17 : decode cL_snuff 17 = .ok (.ireturn, 1) := by decide +kernel
theorem dL_snuff_18 : decode cL_snuff 18 = .ok (.iconst 0, 1) := by decide +kernel
theorem dL_snuff_19 : decode cL_snuff 19 = .ok (.ireturn, 1) := by decide +kernel
theorem dL_oil_0 : decode cL_oil 0 = .ok (.aload_n 3, 1) := by decide +kernel
theorem dL_oil_1 : decode cL_oil 1 = .ok (.iconst 0, 1) := by decide +kernel
theorem dL_oil_2 : decode cL_oil 2 = .ok (.aload_n 0, 1) := by decide +kernel
theorem dL_oil_3 : decode cL_oil 3 = .ok (.iload_n 1, 1) := by decide +kernel
theorem dL_oil_4 : decode cL_oil 4 = .ok (.iload_n 2, 1) := by decide +kernel
theorem dL_oil_5 : decode cL_oil 5 = .ok (.invokevirtual 59, 3) := by decide +kernel
theorem dL_oil_8 : decode cL_oil 8 = .ok (.i2l, 1) := by decide +kernel
theorem dL_oil_9 : decode cL_oil 9 = .ok (.lastore, 1) := by decide +kernel
theorem dL_oil_10 : decode cL_oil 10 = .ok (.goto 11, 3) := by decide +kernel
theorem dL_oil_13 : decode cL_oil 13 = .ok (.astore 4, 2) := by decide +kernel
theorem dL_oil_15 : decode cL_oil 15 = .ok (.iconst 1, 1) := by decide +kernel
theorem dL_oil_16 : decode cL_oil 16 = .ok (.ireturn, 1) := by decide +kernel
theorem dL_oil_17 : decode cL_oil 17 = .ok (.astore 4, 2) := by decide +kernel
theorem dL_oil_19 : decode cL_oil 19 = .ok (.iconst 2, 1) := by decide +kernel
theorem dL_oil_20 : decode cL_oil 20 = .ok (.ireturn, 1) := by decide +kernel
theorem dL_oil_21 : decode cL_oil 21 = .ok (.iconst 0, 1) := by decide +kernel
theorem dL_oil_22 : decode cL_oil 22 = .ok (.ireturn, 1) := by decide +kernel
theorem dL_taper_0 : decode cL_taper 0 = .ok (.aload_n 3, 1) := by decide +kernel
theorem dL_taper_1 : decode cL_taper 1 = .ok (.iconst 0, 1) := by decide +kernel
theorem dL_taper_2 : decode cL_taper 2 = .ok (.aload_n 0, 1) := by decide +kernel
theorem dL_taper_3 : decode cL_taper 3 = .ok (.iload_n 1, 1) := by decide +kernel
theorem dL_taper_4 : decode cL_taper 4 = .ok (.iload_n 2, 1) := by decide +kernel
theorem dL_taper_5 : decode cL_taper 5 = .ok (.invokevirtual 62, 3) := by decide +kernel
theorem dL_taper_8 : decode cL_taper 8 = .ok (.i2l, 1) := by decide +kernel
theorem dL_taper_9 : decode cL_taper 9 = .ok (.lastore, 1) := by decide +kernel
theorem dL_taper_10 : decode cL_taper 10 = .ok (.goto 11, 3) := by decide +kernel
theorem dL_taper_13 : decode cL_taper 13 = .ok (.astore 4, 2) := by decide +kernel
theorem dL_taper_15 : decode cL_taper 15 = .ok (.iconst 1, 1) := by decide +kernel
theorem dL_taper_16 : decode cL_taper 16 = .ok (.ireturn, 1) := by decide +kernel
theorem dL_taper_17 : decode cL_taper 17 = .ok (.astore 4, 2) := by decide +kernel
theorem dL_taper_19 : decode cL_taper 19 = .ok (.iconst 2, 1) := by decide +kernel
theorem dL_taper_20 : decode cL_taper 20 = .ok (.ireturn, 1) := by decide +kernel
theorem dL_taper_21 : decode cL_taper 21 = .ok (.iconst 0, 1) := by decide +kernel
theorem dL_taper_22 : decode cL_taper 22 = .ok (.ireturn, 1) := by decide +kernel
theorem dL_like_0 : decode cL_like 0 = .ok (.aload 4, 2) := by decide +kernel
theorem dL_like_2 : decode cL_like 2 = .ok (.iconst 0, 1) := by decide +kernel
theorem dL_like_3 : decode cL_like 3 = .ok (.aload_n 0, 1) := by decide +kernel
theorem dL_like_4 : decode cL_like 4 = .ok (.iload_n 1, 1) := by decide +kernel
theorem dL_like_5 : decode cL_like 5 = .ok (.iload_n 2, 1) := by decide +kernel
theorem dL_like_6 : decode cL_like 6 = .ok (.iload_n 3, 1) := by decide +kernel
theorem dL_like_7 : decode cL_like 7 = .ok (.invokevirtual 65, 3) := by decide +kernel
theorem dL_like_10 : decode cL_like 10 = .ok (.i2l, 1) := by decide +kernel
theorem dL_like_11 : decode cL_like 11 = .ok (.lastore, 1) := by decide +kernel
theorem dL_like_12 : decode cL_like 12 = .ok (.goto 11, 3) := by decide +kernel
theorem dL_like_15 : decode cL_like 15 = .ok (.astore 5, 2) := by decide +kernel
theorem dL_like_17 : decode cL_like 17 = .ok (.iconst 1, 1) := by decide +kernel
theorem dL_like_18 : decode cL_like 18 = .ok (.ireturn, 1) := by decide +kernel
theorem dL_like_19 : decode cL_like 19 = .ok (.astore 5, 2) := by decide +kernel
theorem dL_like_21 : decode cL_like 21 = .ok (.iconst 2, 1) := by decide +kernel
theorem dL_like_22 : decode cL_like 22 = .ok (.ireturn, 1) := by decide +kernel
theorem dL_like_23 : decode cL_like 23 = .ok (.iconst 0, 1) := by decide +kernel
theorem dL_like_24 : decode cL_like 24 = .ok (.ireturn, 1) := by decide +kernel
theorem dL_way_0 : decode cL_way 0 = .ok (.aload 4, 2) := by decide +kernel
theorem dL_way_2 : decode cL_way 2 = .ok (.iconst 0, 1) := by decide +kernel
theorem dL_way_3 : decode cL_way 3 = .ok (.aload_n 0, 1) := by decide +kernel
theorem dL_way_4 : decode cL_way 4 = .ok (.iload_n 1, 1) := by decide +kernel
theorem dL_way_5 : decode cL_way 5 = .ok (.iload_n 2, 1) := by decide +kernel
theorem dL_way_6 : decode cL_way 6 = .ok (.iload_n 3, 1) := by decide +kernel
theorem dL_way_7 : decode cL_way 7 = .ok (.invokevirtual 69, 3) := by decide +kernel
theorem dL_way_10 : decode cL_way 10 = .ok (.ifCond .eq 7, 3) := by decide +kernel
theorem dL_way_13 : decode cL_way 13 = .ok (.lconst 1, 1) := by decide +kernel
theorem dL_way_14 : decode cL_way 14 = .ok (.goto 4, 3) := by decide +kernel
theorem dL_way_17 : decode cL_way 17 = .ok (.lconst 0, 1) := by decide +kernel
theorem dL_way_18 : decode cL_way 18 = .ok (.lastore, 1) := by decide +kernel
theorem dL_way_19 : decode cL_way 19 = .ok (.goto 11, 3) := by decide +kernel
theorem dL_way_22 : decode cL_way 22 = .ok (.astore 5, 2) := by decide +kernel
theorem dL_way_24 : decode cL_way 24 = .ok (.iconst 1, 1) := by decide +kernel
theorem dL_way_25 : decode cL_way 25 = .ok (.ireturn, 1) := by decide +kernel
theorem dL_way_26 : decode cL_way 26 = .ok (.astore 5, 2) := by decide +kernel
theorem dL_way_28 : decode cL_way 28 = .ok (.iconst 2, 1) := by decide +kernel
theorem dL_way_29 : decode cL_way 29 = .ok (.ireturn, 1) := by decide +kernel
theorem dL_way_30 : decode cL_way 30 = .ok (.iconst 0, 1) := by decide +kernel
theorem dL_way_31 : decode cL_way 31 = .ok (.ireturn, 1) := by decide +kernel
theorem dL_far_0 : decode cL_far 0 = .ok (.aload_n 3, 1) := by decide +kernel
theorem dL_far_1 : decode cL_far 1 = .ok (.iconst 0, 1) := by decide +kernel
theorem dL_far_2 : decode cL_far 2 = .ok (.aload_n 0, 1) := by decide +kernel
theorem dL_far_3 : decode cL_far 3 = .ok (.iload_n 1, 1) := by decide +kernel
theorem dL_far_4 : decode cL_far 4 = .ok (.iload_n 2, 1) := by decide +kernel
theorem dL_far_5 : decode cL_far 5 = .ok (.invokevirtual 73, 3) := by decide +kernel
theorem dL_far_8 : decode cL_far 8 = .ok (.i2l, 1) := by decide +kernel
theorem dL_far_9 : decode cL_far 9 = .ok (.lastore, 1) := by decide +kernel
theorem dL_far_10 : decode cL_far 10 = .ok (.goto 7, 3) := by decide +kernel
theorem dL_far_13 : decode cL_far 13 = .ok (.astore 4, 2) := by decide +kernel
theorem dL_far_15 : decode cL_far 15 = .ok (.iconst 1, 1) := by decide +kernel
theorem dL_far_16 : decode cL_far 16 = .ok (.ireturn, 1) := by decide +kernel
theorem dL_far_17 : decode cL_far 17 = .ok (.iconst 0, 1) := by decide +kernel
theorem dL_far_18 : decode cL_far 18 = .ok (.ireturn, 1) := by decide +kernel
theorem dL_round_0 : decode cL_round 0 = .ok (.aload_n 3, 1) := by decide +kernel
theorem dL_round_1 : decode cL_round 1 = .ok (.iconst 0, 1) := by decide +kernel
theorem dL_round_2 : decode cL_round 2 = .ok (.aload_n 0, 1) := by decide +kernel
theorem dL_round_3 : decode cL_round 3 = .ok (.iload_n 1, 1) := by decide +kernel
theorem dL_round_4 : decode cL_round 4 = .ok (.iload_n 2, 1) := by decide +kernel
theorem dL_round_5 : decode cL_round 5 = .ok (.invokevirtual 76, 3) := by decide +kernel
theorem dL_round_8 : decode cL_round 8 = .ok (.i2l, 1) := by decide +kernel
theorem dL_round_9 : decode cL_round 9 = .ok (.lastore, 1) := by decide +kernel
theorem dL_round_10 : decode cL_round 10 = .ok (.goto 11, 3) := by decide +kernel
theorem dL_round_13 : decode cL_round 13 = .ok (.astore 4, 2) := by decide +kernel
theorem dL_round_15 : decode cL_round 15 = .ok (.iconst 1, 1) := by decide +kernel
theorem dL_round_16 : decode cL_round 16 = .ok (.ireturn, 1) := by decide +kernel
theorem dL_round_17 : decode cL_round 17 = .ok (.astore 4, 2) := by decide +kernel
theorem dL_round_19 : decode cL_round 19 = .ok (.iconst 2, 1) := by decide +kernel
theorem dL_round_20 : decode cL_round 20 = .ok (.ireturn, 1) := by decide +kernel
theorem dL_round_21 : decode cL_round 21 = .ok (.iconst 0, 1) := by decide +kernel
theorem dL_round_22 : decode cL_round 22 = .ok (.ireturn, 1) := by decide +kernel
theorem dL_closed_0 : decode cL_closed 0 = .ok (.aload_n 3, 1) := by decide +kernel
theorem dL_closed_1 : decode cL_closed 1 = .ok (.iconst 0, 1) := by decide +kernel
theorem dL_closed_2 : decode cL_closed 2 = .ok (.aload_n 0, 1) := by decide +kernel
theorem dL_closed_3 : decode cL_closed 3 = .ok (.iload_n 1, 1) := by decide +kernel
theorem dL_closed_4 : decode cL_closed 4 = .ok (.iload_n 2, 1) := by decide +kernel
theorem dL_closed_5 : decode cL_closed 5 = .ok (.invokevirtual 80, 3) := by decide +kernel
theorem dL_closed_8 : decode cL_closed 8 = .ok (.i2l, 1) := by decide +kernel
theorem dL_closed_9 : decode cL_closed 9 = .ok (.lastore, 1) := by decide +kernel
theorem dL_closed_10 : decode cL_closed 10 = .ok (.goto 7, 3) := by decide +kernel
theorem dL_closed_13 : decode cL_closed 13 = .ok (.astore 4, 2) := by decide +kernel
theorem dL_closed_15 : decode cL_closed 15 = .ok (.iconst 1, 1) := by decide +kernel
theorem dL_closed_16 : decode cL_closed 16 = .ok (.ireturn, 1) := by decide +kernel
theorem dL_closed_17 : decode cL_closed 17 = .ok (.iconst 0, 1) := by decide +kernel
theorem dL_closed_18 : decode cL_closed 18 = .ok (.ireturn, 1) := by decide +kernel
theorem dL_whoLit_0 : decode cL_whoLit 0 = .ok (.aload_n 1, 1) := by decide +kernel
theorem dL_whoLit_1 : decode cL_whoLit 1 = .ok (.iconst 0, 1) := by decide +kernel
theorem dL_whoLit_2 : decode cL_whoLit 2 = .ok (.aload_n 0, 1) := by decide +kernel
theorem dL_whoLit_3 : decode cL_whoLit 3 = .ok (.invokevirtual 83, 3) := by decide +kernel
theorem dL_whoLit_6 : decode cL_whoLit 6 = .ok (.i2l, 1) := by decide +kernel
theorem dL_whoLit_7 : decode cL_whoLit 7 = .ok (.lastore, 1) := by decide +kernel
theorem dL_whoLit_8 : decode cL_whoLit 8 = .ok (.goto 6, 3) := by decide +kernel
theorem dL_whoLit_11 : decode cL_whoLit 11 = .ok (.astore_n 2, 1) := by decide +kernel
theorem dL_whoLit_12 : decode cL_whoLit 12 = .ok (.iconst 1, 1) := by decide +kernel
theorem dL_whoLit_13 : decode cL_whoLit 13 = .ok (.ireturn, 1) := by decide +kernel
theorem dL_whoLit_14 : decode cL_whoLit 14 = .ok (.iconst 0, 1) := by decide +kernel
theorem dL_whoLit_15 : decode cL_whoLit 15 = .ok (.ireturn, 1) := by decide +kernel
theorem dL_ask_0 : decode cL_ask 0 = .ok (.aload_n 1, 1) := by decide +kernel
theorem dL_ask_1 : decode cL_ask 1 = .ok (.iconst 0, 1) := by decide +kernel
theorem dL_ask_2 : decode cL_ask 2 = .ok (.aload_n 0, 1) := by decide +kernel
theorem dL_ask_3 : decode cL_ask 3 = .ok (.invokevirtual 86, 3) := by decide +kernel
theorem dL_ask_6 : decode cL_ask 6 = .ok (.i2l, 1) := by decide +kernel
theorem dL_ask_7 : decode cL_ask 7 = .ok (.lastore, 1) := by decide +kernel
theorem dL_ask_8 : decode cL_ask 8 = .ok (.goto 6, 3) := by decide +kernel
theorem dL_ask_11 : decode cL_ask 11 = .ok (.astore_n 2, 1) := by decide +kernel
theorem dL_ask_12 : decode cL_ask 12 = .ok (.iconst 1, 1) := by decide +kernel
theorem dL_ask_13 : decode cL_ask 13 = .ok (.ireturn, 1) := by decide +kernel
theorem dL_ask_14 : decode cL_ask 14 = .ok (.iconst 0, 1) := by decide +kernel
theorem dL_ask_15 : decode cL_ask 15 = .ok (.ireturn, 1) := by decide +kernel
theorem dL_ring_0 : decode cL_ring 0 = .ok (.aload_n 2, 1) := by decide +kernel
theorem dL_ring_1 : decode cL_ring 1 = .ok (.iconst 0, 1) := by decide +kernel
theorem dL_ring_2 : decode cL_ring 2 = .ok (.aload_n 0, 1) := by decide +kernel
theorem dL_ring_3 : decode cL_ring 3 = .ok (.iload_n 1, 1) := by decide +kernel
theorem dL_ring_4 : decode cL_ring 4 = .ok (.invokevirtual 89, 3) := by decide +kernel
theorem dL_ring_7 : decode cL_ring 7 = .ok (.ifCond .eq 7, 3) := by decide +kernel
theorem dL_ring_10 : decode cL_ring 10 = .ok (.lconst 1, 1) := by decide +kernel
theorem dL_ring_11 : decode cL_ring 11 = .ok (.goto 4, 3) := by decide +kernel
theorem dL_ring_14 : decode cL_ring 14 = .ok (.lconst 0, 1) := by decide +kernel
theorem dL_ring_15 : decode cL_ring 15 = .ok (.lastore, 1) := by decide +kernel
theorem dL_ring_16 : decode cL_ring 16 = .ok (.goto 6, 3) := by decide +kernel
theorem dL_ring_19 : decode cL_ring 19 = .ok (.astore_n 3, 1) := by decide +kernel
theorem dL_ring_20 : decode cL_ring 20 = .ok (.iconst 1, 1) := by decide +kernel
theorem dL_ring_21 : decode cL_ring 21 = .ok (.ireturn, 1) := by decide +kernel
theorem dL_ring_22 : decode cL_ring 22 = .ok (.iconst 0, 1) := by decide +kernel
theorem dL_ring_23 : decode cL_ring 23 = .ok (.ireturn, 1) := by decide +kernel
theorem dL_pairs_0 : decode cL_pairs 0 = .ok (.aload_n 2, 1) := by decide +kernel
theorem dL_pairs_1 : decode cL_pairs 1 = .ok (.iconst 0, 1) := by decide +kernel
theorem dL_pairs_2 : decode cL_pairs 2 = .ok (.aload_n 0, 1) := by decide +kernel
theorem dL_pairs_3 : decode cL_pairs 3 = .ok (.iload_n 1, 1) := by decide +kernel
theorem dL_pairs_4 : decode cL_pairs 4 = .ok (.invokevirtual 93, 3) := by decide +kernel
theorem dL_pairs_7 : decode cL_pairs 7 = .ok (.i2l, 1) := by decide +kernel
theorem dL_pairs_8 : decode cL_pairs 8 = .ok (.lastore, 1) := by decide +kernel
theorem dL_pairs_9 : decode cL_pairs 9 = .ok (.goto 6, 3) := by decide +kernel
theorem dL_pairs_12 : decode cL_pairs 12 = .ok (.astore_n 3, 1) := by decide +kernel
theorem dL_pairs_13 : decode cL_pairs 13 = .ok (.iconst 1, 1) := by decide +kernel
theorem dL_pairs_14 : decode cL_pairs 14 = .ok (.ireturn, 1) := by decide +kernel
theorem dL_pairs_15 : decode cL_pairs 15 = .ok (.iconst 0, 1) := by decide +kernel
theorem dL_pairs_16 : decode cL_pairs 16 = .ok (.ireturn, 1) := by decide +kernel
theorem dL_learnt_0 : decode cL_learnt 0 = .ok (.aload_n 1, 1) := by decide +kernel
theorem dL_learnt_1 : decode cL_learnt 1 = .ok (.iconst 0, 1) := by decide +kernel
theorem dL_learnt_2 : decode cL_learnt 2 = .ok (.aload_n 0, 1) := by decide +kernel
theorem dL_learnt_3 : decode cL_learnt 3 = .ok (.invokevirtual 96, 3) := by decide +kernel
theorem dL_learnt_6 : decode cL_learnt 6 = .ok (.i2l, 1) := by decide +kernel
theorem dL_learnt_7 : decode cL_learnt 7 = .ok (.lastore, 1) := by decide +kernel
theorem dL_learnt_8 : decode cL_learnt 8 = .ok (.goto 6, 3) := by decide +kernel
theorem dL_learnt_11 : decode cL_learnt 11 = .ok (.astore_n 2, 1) := by decide +kernel
theorem dL_learnt_12 : decode cL_learnt 12 = .ok (.iconst 1, 1) := by decide +kernel
theorem dL_learnt_13 : decode cL_learnt 13 = .ok (.ireturn, 1) := by decide +kernel
theorem dL_learnt_14 : decode cL_learnt 14 = .ok (.iconst 0, 1) := by decide +kernel
theorem dL_learnt_15 : decode cL_learnt 15 = .ok (.ireturn, 1) := by decide +kernel
theorem dL_share_0 : decode cL_share 0 = .ok (.aload_n 3, 1) := by decide +kernel
theorem dL_share_1 : decode cL_share 1 = .ok (.iconst 0, 1) := by decide +kernel
theorem dL_share_2 : decode cL_share 2 = .ok (.aload_n 0, 1) := by decide +kernel
theorem dL_share_3 : decode cL_share 3 = .ok (.iload_n 1, 1) := by decide +kernel
theorem dL_share_4 : decode cL_share 4 = .ok (.iload_n 2, 1) := by decide +kernel
theorem dL_share_5 : decode cL_share 5 = .ok (.invokevirtual 99, 3) := by decide +kernel
theorem dL_share_8 : decode cL_share 8 = .ok (.i2l, 1) := by decide +kernel
theorem dL_share_9 : decode cL_share 9 = .ok (.lastore, 1) := by decide +kernel
theorem dL_share_10 : decode cL_share 10 = .ok (.goto 11, 3) := by decide +kernel
theorem dL_share_13 : decode cL_share 13 = .ok (.astore 4, 2) := by decide +kernel
theorem dL_share_15 : decode cL_share 15 = .ok (.iconst 1, 1) := by decide +kernel
theorem dL_share_16 : decode cL_share 16 = .ok (.ireturn, 1) := by decide +kernel
theorem dL_share_17 : decode cL_share 17 = .ok (.astore 4, 2) := by decide +kernel
theorem dL_share_19 : decode cL_share 19 = .ok (.iconst 2, 1) := by decide +kernel
theorem dL_share_20 : decode cL_share 20 = .ok (.ireturn, 1) := by decide +kernel
theorem dL_share_21 : decode cL_share 21 = .ok (.iconst 0, 1) := by decide +kernel
theorem dL_share_22 : decode cL_share 22 = .ok (.ireturn, 1) := by decide +kernel
theorem dL_rests_0 : decode cL_rests 0 = .ok (.aload_n 3, 1) := by decide +kernel
theorem dL_rests_1 : decode cL_rests 1 = .ok (.iconst 0, 1) := by decide +kernel
theorem dL_rests_2 : decode cL_rests 2 = .ok (.aload_n 0, 1) := by decide +kernel
theorem dL_rests_3 : decode cL_rests 3 = .ok (.iload_n 1, 1) := by decide +kernel
theorem dL_rests_4 : decode cL_rests 4 = .ok (.iload_n 2, 1) := by decide +kernel
theorem dL_rests_5 : decode cL_rests 5 = .ok (.invokevirtual 102, 3) := by decide +kernel
theorem dL_rests_8 : decode cL_rests 8 = .ok (.i2l, 1) := by decide +kernel
theorem dL_rests_9 : decode cL_rests 9 = .ok (.lastore, 1) := by decide +kernel
theorem dL_rests_10 : decode cL_rests 10 = .ok (.goto 11, 3) := by decide +kernel
theorem dL_rests_13 : decode cL_rests 13 = .ok (.astore 4, 2) := by decide +kernel
theorem dL_rests_15 : decode cL_rests 15 = .ok (.iconst 1, 1) := by decide +kernel
theorem dL_rests_16 : decode cL_rests 16 = .ok (.ireturn, 1) := by decide +kernel
theorem dL_rests_17 : decode cL_rests 17 = .ok (.astore 4, 2) := by decide +kernel
theorem dL_rests_19 : decode cL_rests 19 = .ok (.iconst 2, 1) := by decide +kernel
theorem dL_rests_20 : decode cL_rests 20 = .ok (.ireturn, 1) := by decide +kernel
theorem dL_rests_21 : decode cL_rests 21 = .ok (.iconst 0, 1) := by decide +kernel
theorem dL_rests_22 : decode cL_rests 22 = .ok (.ireturn, 1) := by decide +kernel
theorem dL_odds_0 : decode cL_odds 0 = .ok (.aload_n 3, 1) := by decide +kernel
theorem dL_odds_1 : decode cL_odds 1 = .ok (.iconst 0, 1) := by decide +kernel
theorem dL_odds_2 : decode cL_odds 2 = .ok (.aload_n 0, 1) := by decide +kernel
theorem dL_odds_3 : decode cL_odds 3 = .ok (.iload_n 1, 1) := by decide +kernel
theorem dL_odds_4 : decode cL_odds 4 = .ok (.iload_n 2, 1) := by decide +kernel
theorem dL_odds_5 : decode cL_odds 5 = .ok (.invokevirtual 105, 3) := by decide +kernel
theorem dL_odds_8 : decode cL_odds 8 = .ok (.i2l, 1) := by decide +kernel
theorem dL_odds_9 : decode cL_odds 9 = .ok (.lastore, 1) := by decide +kernel
theorem dL_odds_10 : decode cL_odds 10 = .ok (.goto 7, 3) := by decide +kernel
theorem dL_odds_13 : decode cL_odds 13 = .ok (.astore 4, 2) := by decide +kernel
theorem dL_odds_15 : decode cL_odds 15 = .ok (.iconst 1, 1) := by decide +kernel
theorem dL_odds_16 : decode cL_odds 16 = .ok (.ireturn, 1) := by decide +kernel
theorem dL_odds_17 : decode cL_odds 17 = .ok (.iconst 0, 1) := by decide +kernel
theorem dL_odds_18 : decode cL_odds 18 = .ok (.ireturn, 1) := by decide +kernel
theorem dL_ahead_0 : decode cL_ahead 0 = .ok (.aload 4, 2) := by decide +kernel
theorem dL_ahead_2 : decode cL_ahead 2 = .ok (.iconst 0, 1) := by decide +kernel
theorem dL_ahead_3 : decode cL_ahead 3 = .ok (.aload_n 0, 1) := by decide +kernel
theorem dL_ahead_4 : decode cL_ahead 4 = .ok (.iload_n 1, 1) := by decide +kernel
theorem dL_ahead_5 : decode cL_ahead 5 = .ok (.iload_n 2, 1) := by decide +kernel
theorem dL_ahead_6 : decode cL_ahead 6 = .ok (.iload_n 3, 1) := by decide +kernel
theorem dL_ahead_7 : decode cL_ahead 7 = .ok (.invokevirtual 108, 3) := by decide +kernel
theorem dL_ahead_10 : decode cL_ahead 10 = .ok (.i2l, 1) := by decide +kernel
theorem dL_ahead_11 : decode cL_ahead 11 = .ok (.lastore, 1) := by decide +kernel
theorem dL_ahead_12 : decode cL_ahead 12 = .ok (.goto 15, 3) := by decide +kernel
theorem dL_ahead_15 : decode cL_ahead 15 = .ok (.astore 5, 2) := by decide +kernel
theorem dL_ahead_17 : decode cL_ahead 17 = .ok (.iconst 1, 1) := by decide +kernel
theorem dL_ahead_18 : decode cL_ahead 18 = .ok (.ireturn, 1) := by decide +kernel
theorem dL_ahead_19 : decode cL_ahead 19 = .ok (.astore 5, 2) := by decide +kernel
theorem dL_ahead_21 : decode cL_ahead 21 = .ok (.iconst 2, 1) := by decide +kernel
theorem dL_ahead_22 : decode cL_ahead 22 = .ok (.ireturn, 1) := by decide +kernel
theorem dL_ahead_23 : decode cL_ahead 23 = .ok (.astore 5, 2) := by decide +kernel
theorem dL_ahead_25 : decode cL_ahead 25 = .ok (.iconst 3, 1) := by decide +kernel
theorem dL_ahead_26 : decode cL_ahead 26 = .ok (.ireturn, 1) := by decide +kernel
theorem dL_ahead_27 : decode cL_ahead 27 = .ok (.iconst 0, 1) := by decide +kernel
theorem dL_ahead_28 : decode cL_ahead 28 = .ok (.ireturn, 1) := by decide +kernel
theorem dL_trial_0 : decode cL_trial 0 = .ok (.aload_n 3, 1) := by decide +kernel
theorem dL_trial_1 : decode cL_trial 1 = .ok (.iconst 0, 1) := by decide +kernel
theorem dL_trial_2 : decode cL_trial 2 = .ok (.aload_n 0, 1) := by decide +kernel
theorem dL_trial_3 : decode cL_trial 3 = .ok (.iload_n 1, 1) := by decide +kernel
theorem dL_trial_4 : decode cL_trial 4 = .ok (.iload_n 2, 1) := by decide +kernel
theorem dL_trial_5 : decode cL_trial 5 = .ok (.invokevirtual 111, 3) := by decide +kernel
theorem dL_trial_8 : decode cL_trial 8 = .ok (.i2l, 1) := by decide +kernel
theorem dL_trial_9 : decode cL_trial 9 = .ok (.lastore, 1) := by decide +kernel
theorem dL_trial_10 : decode cL_trial 10 = .ok (.goto 7, 3) := by decide +kernel
theorem dL_trial_13 : decode cL_trial 13 = .ok (.astore 4, 2) := by decide +kernel
theorem dL_trial_15 : decode cL_trial 15 = .ok (.iconst 1, 1) := by decide +kernel
theorem dL_trial_16 : decode cL_trial 16 = .ok (.ireturn, 1) := by decide +kernel
theorem dL_trial_17 : decode cL_trial 17 = .ok (.iconst 0, 1) := by decide +kernel
theorem dL_trial_18 : decode cL_trial 18 = .ok (.ireturn, 1) := by decide +kernel
theorem dL_span_0 : decode cL_span 0 = .ok (.aload_n 3, 1) := by decide +kernel
theorem dL_span_1 : decode cL_span 1 = .ok (.iconst 0, 1) := by decide +kernel
theorem dL_span_2 : decode cL_span 2 = .ok (.aload_n 0, 1) := by decide +kernel
theorem dL_span_3 : decode cL_span 3 = .ok (.iload_n 1, 1) := by decide +kernel
theorem dL_span_4 : decode cL_span 4 = .ok (.iload_n 2, 1) := by decide +kernel
theorem dL_span_5 : decode cL_span 5 = .ok (.invokevirtual 114, 3) := by decide +kernel
theorem dL_span_8 : decode cL_span 8 = .ok (.i2l, 1) := by decide +kernel
theorem dL_span_9 : decode cL_span 9 = .ok (.lastore, 1) := by decide +kernel
theorem dL_span_10 : decode cL_span 10 = .ok (.goto 7, 3) := by decide +kernel
theorem dL_span_13 : decode cL_span 13 = .ok (.astore 4, 2) := by decide +kernel
theorem dL_span_15 : decode cL_span 15 = .ok (.iconst 1, 1) := by decide +kernel
theorem dL_span_16 : decode cL_span 16 = .ok (.ireturn, 1) := by decide +kernel
theorem dL_span_17 : decode cL_span 17 = .ok (.iconst 0, 1) := by decide +kernel
theorem dL_span_18 : decode cL_span 18 = .ok (.ireturn, 1) := by decide +kernel
theorem dL_led_0 : decode cL_led 0 = .ok (.aload_n 3, 1) := by decide +kernel
theorem dL_led_1 : decode cL_led 1 = .ok (.iconst 0, 1) := by decide +kernel
theorem dL_led_2 : decode cL_led 2 = .ok (.aload_n 0, 1) := by decide +kernel
theorem dL_led_3 : decode cL_led 3 = .ok (.iload_n 1, 1) := by decide +kernel
theorem dL_led_4 : decode cL_led 4 = .ok (.iload_n 2, 1) := by decide +kernel
theorem dL_led_5 : decode cL_led 5 = .ok (.invokevirtual 117, 3) := by decide +kernel
theorem dL_led_8 : decode cL_led 8 = .ok (.i2l, 1) := by decide +kernel
theorem dL_led_9 : decode cL_led 9 = .ok (.lastore, 1) := by decide +kernel
theorem dL_led_10 : decode cL_led 10 = .ok (.goto 7, 3) := by decide +kernel
theorem dL_led_13 : decode cL_led 13 = .ok (.astore 4, 2) := by decide +kernel
theorem dL_led_15 : decode cL_led 15 = .ok (.iconst 1, 1) := by decide +kernel
theorem dL_led_16 : decode cL_led 16 = .ok (.ireturn, 1) := by decide +kernel
theorem dL_led_17 : decode cL_led 17 = .ok (.iconst 0, 1) := by decide +kernel
theorem dL_led_18 : decode cL_led 18 = .ok (.ireturn, 1) := by decide +kernel
theorem dL_log_0 : decode cL_log 0 = .ok (.aload_n 3, 1) := by decide +kernel
theorem dL_log_1 : decode cL_log 1 = .ok (.iconst 0, 1) := by decide +kernel
theorem dL_log_2 : decode cL_log 2 = .ok (.aload_n 0, 1) := by decide +kernel
theorem dL_log_3 : decode cL_log 3 = .ok (.iload_n 1, 1) := by decide +kernel
theorem dL_log_4 : decode cL_log 4 = .ok (.iload_n 2, 1) := by decide +kernel
theorem dL_log_5 : decode cL_log 5 = .ok (.invokevirtual 120, 3) := by decide +kernel
theorem dL_log_8 : decode cL_log 8 = .ok (.i2l, 1) := by decide +kernel
theorem dL_log_9 : decode cL_log 9 = .ok (.lastore, 1) := by decide +kernel
theorem dL_log_10 : decode cL_log 10 = .ok (.goto 7, 3) := by decide +kernel
theorem dL_log_13 : decode cL_log 13 = .ok (.astore 4, 2) := by decide +kernel
theorem dL_log_15 : decode cL_log 15 = .ok (.iconst 1, 1) := by decide +kernel
theorem dL_log_16 : decode cL_log 16 = .ok (.ireturn, 1) := by decide +kernel
theorem dL_log_17 : decode cL_log 17 = .ok (.iconst 0, 1) := by decide +kernel
theorem dL_log_18 : decode cL_log 18 = .ok (.ireturn, 1) := by decide +kernel
