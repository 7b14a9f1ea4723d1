theorem dX0_measure_0 : decode cX0_measure 0 = .ok (.aload_n 0, 1) := by decide +kernel
theorem dX0_measure_1 : decode cX0_measure 1 = .ok (.iload_n 1, 1) := by decide +kernel
theorem dX0_measure_2 : decode cX0_measure 2 = .ok (.putfield 16, 3) := by decide +kernel
theorem dX0_measure_5 : decode cX0_measure 5 = .ok (.aload_n 0, 1) := by decide +kernel
theorem dX0_measure_6 : decode cX0_measure 6 = .ok (.iload_n 2, 1) := by decide +kernel
theorem dX0_measure_7 : decode cX0_measure 7 = .ok (.putfield 20, 3) := by decide +kernel
theorem dX0_measure_10 : decode cX0_measure 10 = .ok (.aload_n 0, 1) := by decide +kernel
theorem dX0_measure_11 : decode cX0_measure 11 = .ok (.iload_n 3, 1) := by decide +kernel
theorem dX0_measure_12 : decode cX0_measure 12 = .ok (.putfield 23, 3) := by decide +kernel
theorem dX0_measure_15 : decode cX0_measure 15 = .ok (.return_, 1) := by decide +kernel
theorem dX0_answer_0 : decode cX0_answer 0 = .ok (.lconst 0, 1) := by decide +kernel
theorem dX0_answer_1 : decode cX0_answer 1 = .ok (.lstore 5, 2) := by decide +kernel
theorem dX0_answer_3 : decode cX0_answer 3 = .ok (.iconst 0, 1) := by decide +kernel
theorem dX0_answer_4 : decode cX0_answer 4 = .ok (.istore 7, 2) := by decide +kernel
theorem dX0_answer_6 : decode cX0_answer 6 = .ok (.iload 7, 2) := by decide +kernel
theorem dX0_answer_8 : decode cX0_answer 8 = .ok (.iconst 1, 1) := by decide +kernel
theorem dX0_answer_9 : decode cX0_answer 9 = .ok (.iload_n 2, 1) := by decide +kernel
theorem dX0_answer_10 : decode cX0_answer 10 = .ok (.ishl, 1) := by decide +kernel
theorem dX0_answer_11 : decode cX0_answer 11 = .ok (.if_icmp .ge 56, 3) := by decide +kernel
theorem dX0_answer_14 : decode cX0_answer 14 = .ok (.aload_n 1, 1) := by decide +kernel
theorem dX0_answer_15 : decode cX0_answer 15 = .ok (.iload_n 2, 1) := by decide +kernel
theorem dX0_answer_16 : decode cX0_answer 16 = .ok (.iload 7, 2) := by decide +kernel
theorem dX0_answer_18 : decode cX0_answer 18 = .ok (.aload_n 0, 1) := by decide +kernel
theorem dX0_answer_19 : decode cX0_answer 19 = .ok (.getfield 10, 3) := by decide +kernel
theorem dX0_answer_22 : decode cX0_answer 22 = .ok (.invokevirtual 26, 3) := by decide +kernel
theorem dX0_answer_25 : decode cX0_answer 25 = .ok (.iload 7, 2) := by decide +kernel
theorem dX0_answer_27 : decode cX0_answer 27 = .ok (.invokestatic 32, 3) := by decide +kernel
theorem dX0_answer_30 : decode cX0_answer 30 = .ok (.istore 8, 2) := by decide +kernel
theorem dX0_answer_32 : decode cX0_answer 32 = .ok (.lload 5, 2) := by decide +kernel
theorem dX0_answer_34 : decode cX0_answer 34 = .ok (.iload_n 3, 1) := by decide +kernel
theorem dX0_answer_35 : decode cX0_answer 35 = .ok (.iload 8, 2) := by decide +kernel
theorem dX0_answer_37 : decode cX0_answer 37 = .ok (.invokestatic 38, 3) := by decide +kernel
theorem dX0_answer_40 : decode cX0_answer 40 = .ok (.bipush 100, 2) := by decide +kernel
theorem dX0_answer_42 : decode cX0_answer 42 = .ok (.iload_n 3, 1) := by decide +kernel
theorem dX0_answer_43 : decode cX0_answer 43 = .ok (.isub, 1) := by decide +kernel
theorem dX0_answer_44 : decode cX0_answer 44 = .ok (.iload_n 2, 1) := by decide +kernel
theorem dX0_answer_45 : decode cX0_answer 45 = .ok (.iload 8, 2) := by decide +kernel
theorem dX0_answer_47 : decode cX0_answer 47 = .ok (.isub, 1) := by decide +kernel
theorem dX0_answer_48 : decode cX0_answer 48 = .ok (.invokestatic 38, 3) := by decide +kernel
theorem dX0_answer_51 : decode cX0_answer 51 = .ok (.lmul, 1) := by decide +kernel
theorem dX0_answer_52 : decode cX0_answer 52 = .ok (.aload_n 0, 1) := by decide +kernel
theorem dX0_answer_53 : decode cX0_answer 53 = .ok (.invokevirtual 42, 3) := by decide +kernel
theorem dX0_answer_56 : decode cX0_answer 56 = .ok (.i2l, 1) := by decide +kernel
theorem dX0_answer_57 : decode cX0_answer 57 = .ok (.lmul, 1) := by decide +kernel
theorem dX0_answer_58 : decode cX0_answer 58 = .ok (.ladd, 1) := by decide +kernel
theorem dX0_answer_59 : decode cX0_answer 59 = .ok (.lstore 5, 2) := by decide +kernel
theorem dX0_answer_61 : decode cX0_answer 61 = .ok (.iinc 7 1, 3) := by decide +kernel
theorem dX0_answer_64 : decode cX0_answer 64 = .ok (.goto (-58), 3) := by decide +kernel
theorem dX0_answer_67 : decode cX0_answer 67 = .ok (.bipush 100, 2) := by decide +kernel
theorem dX0_answer_69 : decode cX0_answer 69 = .ok (.iload_n 2, 1) := by decide +kernel
theorem dX0_answer_70 : decode cX0_answer 70 = .ok (.invokestatic 38, 3) := by decide +kernel
theorem dX0_answer_73 : decode cX0_answer 73 = .ok (.lstore 7, 2) := by decide +kernel
theorem dX0_answer_75 : decode cX0_answer 75 = .ok (.lload 5, 2) := by decide +kernel
theorem dX0_answer_77 : decode cX0_answer 77 = .ok (.lload 7, 2) := by decide +kernel
theorem dX0_answer_79 : decode cX0_answer 79 = .ok (.invokestatic 46, 3) := by decide +kernel
theorem dX0_answer_82 : decode cX0_answer 82 = .ok (.lstore 9, 2) := by decide +kernel
theorem dX0_answer_84 : decode cX0_answer 84 = .ok (.lload 9, 2) := by decide +kernel
theorem dX0_answer_86 : decode cX0_answer 86 = .ok (.lconst 0, 1) := by decide +kernel
theorem dX0_answer_87 : decode cX0_answer 87 = .ok (.lcmp, 1) := by decide +kernel
theorem dX0_answer_88 : decode cX0_answer 88 = .ok (.ifCond .ne 5, 3) := by decide +kernel
theorem dX0_answer_91 : decode cX0_answer 91 = .ok (.lconst 0, 1) := by decide +kernel
theorem dX0_answer_92 : decode cX0_answer 92 = .ok (.lreturn, 1) := by decide +kernel
theorem dX0_answer_93 : decode cX0_answer 93 = .ok (.iload 4, 2) := by decide +kernel
theorem dX0_answer_95 : decode cX0_answer 95 = .ok (.ifCond .eq 11, 3) := by decide +kernel
theorem dX0_answer_98 : decode cX0_answer 98 = .ok (.lload 7, 2) := by decide +kernel
theorem dX0_answer_100 : decode cX0_answer 100 = .ok (.lload 9, 2) := by decide +kernel
theorem dX0_answer_102 : decode cX0_answer 102 = .ok (.ldiv, 1) := by decide +kernel
theorem dX0_answer_103 : decode cX0_answer 103 = .ok (.goto 8, 3) := by decide +kernel
theorem dX0_answer_106 : decode cX0_answer 106 = .ok (.lload 5, 2) := by decide +kernel
theorem dX0_answer_108 : decode cX0_answer 108 = .ok (.lload 9, 2) := by decide +kernel
theorem dX0_answer_110 : decode cX0_answer 110 = .ok (.ldiv, 1) := by decide +kernel
theorem dX0_answer_111 : decode cX0_answer 111 = .ok (.lreturn, 1) := by decide +kernel
theorem dX0_measured_0 : decode cX0_measured 0 = .ok (.aload_n 0, 1) := by decide +kernel
theorem dX0_measured_1 : decode cX0_measured 1 = .ok (.getfield 16, 3) := by decide +kernel
theorem dX0_measured_4 : decode cX0_measured 4 = .ok (.ifCond .ne 27, 3) := by decide +kernel
theorem dX0_measured_7 : decode cX0_measured 7 = .ok (.aload_n 0, 1) := by decide +kernel
theorem dX0_measured_8 : decode cX0_measured 8 = .ok (.getfield 10, 3) := by decide +kernel
theorem dX0_measured_11 : decode cX0_measured 11 = .ok (.aload_n 0, 1) := by decide +kernel
theorem dX0_measured_12 : decode cX0_measured 12 = .ok (.getfield 20, 3) := by decide +kernel
theorem dX0_measured_15 : decode cX0_measured 15 = .ok (.invokevirtual 52, 3) := by decide +kernel
theorem dX0_measured_18 : decode cX0_measured 18 = .ok (.aload_n 0, 1) := by decide +kernel
theorem dX0_measured_19 : decode cX0_measured 19 = .ok (.getfield 23, 3) := by decide +kernel
theorem dX0_measured_22 : decode cX0_measured 22 = .ok (.if_icmp .ne 7, 3) := by decide +kernel
theorem dX0_measured_25 : decode cX0_measured 25 = .ok (.iconst 1, 1) := by decide +kernel
theorem dX0_measured_26 : decode cX0_measured 26 = .ok (.goto 4, 3) := by decide +kernel
theorem dX0_measured_29 : decode cX0_measured 29 = .ok (.iconst 0, 1) := by decide +kernel
theorem dX0_measured_30 : decode cX0_measured 30 = .ok (.ireturn, 1) := by decide +kernel
theorem dX0_measured_31 : decode cX0_measured 31 = .ok (.aload_n 0, 1) := by decide +kernel
theorem dX0_measured_32 : decode cX0_measured 32 = .ok (.getfield 16, 3) := by decide +kernel
theorem dX0_measured_35 : decode cX0_measured 35 = .ok (.iconst 1, 1) := by decide +kernel
theorem dX0_measured_36 : decode cX0_measured 36 = .ok (.if_icmp .ne 19, 3) := by decide +kernel
theorem dX0_measured_39 : decode cX0_measured 39 = .ok (.aload_n 0, 1) := by decide +kernel
theorem dX0_measured_40 : decode cX0_measured 40 = .ok (.getfield 10, 3) := by decide +kernel
theorem dX0_measured_43 : decode cX0_measured 43 = .ok (.invokevirtual 55, 3) := by decide +kernel
theorem dX0_measured_46 : decode cX0_measured 46 = .ok (.ifCond .eq 7, 3) := by decide +kernel
theorem dX0_measured_49 : decode cX0_measured 49 = .ok (.iconst 1, 1) := by decide +kernel
theorem dX0_measured_50 : decode cX0_measured 50 = .ok (.goto 4, 3) := by decide +kernel
theorem dX0_measured_53 : decode cX0_measured 53 = .ok (.iconst 0, 1) := by decide +kernel
theorem dX0_measured_54 : decode cX0_measured 54 = .ok (.ireturn, 1) := by decide +kernel
theorem dX0_measured_55 : decode cX0_measured 55 = .ok (.aload_n 0, 1) := by decide +kernel
theorem dX0_measured_56 : decode cX0_measured 56 = .ok (.getfield 10, 3) := by decide +kernel
theorem dX0_measured_59 : decode cX0_measured 59 = .ok (.invokevirtual 59, 3) := by decide +kernel
theorem dX0_measured_62 : decode cX0_measured 62 = .ok (.ireturn, 1) := by decide +kernel
theorem dX0_power_0 : decode cX0_power 0 = .ok (.lconst 1, 1) := by decide +kernel
theorem dX0_power_1 : decode cX0_power 1 = .ok (.lstore_n 2, 1) := by decide +kernel
theorem dX0_power_2 : decode cX0_power 2 = .ok (.iconst 0, 1) := by decide +kernel
theorem dX0_power_3 : decode cX0_power 3 = .ok (.istore 4, 2) := by decide +kernel
theorem dX0_power_5 : decode cX0_power 5 = .ok (.iload 4, 2) := by decide +kernel
theorem dX0_power_7 : decode cX0_power 7 = .ok (.iload_n 1, 1) := by decide +kernel
theorem dX0_power_8 : decode cX0_power 8 = .ok (.if_icmp .ge 14, 3) := by decide +kernel
theorem dX0_power_11 : decode cX0_power 11 = .ok (.lload_n 2, 1) := by decide +kernel
theorem dX0_power_12 : decode cX0_power 12 = .ok (.iload_n 0, 1) := by decide +kernel
theorem dX0_power_13 : decode cX0_power 13 = .ok (.i2l, 1) := by decide +kernel
theorem dX0_power_14 : decode cX0_power 14 = .ok (.lmul, 1) := by decide +kernel
theorem dX0_power_15 : decode cX0_power 15 = .ok (.lstore_n 2, 1) := by decide +kernel
theorem dX0_power_16 : decode cX0_power 16 = .ok (.iinc 4 1, 3) := by decide +kernel
theorem dX0_power_19 : decode cX0_power 19 = .ok (.goto (-14), 3) := by decide +kernel
theorem dX0_power_22 : decode cX0_power 22 = .ok (.lload_n 2, 1) := by decide +kernel
theorem dX0_power_23 : decode cX0_power 23 = .ok (.lreturn, 1) := by decide +kernel
theorem dX0_drawn_0 : decode cX0_drawn 0 = .ok (.iconst 0, 1) := by decide +kernel
theorem dX0_drawn_1 : decode cX0_drawn 1 = .ok (.istore_n 3, 1) := by decide +kernel
theorem dX0_drawn_2 : decode cX0_drawn 2 = .ok (.iload_n 0, 1) := by decide +kernel
theorem dX0_drawn_3 : decode cX0_drawn 3 = .ok (.istore 4, 2) := by decide +kernel
theorem dX0_drawn_5 : decode cX0_drawn 5 = .ok (.iconst 0, 1) := by decide +kernel
theorem dX0_drawn_6 : decode cX0_drawn 6 = .ok (.istore 5, 2) := by decide +kernel
theorem dX0_drawn_8 : decode cX0_drawn 8 = .ok (.iload 5, 2) := by decide +kernel
theorem dX0_drawn_10 : decode cX0_drawn 10 = .ok (.iload_n 1, 1) := by decide +kernel
theorem dX0_drawn_11 : decode cX0_drawn 11 = .ok (.if_icmp .ge 38, 3) := by decide +kernel
theorem dX0_drawn_14 : decode cX0_drawn 14 = .ok (.bipush 75, 2) := by decide +kernel
theorem dX0_drawn_16 : decode cX0_drawn 16 = .ok (.iload 4, 2) := by decide +kernel
theorem dX0_drawn_18 : decode cX0_drawn 18 = .ok (.imul, 1) := by decide +kernel
theorem dX0_drawn_19 : decode cX0_drawn 19 = .ok (.bipush 74, 2) := by decide +kernel
theorem dX0_drawn_21 : decode cX0_drawn 21 = .ok (.iadd, 1) := by decide +kernel
theorem dX0_drawn_22 : decode cX0_drawn 22 = .ok (.ldc 62, 2) := by decide +kernel
theorem dX0_drawn_24 : decode cX0_drawn 24 = .ok (.irem, 1) := by decide +kernel
theorem dX0_drawn_25 : decode cX0_drawn 25 = .ok (.istore 4, 2) := by decide +kernel
theorem dX0_drawn_27 : decode cX0_drawn 27 = .ok (.iload 4, 2) := by decide +kernel
theorem dX0_drawn_29 : decode cX0_drawn 29 = .ok (.bipush 100, 2) := by decide +kernel
theorem dX0_drawn_31 : decode cX0_drawn 31 = .ok (.irem, 1) := by decide +kernel
theorem dX0_drawn_32 : decode cX0_drawn 32 = .ok (.iload_n 2, 1) := by decide +kernel
theorem dX0_drawn_33 : decode cX0_drawn 33 = .ok (.if_icmp .ge 10, 3) := by decide +kernel
theorem dX0_drawn_36 : decode cX0_drawn 36 = .ok (.iload_n 3, 1) := by decide +kernel
theorem dX0_drawn_37 : decode cX0_drawn 37 = .ok (.iconst 1, 1) := by decide +kernel
theorem dX0_drawn_38 : decode cX0_drawn 38 = .ok (.iload 5, 2) := by decide +kernel
theorem dX0_drawn_40 : decode cX0_drawn 40 = .ok (.ishl, 1) := by decide +kernel
theorem dX0_drawn_41 : decode cX0_drawn 41 = .ok (.ior, 1) := by decide +kernel
theorem dX0_drawn_42 : decode cX0_drawn 42 = .ok (.istore_n 3, 1) := by decide +kernel
theorem dX0_drawn_43 : decode cX0_drawn 43 = .ok (.iinc 5 1, 3) := by decide +kernel
theorem dX0_drawn_46 : decode cX0_drawn 46 = .ok (.goto (-38), 3) := by decide +kernel
theorem dX0_drawn_49 : decode cX0_drawn 49 = .ok (.iload_n 3, 1) := by decide +kernel
theorem dX0_drawn_50 : decode cX0_drawn 50 = .ok (.ireturn, 1) := by decide +kernel
theorem dX1_add_0 : decode cX1_add 0 = .ok (.aload_n 0, 1) := by decide +kernel
theorem dX1_add_1 : decode cX1_add 1 = .ok (.getfield 9, 3) := by decide +kernel
theorem dX1_add_4 : decode cX1_add 4 = .ok (.aload_n 0, 1) := by decide +kernel
theorem dX1_add_5 : decode cX1_add 5 = .ok (.getfield 22, 3) := by decide +kernel
theorem dX1_add_8 : decode cX1_add 8 = .ok (.iload_n 1, 1) := by decide +kernel
theorem dX1_add_9 : decode cX1_add 9 = .ok (.invokestatic 26, 3) := by decide +kernel
theorem dX1_add_12 : decode cX1_add 12 = .ok (.aload_n 0, 1) := by decide +kernel
theorem dX1_add_13 : decode cX1_add 13 = .ok (.dup, 1) := by decide +kernel
theorem dX1_add_14 : decode cX1_add 14 = .ok (.getfield 22, 3) := by decide +kernel
theorem dX1_add_17 : decode cX1_add 17 = .ok (.iconst 1, 1) := by decide +kernel
theorem dX1_add_18 : decode cX1_add 18 = .ok (.iadd, 1) := by decide +kernel
theorem dX1_add_19 : decode cX1_add 19 = .ok (.putfield 22, 3) := by decide +kernel
theorem dX1_add_22 : decode cX1_add 22 = .ok (.return_, 1) := by decide +kernel
theorem dX1_figureAt_0 : decode cX1_figureAt 0 = .ok (.aload_n 0, 1) := by decide +kernel
theorem dX1_figureAt_1 : decode cX1_figureAt 1 = .ok (.getfield 9, 3) := by decide +kernel
theorem dX1_figureAt_4 : decode cX1_figureAt 4 = .ok (.iload_n 1, 1) := by decide +kernel
theorem dX1_figureAt_5 : decode cX1_figureAt 5 = .ok (.invokestatic 32, 3) := by decide +kernel
theorem dX1_figureAt_8 : decode cX1_figureAt 8 = .ok (.ireturn, 1) := by decide +kernel
theorem dX1_walk_0 : decode cX1_walk 0 = .ok (.aload_n 3, 1) := by decide +kernel
theorem dX1_walk_1 : decode cX1_walk 1 = .ok (.iconst 0, 1) := by decide +kernel
theorem dX1_walk_2 : decode cX1_walk 2 = .ok (.iconst 1, 1) := by decide +kernel
theorem dX1_walk_3 : decode cX1_walk 3 = .ok (.invokevirtual 36, 3) := by decide +kernel
theorem dX1_walk_6 : decode cX1_walk 6 = .ok (.iconst 0, 1) := by decide +kernel
theorem dX1_walk_7 : decode cX1_walk 7 = .ok (.istore 4, 2) := by decide +kernel
theorem dX1_walk_9 : decode cX1_walk 9 = .ok (.iload 4, 2) := by decide +kernel
theorem dX1_walk_11 : decode cX1_walk 11 = .ok (.iload_n 1, 1) := by decide +kernel
theorem dX1_walk_12 : decode cX1_walk 12 = .ok (.if_icmp .ge 40, 3) := by decide +kernel
theorem dX1_walk_15 : decode cX1_walk 15 = .ok (.iload 4, 2) := by decide +kernel
theorem dX1_walk_17 : decode cX1_walk 17 = .ok (.aload_n 0, 1) := by decide +kernel
theorem dX1_walk_18 : decode cX1_walk 18 = .ok (.getfield 22, 3) := by decide +kernel
theorem dX1_walk_21 : decode cX1_walk 21 = .ok (.if_icmp .ge 31, 3) := by decide +kernel
theorem dX1_walk_24 : decode cX1_walk 24 = .ok (.iload_n 2, 1) := by decide +kernel
theorem dX1_walk_25 : decode cX1_walk 25 = .ok (.iload 4, 2) := by decide +kernel
theorem dX1_walk_27 : decode cX1_walk 27 = .ok (.invokestatic 40, 3) := by decide +kernel
theorem dX1_walk_30 : decode cX1_walk 30 = .ok (.ifCond .ne 16, 3) := by decide +kernel
theorem dX1_walk_33 : decode cX1_walk 33 = .ok (.aload_n 3, 1) := by decide +kernel
theorem dX1_walk_34 : decode cX1_walk 34 = .ok (.aload_n 0, 1) := by decide +kernel
theorem dX1_walk_35 : decode cX1_walk 35 = .ok (.getfield 9, 3) := by decide +kernel
theorem dX1_walk_38 : decode cX1_walk 38 = .ok (.iload 4, 2) := by decide +kernel
theorem dX1_walk_40 : decode cX1_walk 40 = .ok (.invokestatic 32, 3) := by decide +kernel
theorem dX1_walk_43 : decode cX1_walk 43 = .ok (.invokevirtual 44, 3) := by decide +kernel
theorem dX1_walk_46 : decode cX1_walk 46 = .ok (.iinc 4 1, 3) := by decide +kernel
theorem dX1_walk_49 : decode cX1_walk 49 = .ok (.goto (-40), 3) := by decide +kernel
theorem dX1_walk_52 : decode cX1_walk 52 = .ok (.return_, 1) := by decide +kernel
theorem dX1_danceWithin_0 : decode cX1_danceWithin 0 = .ok (.iconst 0, 1) := by decide +kernel
theorem dX1_danceWithin_1 : decode cX1_danceWithin 1 = .ok (.istore_n 2, 1) := by decide +kernel
theorem dX1_danceWithin_2 : decode cX1_danceWithin 2 = .ok (.iload_n 2, 1) := by decide +kernel
theorem dX1_danceWithin_3 : decode cX1_danceWithin 3 = .ok (.aload_n 0, 1) := by decide +kernel
theorem dX1_danceWithin_4 : decode cX1_danceWithin 4 = .ok (.getfield 22, 3) := by decide +kernel
theorem dX1_danceWithin_7 : decode cX1_danceWithin 7 = .ok (.if_icmp .ge 37, 3) := by decide +kernel
theorem dX1_danceWithin_10 : decode cX1_danceWithin 10 = .ok (.aload_n 1, 1) := by decide +kernel
theorem dX1_danceWithin_11 : decode cX1_danceWithin 11 = .ok (.aload_n 0, 1) := by decide +kernel
theorem dX1_danceWithin_12 : decode cX1_danceWithin 12 = .ok (.getfield 9, 3) := by decide +kernel
theorem dX1_danceWithin_15 : decode cX1_danceWithin 15 = .ok (.iload_n 2, 1) := by decide +kernel
theorem dX1_danceWithin_16 : decode cX1_danceWithin 16 = .ok (.invokestatic 32, 3) := by decide +kernel
theorem dX1_danceWithin_19 : decode cX1_danceWithin 19 = .ok (.invokevirtual 44, 3) := by decide +kernel
theorem dX1_danceWithin_22 : decode cX1_danceWithin 22 = .ok (.aload_n 1, 1) := by decide +kernel
theorem dX1_danceWithin_23 : decode cX1_danceWithin 23 = .ok (.getfield 48, 3) := by decide +kernel
theorem dX1_danceWithin_26 : decode cX1_danceWithin 26 = .ok (.aload_n 1, 1) := by decide +kernel
theorem dX1_danceWithin_27 : decode cX1_danceWithin 27 = .ok (.getfield 51, 3) := by decide +kernel
theorem dX1_danceWithin_30 : decode cX1_danceWithin 30 = .ok (.invokestatic 54, 3) := by decide +kernel
theorem dX1_danceWithin_33 : decode cX1_danceWithin 33 = .ok (.ifCond .eq 5, 3) := by decide +kernel
theorem dX1_danceWithin_36 : decode cX1_danceWithin 36 = .ok (.iconst 0, 1) := by decide +kernel
theorem dX1_danceWithin_37 : decode cX1_danceWithin 37 = .ok (.ireturn, 1) := by decide +kernel
theorem dX1_danceWithin_38 : decode cX1_danceWithin 38 = .ok (.iinc 2 1, 3) := by decide +kernel
theorem dX1_danceWithin_41 : decode cX1_danceWithin 41 = .ok (.goto (-39), 3) := by decide +kernel
theorem dX1_danceWithin_44 : decode cX1_danceWithin 44 = .ok (.iconst 1, 1) := by decide +kernel
theorem dX1_danceWithin_45 : decode cX1_danceWithin 45 = .ok (.ireturn, 1) := by decide +kernel
theorem dX2_clear_0 : decode cX2_clear 0 = .ok (.aload_n 0, 1) := by decide +kernel
theorem dX2_clear_1 : decode cX2_clear 1 = .ok (.iconst 0, 1) := by decide +kernel
theorem dX2_clear_2 : decode cX2_clear 2 = .ok (.putfield 37, 3) := by decide +kernel
theorem dX2_clear_5 : decode cX2_clear 5 = .ok (.aload_n 0, 1) := by decide +kernel
theorem dX2_clear_6 : decode cX2_clear 6 = .ok (.iconst 0, 1) := by decide +kernel
theorem dX2_clear_7 : decode cX2_clear 7 = .ok (.putfield 41, 3) := by decide +kernel
theorem dX2_clear_10 : decode cX2_clear 10 = .ok (.aload_n 0, 1) := by decide +kernel
theorem dX2_clear_11 : decode cX2_clear 11 = .ok (.iconst 0, 1) := by decide +kernel
theorem dX2_clear_12 : decode cX2_clear 12 = .ok (.putfield 44, 3) := by decide +kernel
theorem dX2_clear_15 : decode cX2_clear 15 = .ok (.aload_n 0, 1) := by decide +kernel
theorem dX2_clear_16 : decode cX2_clear 16 = .ok (.iconst 0, 1) := by decide +kernel
theorem dX2_clear_17 : decode cX2_clear 17 = .ok (.putfield 47, 3) := by decide +kernel
theorem dX2_clear_20 : decode cX2_clear 20 = .ok (.return_, 1) := by decide +kernel
theorem dX2_begin_0 : decode cX2_begin 0 = .ok (.iconst 0, 1) := by decide +kernel
theorem dX2_begin_1 : decode cX2_begin 1 = .ok (.istore_n 1, 1) := by decide +kernel
theorem dX2_begin_2 : decode cX2_begin 2 = .ok (.iload_n 1, 1) := by decide +kernel
theorem dX2_begin_3 : decode cX2_begin 3 = .ok (.aload_n 0, 1) := by decide +kernel
theorem dX2_begin_4 : decode cX2_begin 4 = .ok (.getfield 41, 3) := by decide +kernel
theorem dX2_begin_7 : decode cX2_begin 7 = .ok (.if_icmp .ge 32, 3) := by decide +kernel
theorem dX2_begin_10 : decode cX2_begin 10 = .ok (.aload_n 0, 1) := by decide +kernel
theorem dX2_begin_11 : decode cX2_begin 11 = .ok (.iload_n 1, 1) := by decide +kernel
theorem dX2_begin_12 : decode cX2_begin 12 = .ok (.invokevirtual 50, 3) := by decide +kernel
theorem dX2_begin_15 : decode cX2_begin 15 = .ok (.astore_n 2, 1) := by decide +kernel
theorem dX2_begin_16 : decode cX2_begin 16 = .ok (.aload_n 2, 1) := by decide +kernel
theorem dX2_begin_17 : decode cX2_begin 17 = .ok (.ifnull 16, 3) := by decide +kernel
theorem dX2_begin_20 : decode cX2_begin 20 = .ok (.aload_n 2, 1) := by decide +kernel
theorem dX2_begin_21 : decode cX2_begin 21 = .ok (.aload_n 2, 1) := by decide +kernel
theorem dX2_begin_22 : decode cX2_begin 22 = .ok (.getfield 54, 3) := by decide +kernel
theorem dX2_begin_25 : decode cX2_begin 25 = .ok (.iconst 0, 1) := by decide +kernel
theorem dX2_begin_26 : decode cX2_begin 26 = .ok (.aload_n 2, 1) := by decide +kernel
theorem dX2_begin_27 : decode cX2_begin 27 = .ok (.getfield 57, 3) := by decide +kernel
theorem dX2_begin_30 : decode cX2_begin 30 = .ok (.invokevirtual 61, 3) := by decide +kernel
theorem dX2_begin_33 : decode cX2_begin 33 = .ok (.iinc 1 1, 3) := by decide +kernel
theorem dX2_begin_36 : decode cX2_begin 36 = .ok (.goto (-34), 3) := by decide +kernel
theorem dX2_begin_39 : decode cX2_begin 39 = .ok (.return_, 1) := by decide +kernel
theorem dX2_danceAt_0 : decode cX2_danceAt 0 = .ok (.iload_n 1, 1) := by decide +kernel
theorem dX2_danceAt_1 : decode cX2_danceAt 1 = .ok (.ifCond .lt 29, 3) := by decide +kernel
theorem dX2_danceAt_4 : decode cX2_danceAt 4 = .ok (.iload_n 1, 1) := by decide +kernel
theorem dX2_danceAt_5 : decode cX2_danceAt 5 = .ok (.aload_n 0, 1) := by decide +kernel
theorem dX2_danceAt_6 : decode cX2_danceAt 6 = .ok (.getfield 41, 3) := by decide +kernel
theorem dX2_danceAt_9 : decode cX2_danceAt 9 = .ok (.if_icmp .ge 21, 3) := by decide +kernel
theorem dX2_danceAt_12 : decode cX2_danceAt 12 = .ok (.iload_n 1, 1) := by decide +kernel
theorem dX2_danceAt_13 : decode cX2_danceAt 13 = .ok (.aload_n 0, 1) := by decide +kernel
theorem dX2_danceAt_14 : decode cX2_danceAt 14 = .ok (.getfield 11, 3) := by decide +kernel
theorem dX2_danceAt_17 : decode cX2_danceAt 17 = .ok (.arraylength, 1) := by decide +kernel
theorem dX2_danceAt_18 : decode cX2_danceAt 18 = .ok (.if_icmp .ge 12, 3) := by decide +kernel
theorem dX2_danceAt_21 : decode cX2_danceAt 21 = .ok (.aload_n 0, 1) := by decide +kernel
theorem dX2_danceAt_22 : decode cX2_danceAt 22 = .ok (.getfield 11, 3) := by decide +kernel
theorem dX2_danceAt_25 : decode cX2_danceAt 25 = .ok (.iload_n 1, 1) := by decide +kernel
theorem dX2_danceAt_26 : decode cX2_danceAt 26 = .ok (.aaload, 1) := by decide +kernel
theorem dX2_danceAt_27 : decode cX2_danceAt 27 = .ok (.goto 4, 3) := by decide +kernel
theorem dX2_danceAt_30 : decode cX2_danceAt 30 = .ok (.aconst_null, 1) := by decide +kernel
theorem dX2_danceAt_31 : decode cX2_danceAt 31 = .ok (.areturn, 1) := by decide +kernel
theorem dX2_nextDance_0 : decode cX2_nextDance 0 = .ok (.aload_n 0, 1) := by decide +kernel
theorem dX2_nextDance_1 : decode cX2_nextDance 1 = .ok (.getfield 41, 3) := by decide +kernel
theorem dX2_nextDance_4 : decode cX2_nextDance 4 = .ok (.ifCond .lt 27, 3) := by decide +kernel
theorem dX2_nextDance_7 : decode cX2_nextDance 7 = .ok (.aload_n 0, 1) := by decide +kernel
theorem dX2_nextDance_8 : decode cX2_nextDance 8 = .ok (.getfield 41, 3) := by decide +kernel
theorem dX2_nextDance_11 : decode cX2_nextDance 11 = .ok (.aload_n 0, 1) := by decide +kernel
theorem dX2_nextDance_12 : decode cX2_nextDance 12 = .ok (.getfield 11, 3) := by decide +kernel
theorem dX2_nextDance_15 : decode cX2_nextDance 15 = .ok (.arraylength, 1) := by decide +kernel
theorem dX2_nextDance_16 : decode cX2_nextDance 16 = .ok (.if_icmp .ge 15, 3) := by decide +kernel
theorem dX2_nextDance_19 : decode cX2_nextDance 19 = .ok (.aload_n 0, 1) := by decide +kernel
theorem dX2_nextDance_20 : decode cX2_nextDance 20 = .ok (.getfield 11, 3) := by decide +kernel
theorem dX2_nextDance_23 : decode cX2_nextDance 23 = .ok (.aload_n 0, 1) := by decide +kernel
theorem dX2_nextDance_24 : decode cX2_nextDance 24 = .ok (.getfield 41, 3) := by decide +kernel
theorem dX2_nextDance_27 : decode cX2_nextDance 27 = .ok (.aaload, 1) := by decide +kernel
theorem dX2_nextDance_28 : decode cX2_nextDance 28 = .ok (.goto 4, 3) := by decide +kernel
theorem dX2_nextDance_31 : decode cX2_nextDance 31 = .ok (.aconst_null, 1) := by decide +kernel
theorem dX2_nextDance_32 : decode cX2_nextDance 32 = .ok (.areturn, 1) := by decide +kernel
theorem dX2_isUnsure_0 : decode cX2_isUnsure 0 = .ok (.iconst 0, 1) := by decide +kernel
theorem dX2_isUnsure_1 : decode cX2_isUnsure 1 = .ok (.istore_n 3, 1) := by decide +kernel
theorem dX2_isUnsure_2 : decode cX2_isUnsure 2 = .ok (.iload_n 3, 1) := by decide +kernel
theorem dX2_isUnsure_3 : decode cX2_isUnsure 3 = .ok (.aload_n 0, 1) := by decide +kernel
theorem dX2_isUnsure_4 : decode cX2_isUnsure 4 = .ok (.getfield 44, 3) := by decide +kernel
theorem dX2_isUnsure_7 : decode cX2_isUnsure 7 = .ok (.if_icmp .ge 35, 3) := by decide +kernel
theorem dX2_isUnsure_10 : decode cX2_isUnsure 10 = .ok (.aload_n 0, 1) := by decide +kernel
theorem dX2_isUnsure_11 : decode cX2_isUnsure 11 = .ok (.getfield 18, 3) := by decide +kernel
theorem dX2_isUnsure_14 : decode cX2_isUnsure 14 = .ok (.iload_n 3, 1) := by decide +kernel
theorem dX2_isUnsure_15 : decode cX2_isUnsure 15 = .ok (.invokestatic 65, 3) := by decide +kernel
theorem dX2_isUnsure_18 : decode cX2_isUnsure 18 = .ok (.iload_n 1, 1) := by decide +kernel
theorem dX2_isUnsure_19 : decode cX2_isUnsure 19 = .ok (.if_icmp .ne 17, 3) := by decide +kernel
theorem dX2_isUnsure_22 : decode cX2_isUnsure 22 = .ok (.aload_n 0, 1) := by decide +kernel
theorem dX2_isUnsure_23 : decode cX2_isUnsure 23 = .ok (.getfield 22, 3) := by decide +kernel
theorem dX2_isUnsure_26 : decode cX2_isUnsure 26 = .ok (.iload_n 3, 1) := by decide +kernel
theorem dX2_isUnsure_27 : decode cX2_isUnsure 27 = .ok (.invokestatic 65, 3) := by decide +kernel
theorem dX2_isUnsure_30 : decode cX2_isUnsure 30 = .ok (.iload_n 2, 1) := by decide +kernel
theorem dX2_isUnsure_31 : decode cX2_isUnsure 31 = .ok (.if_icmp .ne 5, 3) := by decide +kernel
theorem dX2_isUnsure_34 : decode cX2_isUnsure 34 = .ok (.iconst 1, 1) := by decide +kernel
theorem dX2_isUnsure_35 : decode cX2_isUnsure 35 = .ok (.ireturn, 1) := by decide +kernel
theorem dX2_isUnsure_36 : decode cX2_isUnsure 36 = .ok (.iinc 3 1, 3) := by decide +kernel
theorem dX2_isUnsure_39 : decode cX2_isUnsure 39 = .ok (.goto (-37), 3) := by decide +kernel
theorem dX2_isUnsure_42 : decode cX2_isUnsure 42 = .ok (.iconst 0, 1) := by decide +kernel
theorem dX2_isUnsure_43 : decode cX2_isUnsure 43 = .ok (.ireturn, 1) := by decide +kernel
theorem dX2_addUnsure_0 : decode cX2_addUnsure 0 = .ok (.aload_n 0, 1) := by decide +kernel
theorem dX2_addUnsure_1 : decode cX2_addUnsure 1 = .ok (.getfield 18, 3) := by decide +kernel
theorem dX2_addUnsure_4 : decode cX2_addUnsure 4 = .ok (.aload_n 0, 1) := by decide +kernel
theorem dX2_addUnsure_5 : decode cX2_addUnsure 5 = .ok (.getfield 44, 3) := by decide +kernel
theorem dX2_addUnsure_8 : decode cX2_addUnsure 8 = .ok (.iload_n 1, 1) := by decide +kernel
theorem dX2_addUnsure_9 : decode cX2_addUnsure 9 = .ok (.invokestatic 69, 3) := by decide +kernel
theorem dX2_addUnsure_12 : decode cX2_addUnsure 12 = .ok (.aload_n 0, 1) := by decide +kernel
theorem dX2_addUnsure_13 : decode cX2_addUnsure 13 = .ok (.getfield 22, 3) := by decide +kernel
theorem dX2_addUnsure_16 : decode cX2_addUnsure 16 = .ok (.aload_n 0, 1) := by decide +kernel
theorem dX2_addUnsure_17 : decode cX2_addUnsure 17 = .ok (.getfield 44, 3) := by decide +kernel
theorem dX2_addUnsure_20 : decode cX2_addUnsure 20 = .ok (.iload_n 2, 1) := by decide +kernel
theorem dX2_addUnsure_21 : decode cX2_addUnsure 21 = .ok (.invokestatic 69, 3) := by decide +kernel
theorem dX2_addUnsure_24 : decode cX2_addUnsure 24 = .ok (.aload_n 0, 1) := by decide +kernel
theorem dX2_addUnsure_25 : decode cX2_addUnsure 25 = .ok (.dup, 1) := by decide +kernel
theorem dX2_addUnsure_26 : decode cX2_addUnsure 26 = .ok (.getfield 44, 3) := by decide +kernel
theorem dX2_addUnsure_29 : decode cX2_addUnsure 29 = .ok (.iconst 1, 1) := by decide +kernel
theorem dX2_addUnsure_30 : decode cX2_addUnsure 30 = .ok (.iadd, 1) := by decide +kernel
theorem dX2_addUnsure_31 : decode cX2_addUnsure 31 = .ok (.putfield 44, 3) := by decide +kernel
theorem dX2_addUnsure_34 : decode cX2_addUnsure 34 = .ok (.return_, 1) := by decide +kernel
theorem dX2_isSeen_0 : decode cX2_isSeen 0 = .ok (.iconst 0, 1) := by decide +kernel
theorem dX2_isSeen_1 : decode cX2_isSeen 1 = .ok (.istore_n 3, 1) := by decide +kernel
theorem dX2_isSeen_2 : decode cX2_isSeen 2 = .ok (.iload_n 3, 1) := by decide +kernel
theorem dX2_isSeen_3 : decode cX2_isSeen 3 = .ok (.aload_n 0, 1) := by decide +kernel
theorem dX2_isSeen_4 : decode cX2_isSeen 4 = .ok (.getfield 47, 3) := by decide +kernel
theorem dX2_isSeen_7 : decode cX2_isSeen 7 = .ok (.if_icmp .ge 35, 3) := by decide +kernel
theorem dX2_isSeen_10 : decode cX2_isSeen 10 = .ok (.aload_n 0, 1) := by decide +kernel
theorem dX2_isSeen_11 : decode cX2_isSeen 11 = .ok (.getfield 25, 3) := by decide +kernel
theorem dX2_isSeen_14 : decode cX2_isSeen 14 = .ok (.iload_n 3, 1) := by decide +kernel
theorem dX2_isSeen_15 : decode cX2_isSeen 15 = .ok (.invokestatic 65, 3) := by decide +kernel
theorem dX2_isSeen_18 : decode cX2_isSeen 18 = .ok (.iload_n 1, 1) := by decide +kernel
theorem dX2_isSeen_19 : decode cX2_isSeen 19 = .ok (.if_icmp .ne 17, 3) := by decide +kernel
theorem dX2_isSeen_22 : decode cX2_isSeen 22 = .ok (.aload_n 0, 1) := by decide +kernel
theorem dX2_isSeen_23 : decode cX2_isSeen 23 = .ok (.getfield 28, 3) := by decide +kernel
theorem dX2_isSeen_26 : decode cX2_isSeen 26 = .ok (.iload_n 3, 1) := by decide +kernel
theorem dX2_isSeen_27 : decode cX2_isSeen 27 = .ok (.invokestatic 65, 3) := by decide +kernel
theorem dX2_isSeen_30 : decode cX2_isSeen 30 = .ok (.iload_n 2, 1) := by decide +kernel
theorem dX2_isSeen_31 : decode cX2_isSeen 31 = .ok (.if_icmp .ne 5, 3) := by decide +kernel
theorem dX2_isSeen_34 : decode cX2_isSeen 34 = .ok (.iconst 1, 1) := by decide +kernel
theorem dX2_isSeen_35 : decode cX2_isSeen 35 = .ok (.ireturn, 1) := by decide +kernel
theorem dX2_isSeen_36 : decode cX2_isSeen 36 = .ok (.iinc 3 1, 3) := by decide +kernel
theorem dX2_isSeen_39 : decode cX2_isSeen 39 = .ok (.goto (-37), 3) := by decide +kernel
theorem dX2_isSeen_42 : decode cX2_isSeen 42 = .ok (.iconst 0, 1) := by decide +kernel
theorem dX2_isSeen_43 : decode cX2_isSeen 43 = .ok (.ireturn, 1) := by decide +kernel
theorem dX2_addSeen_0 : decode cX2_addSeen 0 = .ok (.aload_n 0, 1) := by decide +kernel
theorem dX2_addSeen_1 : decode cX2_addSeen 1 = .ok (.getfield 25, 3) := by decide +kernel
theorem dX2_addSeen_4 : decode cX2_addSeen 4 = .ok (.aload_n 0, 1) := by decide +kernel
theorem dX2_addSeen_5 : decode cX2_addSeen 5 = .ok (.getfield 47, 3) := by decide +kernel
theorem dX2_addSeen_8 : decode cX2_addSeen 8 = .ok (.iload_n 1, 1) := by decide +kernel
theorem dX2_addSeen_9 : decode cX2_addSeen 9 = .ok (.invokestatic 69, 3) := by decide +kernel
theorem dX2_addSeen_12 : decode cX2_addSeen 12 = .ok (.aload_n 0, 1) := by decide +kernel
theorem dX2_addSeen_13 : decode cX2_addSeen 13 = .ok (.getfield 28, 3) := by decide +kernel
theorem dX2_addSeen_16 : decode cX2_addSeen 16 = .ok (.aload_n 0, 1) := by decide +kernel
theorem dX2_addSeen_17 : decode cX2_addSeen 17 = .ok (.getfield 47, 3) := by decide +kernel
theorem dX2_addSeen_20 : decode cX2_addSeen 20 = .ok (.iload_n 2, 1) := by decide +kernel
theorem dX2_addSeen_21 : decode cX2_addSeen 21 = .ok (.invokestatic 69, 3) := by decide +kernel
theorem dX2_addSeen_24 : decode cX2_addSeen 24 = .ok (.aload_n 0, 1) := by decide +kernel
theorem dX2_addSeen_25 : decode cX2_addSeen 25 = .ok (.getfield 31, 3) := by decide +kernel
theorem dX2_addSeen_28 : decode cX2_addSeen 28 = .ok (.aload_n 0, 1) := by decide +kernel
theorem dX2_addSeen_29 : decode cX2_addSeen 29 = .ok (.getfield 47, 3) := by decide +kernel
theorem dX2_addSeen_32 : decode cX2_addSeen 32 = .ok (.iload_n 3, 1) := by decide +kernel
theorem dX2_addSeen_33 : decode cX2_addSeen 33 = .ok (.invokestatic 69, 3) := by decide +kernel
theorem dX2_addSeen_36 : decode cX2_addSeen 36 = .ok (.aload_n 0, 1) := by decide +kernel
theorem dX2_addSeen_37 : decode cX2_addSeen 37 = .ok (.getfield 34, 3) := by decide +kernel
theorem dX2_addSeen_40 : decode cX2_addSeen 40 = .ok (.aload_n 0, 1) := by decide +kernel
theorem dX2_addSeen_41 : decode cX2_addSeen 41 = .ok (.getfield 47, 3) := by decide +kernel
theorem dX2_addSeen_44 : decode cX2_addSeen 44 = .ok (.iload 4, 2) := by decide +kernel
theorem dX2_addSeen_46 : decode cX2_addSeen 46 = .ok (.invokestatic 69, 3) := by decide +kernel
theorem dX2_addSeen_49 : decode cX2_addSeen 49 = .ok (.aload_n 0, 1) := by decide +kernel
theorem dX2_addSeen_50 : decode cX2_addSeen 50 = .ok (.dup, 1) := by decide +kernel
theorem dX2_addSeen_51 : decode cX2_addSeen 51 = .ok (.getfield 47, 3) := by decide +kernel
theorem dX2_addSeen_54 : decode cX2_addSeen 54 = .ok (.iconst 1, 1) := by decide +kernel
theorem dX2_addSeen_55 : decode cX2_addSeen 55 = .ok (.iadd, 1) := by decide +kernel
theorem dX2_addSeen_56 : decode cX2_addSeen 56 = .ok (.putfield 47, 3) := by decide +kernel
theorem dX2_addSeen_59 : decode cX2_addSeen 59 = .ok (.return_, 1) := by decide +kernel
theorem dX2_sets_0 : decode cX2_sets 0 = .ok (.iconst 1, 1) := by decide +kernel
theorem dX2_sets_1 : decode cX2_sets 1 = .ok (.aload_n 0, 1) := by decide +kernel
theorem dX2_sets_2 : decode cX2_sets 2 = .ok (.getfield 44, 3) := by decide +kernel
theorem dX2_sets_5 : decode cX2_sets 5 = .ok (.ishl, 1) := by decide +kernel
theorem dX2_sets_6 : decode cX2_sets 6 = .ok (.ireturn, 1) := by decide +kernel
theorem dX2_fitting_0 : decode cX2_fitting 0 = .ok (.iconst 0, 1) := by decide +kernel
theorem dX2_fitting_1 : decode cX2_fitting 1 = .ok (.istore_n 2, 1) := by decide +kernel
theorem dX2_fitting_2 : decode cX2_fitting 2 = .ok (.iconst 0, 1) := by decide +kernel
theorem dX2_fitting_3 : decode cX2_fitting 3 = .ok (.istore_n 3, 1) := by decide +kernel
theorem dX2_fitting_4 : decode cX2_fitting 4 = .ok (.iload_n 3, 1) := by decide +kernel
theorem dX2_fitting_5 : decode cX2_fitting 5 = .ok (.aload_n 0, 1) := by decide +kernel
theorem dX2_fitting_6 : decode cX2_fitting 6 = .ok (.invokevirtual 73, 3) := by decide +kernel
theorem dX2_fitting_9 : decode cX2_fitting 9 = .ok (.if_icmp .ge 24, 3) := by decide +kernel
theorem dX2_fitting_12 : decode cX2_fitting 12 = .ok (.aload_n 0, 1) := by decide +kernel
theorem dX2_fitting_13 : decode cX2_fitting 13 = .ok (.iload_n 3, 1) := by decide +kernel
theorem dX2_fitting_14 : decode cX2_fitting 14 = .ok (.aload_n 1, 1) := by decide +kernel
theorem dX2_fitting_15 : decode cX2_fitting 15 = .ok (.invokevirtual 77, 3) := by decide +kernel
theorem dX2_fitting_18 : decode cX2_fitting 18 = .ok (.ifCond .eq 9, 3) := by decide +kernel
theorem dX2_fitting_21 : decode cX2_fitting 21 = .ok (.iload_n 2, 1) := by decide +kernel
theorem dX2_fitting_22 : decode cX2_fitting 22 = .ok (.iconst 1, 1) := by decide +kernel
theorem dX2_fitting_23 : decode cX2_fitting 23 = .ok (.iload_n 3, 1) := by decide +kernel
theorem dX2_fitting_24 : decode cX2_fitting 24 = .ok (.ishl, 1) := by decide +kernel
theorem dX2_fitting_25 : decode cX2_fitting 25 = .ok (.ior, 1) := by decide +kernel
theorem dX2_fitting_26 : decode cX2_fitting 26 = .ok (.istore_n 2, 1) := by decide +kernel
theorem dX2_fitting_27 : decode cX2_fitting 27 = .ok (.iinc 3 1, 3) := by decide +kernel
theorem dX2_fitting_30 : decode cX2_fitting 30 = .ok (.goto (-26), 3) := by decide +kernel
theorem dX2_fitting_33 : decode cX2_fitting 33 = .ok (.iload_n 2, 1) := by decide +kernel
theorem dX2_fitting_34 : decode cX2_fitting 34 = .ok (.ireturn, 1) := by decide +kernel
theorem dX2_isFitting_0 : decode cX2_isFitting 0 = .ok (.iconst 0, 1) := by decide +kernel
theorem dX2_isFitting_1 : decode cX2_isFitting 1 = .ok (.istore_n 3, 1) := by decide +kernel
theorem dX2_isFitting_2 : decode cX2_isFitting 2 = .ok (.iload_n 3, 1) := by decide +kernel
theorem dX2_isFitting_3 : decode cX2_isFitting 3 = .ok (.aload_n 0, 1) := by decide +kernel
theorem dX2_isFitting_4 : decode cX2_isFitting 4 = .ok (.getfield 47, 3) := by decide +kernel
theorem dX2_isFitting_7 : decode cX2_isFitting 7 = .ok (.if_icmp .ge 21, 3) := by decide +kernel
theorem dX2_isFitting_10 : decode cX2_isFitting 10 = .ok (.aload_n 0, 1) := by decide +kernel
theorem dX2_isFitting_11 : decode cX2_isFitting 11 = .ok (.iload_n 3, 1) := by decide +kernel
theorem dX2_isFitting_12 : decode cX2_isFitting 12 = .ok (.iload_n 1, 1) := by decide +kernel
theorem dX2_isFitting_13 : decode cX2_isFitting 13 = .ok (.aload_n 2, 1) := by decide +kernel
theorem dX2_isFitting_14 : decode cX2_isFitting 14 = .ok (.invokevirtual 81, 3) := by decide +kernel
theorem dX2_isFitting_17 : decode cX2_isFitting 17 = .ok (.ifCond .ne 5, 3) := by decide +kernel
theorem dX2_isFitting_20 : decode cX2_isFitting 20 = .ok (.iconst 0, 1) := by decide +kernel
theorem dX2_isFitting_21 : decode cX2_isFitting 21 = .ok (.ireturn, 1) := by decide +kernel
theorem dX2_isFitting_22 : decode cX2_isFitting 22 = .ok (.iinc 3 1, 3) := by decide +kernel
theorem dX2_isFitting_25 : decode cX2_isFitting 25 = .ok (.goto (-23), 3) := by decide +kernel
theorem dX2_isFitting_28 : decode cX2_isFitting 28 = .ok (.iconst 1, 1) := by decide +kernel
theorem dX2_isFitting_29 : decode cX2_isFitting 29 = .ok (.ireturn, 1) := by decide +kernel
theorem dX2_wentSo_0 : decode cX2_wentSo 0 = .ok (.aload_n 0, 1) := by decide +kernel
theorem dX2_wentSo_1 : decode cX2_wentSo 1 = .ok (.getfield 25, 3) := by decide +kernel
theorem dX2_wentSo_4 : decode cX2_wentSo 4 = .ok (.iload_n 1, 1) := by decide +kernel
theorem dX2_wentSo_5 : decode cX2_wentSo 5 = .ok (.invokestatic 65, 3) := by decide +kernel
theorem dX2_wentSo_8 : decode cX2_wentSo 8 = .ok (.istore 4, 2) := by decide +kernel
theorem dX2_wentSo_10 : decode cX2_wentSo 10 = .ok (.aload_n 0, 1) := by decide +kernel
theorem dX2_wentSo_11 : decode cX2_wentSo 11 = .ok (.iload 4, 2) := by decide +kernel
theorem dX2_wentSo_13 : decode cX2_wentSo 13 = .ok (.invokevirtual 50, 3) := by decide +kernel
theorem dX2_wentSo_16 : decode cX2_wentSo 16 = .ok (.astore 5, 2) := by decide +kernel
theorem dX2_wentSo_18 : decode cX2_wentSo 18 = .ok (.aload 5, 2) := by decide +kernel
theorem dX2_wentSo_20 : decode cX2_wentSo 20 = .ok (.ifnonnull 5, 3) := by decide +kernel
theorem dX2_wentSo_23 : decode cX2_wentSo 23 = .ok (.iconst 0, 1) := by decide +kernel
theorem dX2_wentSo_24 : decode cX2_wentSo 24 = .ok (.ireturn, 1) := by decide +kernel
theorem dX2_wentSo_25 : decode cX2_wentSo 25 = .ok (.aload 5, 2) := by decide +kernel
theorem dX2_wentSo_27 : decode cX2_wentSo 27 = .ok (.aload_n 0, 1) := by decide +kernel
theorem dX2_wentSo_28 : decode cX2_wentSo 28 = .ok (.getfield 28, 3) := by decide +kernel
theorem dX2_wentSo_31 : decode cX2_wentSo 31 = .ok (.iload_n 1, 1) := by decide +kernel
theorem dX2_wentSo_32 : decode cX2_wentSo 32 = .ok (.invokestatic 65, 3) := by decide +kernel
theorem dX2_wentSo_35 : decode cX2_wentSo 35 = .ok (.aload_n 0, 1) := by decide +kernel
theorem dX2_wentSo_36 : decode cX2_wentSo 36 = .ok (.iload 4, 2) := by decide +kernel
theorem dX2_wentSo_38 : decode cX2_wentSo 38 = .ok (.iload_n 2, 1) := by decide +kernel
theorem dX2_wentSo_39 : decode cX2_wentSo 39 = .ok (.invokevirtual 85, 3) := by decide +kernel
theorem dX2_wentSo_42 : decode cX2_wentSo 42 = .ok (.aload_n 3, 1) := by decide +kernel
theorem dX2_wentSo_43 : decode cX2_wentSo 43 = .ok (.invokevirtual 61, 3) := by decide +kernel
theorem dX2_wentSo_46 : decode cX2_wentSo 46 = .ok (.aload_n 3, 1) := by decide +kernel
theorem dX2_wentSo_47 : decode cX2_wentSo 47 = .ok (.aload_n 0, 1) := by decide +kernel
theorem dX2_wentSo_48 : decode cX2_wentSo 48 = .ok (.getfield 31, 3) := by decide +kernel
theorem dX2_wentSo_51 : decode cX2_wentSo 51 = .ok (.iload_n 1, 1) := by decide +kernel
theorem dX2_wentSo_52 : decode cX2_wentSo 52 = .ok (.invokestatic 65, 3) := by decide +kernel
theorem dX2_wentSo_55 : decode cX2_wentSo 55 = .ok (.invokevirtual 89, 3) := by decide +kernel
theorem dX2_wentSo_58 : decode cX2_wentSo 58 = .ok (.aload_n 0, 1) := by decide +kernel
theorem dX2_wentSo_59 : decode cX2_wentSo 59 = .ok (.getfield 34, 3) := by decide +kernel
theorem dX2_wentSo_62 : decode cX2_wentSo 62 = .ok (.iload_n 1, 1) := by decide +kernel
theorem dX2_wentSo_63 : decode cX2_wentSo 63 = .ok (.invokestatic 65, 3) := by decide +kernel
theorem dX2_wentSo_66 : decode cX2_wentSo 66 = .ok (.if_icmp .ne 7, 3) := by decide +kernel
theorem dX2_wentSo_69 : decode cX2_wentSo 69 = .ok (.iconst 1, 1) := by decide +kernel
theorem dX2_wentSo_70 : decode cX2_wentSo 70 = .ok (.goto 4, 3) := by decide +kernel
theorem dX2_wentSo_73 : decode cX2_wentSo 73 = .ok (.iconst 0, 1) := by decide +kernel
theorem dX2_wentSo_74 : decode cX2_wentSo 74 = .ok (.ireturn, 1) := by decide +kernel
theorem dX2_leftOut_0 : decode cX2_leftOut 0 = .ok (.iconst 0, 1) := by decide +kernel
theorem dX2_leftOut_1 : decode cX2_leftOut 1 = .ok (.istore_n 3, 1) := by decide +kernel
theorem dX2_leftOut_2 : decode cX2_leftOut 2 = .ok (.iconst 0, 1) := by decide +kernel
theorem dX2_leftOut_3 : decode cX2_leftOut 3 = .ok (.istore 4, 2) := by decide +kernel
theorem dX2_leftOut_5 : decode cX2_leftOut 5 = .ok (.iload 4, 2) := by decide +kernel
theorem dX2_leftOut_7 : decode cX2_leftOut 7 = .ok (.aload_n 0, 1) := by decide +kernel
theorem dX2_leftOut_8 : decode cX2_leftOut 8 = .ok (.getfield 44, 3) := by decide +kernel
theorem dX2_leftOut_11 : decode cX2_leftOut 11 = .ok (.if_icmp .ge 45, 3) := by decide +kernel
theorem dX2_leftOut_14 : decode cX2_leftOut 14 = .ok (.iload_n 2, 1) := by decide +kernel
theorem dX2_leftOut_15 : decode cX2_leftOut 15 = .ok (.iload 4, 2) := by decide +kernel
theorem dX2_leftOut_17 : decode cX2_leftOut 17 = .ok (.invokestatic 95, 3) := by decide +kernel
theorem dX2_leftOut_20 : decode cX2_leftOut 20 = .ok (.ifCond .eq 30, 3) := by decide +kernel
theorem dX2_leftOut_23 : decode cX2_leftOut 23 = .ok (.aload_n 0, 1) := by decide +kernel
theorem dX2_leftOut_24 : decode cX2_leftOut 24 = .ok (.getfield 18, 3) := by decide +kernel
theorem dX2_leftOut_27 : decode cX2_leftOut 27 = .ok (.iload 4, 2) := by decide +kernel
theorem dX2_leftOut_29 : decode cX2_leftOut 29 = .ok (.invokestatic 65, 3) := by decide +kernel
theorem dX2_leftOut_32 : decode cX2_leftOut 32 = .ok (.iload_n 1, 1) := by decide +kernel
theorem dX2_leftOut_33 : decode cX2_leftOut 33 = .ok (.if_icmp .ne 17, 3) := by decide +kernel
theorem dX2_leftOut_36 : decode cX2_leftOut 36 = .ok (.iload_n 3, 1) := by decide +kernel
theorem dX2_leftOut_37 : decode cX2_leftOut 37 = .ok (.iconst 1, 1) := by decide +kernel
theorem dX2_leftOut_38 : decode cX2_leftOut 38 = .ok (.aload_n 0, 1) := by decide +kernel
theorem dX2_leftOut_39 : decode cX2_leftOut 39 = .ok (.getfield 22, 3) := by decide +kernel
theorem dX2_leftOut_42 : decode cX2_leftOut 42 = .ok (.iload 4, 2) := by decide +kernel
theorem dX2_leftOut_44 : decode cX2_leftOut 44 = .ok (.invokestatic 65, 3) := by decide +kernel
theorem dX2_leftOut_47 : decode cX2_leftOut 47 = .ok (.ishl, 1) := by decide +kernel
theorem dX2_leftOut_48 : decode cX2_leftOut 48 = .ok (.ior, 1) := by decide +kernel
theorem dX2_leftOut_49 : decode cX2_leftOut 49 = .ok (.istore_n 3, 1) := by decide +kernel
theorem dX2_leftOut_50 : decode cX2_leftOut 50 = .ok (.iinc 4 1, 3) := by decide +kernel
theorem dX2_leftOut_53 : decode cX2_leftOut 53 = .ok (.goto (-48), 3) := by decide +kernel
theorem dX2_leftOut_56 : decode cX2_leftOut 56 = .ok (.iload_n 3, 1) := by decide +kernel
theorem dX2_leftOut_57 : decode cX2_leftOut 57 = .ok (.ireturn, 1) := by decide +kernel
theorem dX2_bestAsked_0 : decode cX2_bestAsked 0 = .ok (.iload_n 1, 1) := by decide +kernel
theorem dX2_bestAsked_1 : decode cX2_bestAsked 1 = .ok (.ifCond .ne 6, 3) := by decide +kernel
theorem dX2_bestAsked_4 : decode cX2_bestAsked 4 = .ok (.bipush (-2), 2) := by decide +kernel
theorem dX2_bestAsked_6 : decode cX2_bestAsked 6 = .ok (.ireturn, 1) := by decide +kernel
theorem dX2_bestAsked_7 : decode cX2_bestAsked 7 = .ok (.bipush (-2), 2) := by decide +kernel
theorem dX2_bestAsked_9 : decode cX2_bestAsked 9 = .ok (.istore_n 2, 1) := by decide +kernel
theorem dX2_bestAsked_10 : decode cX2_bestAsked 10 = .ok (.ldc 99, 2) := by decide +kernel
theorem dX2_bestAsked_12 : decode cX2_bestAsked 12 = .ok (.istore_n 3, 1) := by decide +kernel
theorem dX2_bestAsked_13 : decode cX2_bestAsked 13 = .ok (.iconst 0, 1) := by decide +kernel
theorem dX2_bestAsked_14 : decode cX2_bestAsked 14 = .ok (.istore 4, 2) := by decide +kernel
theorem dX2_bestAsked_16 : decode cX2_bestAsked 16 = .ok (.iload 4, 2) := by decide +kernel
theorem dX2_bestAsked_18 : decode cX2_bestAsked 18 = .ok (.aload_n 0, 1) := by decide +kernel
theorem dX2_bestAsked_19 : decode cX2_bestAsked 19 = .ok (.getfield 44, 3) := by decide +kernel
theorem dX2_bestAsked_22 : decode cX2_bestAsked 22 = .ok (.if_icmp .ge 30, 3) := by decide +kernel
theorem dX2_bestAsked_25 : decode cX2_bestAsked 25 = .ok (.aload_n 0, 1) := by decide +kernel
theorem dX2_bestAsked_26 : decode cX2_bestAsked 26 = .ok (.iload_n 1, 1) := by decide +kernel
theorem dX2_bestAsked_27 : decode cX2_bestAsked 27 = .ok (.iload 4, 2) := by decide +kernel
theorem dX2_bestAsked_29 : decode cX2_bestAsked 29 = .ok (.invokevirtual 100, 3) := by decide +kernel
theorem dX2_bestAsked_32 : decode cX2_bestAsked 32 = .ok (.istore 5, 2) := by decide +kernel
theorem dX2_bestAsked_34 : decode cX2_bestAsked 34 = .ok (.iload 5, 2) := by decide +kernel
theorem dX2_bestAsked_36 : decode cX2_bestAsked 36 = .ok (.iload_n 3, 1) := by decide +kernel
theorem dX2_bestAsked_37 : decode cX2_bestAsked 37 = .ok (.if_icmp .ge 9, 3) := by decide +kernel
theorem dX2_bestAsked_40 : decode cX2_bestAsked 40 = .ok (.iload 5, 2) := by decide +kernel
theorem dX2_bestAsked_42 : decode cX2_bestAsked 42 = .ok (.istore_n 3, 1) := by decide +kernel
theorem dX2_bestAsked_43 : decode cX2_bestAsked 43 = .ok (.iload 4, 2) := by decide +kernel
theorem dX2_bestAsked_45 : decode cX2_bestAsked 45 = .ok (.istore_n 2, 1) := by decide +kernel
theorem dX2_bestAsked_46 : decode cX2_bestAsked 46 = .ok (.iinc 4 1, 3) := by decide +kernel
theorem dX2_bestAsked_49 : decode cX2_bestAsked 49 = .ok (.goto (-33), 3) := by decide +kernel
theorem dX2_bestAsked_52 : decode cX2_bestAsked 52 = .ok (.iload_n 2, 1) := by decide +kernel
theorem dX2_bestAsked_53 : decode cX2_bestAsked 53 = .ok (.ireturn, 1) := by decide +kernel
theorem dX2_leftBy_0 : decode cX2_leftBy 0 = .ok (.iconst 0, 1) := by decide +kernel
theorem dX2_leftBy_1 : decode cX2_leftBy 1 = .ok (.istore_n 3, 1) := by decide +kernel
theorem dX2_leftBy_2 : decode cX2_leftBy 2 = .ok (.iconst 0, 1) := by decide +kernel
theorem dX2_leftBy_3 : decode cX2_leftBy 3 = .ok (.istore 4, 2) := by decide +kernel
theorem dX2_leftBy_5 : decode cX2_leftBy 5 = .ok (.iload 4, 2) := by decide +kernel
theorem dX2_leftBy_7 : decode cX2_leftBy 7 = .ok (.aload_n 0, 1) := by decide +kernel
theorem dX2_leftBy_8 : decode cX2_leftBy 8 = .ok (.invokevirtual 73, 3) := by decide +kernel
theorem dX2_leftBy_11 : decode cX2_leftBy 11 = .ok (.if_icmp .ge 30, 3) := by decide +kernel
theorem dX2_leftBy_14 : decode cX2_leftBy 14 = .ok (.iload_n 1, 1) := by decide +kernel
theorem dX2_leftBy_15 : decode cX2_leftBy 15 = .ok (.iload 4, 2) := by decide +kernel
theorem dX2_leftBy_17 : decode cX2_leftBy 17 = .ok (.invokestatic 95, 3) := by decide +kernel
theorem dX2_leftBy_20 : decode cX2_leftBy 20 = .ok (.ifCond .eq 15, 3) := by decide +kernel
theorem dX2_leftBy_23 : decode cX2_leftBy 23 = .ok (.iload 4, 2) := by decide +kernel
theorem dX2_leftBy_25 : decode cX2_leftBy 25 = .ok (.iload_n 2, 1) := by decide +kernel
theorem dX2_leftBy_26 : decode cX2_leftBy 26 = .ok (.invokestatic 95, 3) := by decide +kernel
theorem dX2_leftBy_29 : decode cX2_leftBy 29 = .ok (.ifCond .eq 6, 3) := by decide +kernel
theorem dX2_leftBy_32 : decode cX2_leftBy 32 = .ok (.iinc 3 1, 3) := by decide +kernel
theorem dX2_leftBy_35 : decode cX2_leftBy 35 = .ok (.iinc 4 1, 3) := by decide +kernel
theorem dX2_leftBy_38 : decode cX2_leftBy 38 = .ok (.goto (-33), 3) := by decide +kernel
theorem dX2_leftBy_41 : decode cX2_leftBy 41 = .ok (.iload_n 3, 1) := by decide +kernel
theorem dX2_leftBy_42 : decode cX2_leftBy 42 = .ok (.iload_n 1, 1) := by decide +kernel
theorem dX2_leftBy_43 : decode cX2_leftBy 43 = .ok (.invokestatic 103, 3) := by decide +kernel
theorem dX2_leftBy_46 : decode cX2_leftBy 46 = .ok (.iload_n 3, 1) := by decide +kernel
theorem dX2_leftBy_47 : decode cX2_leftBy 47 = .ok (.isub, 1) := by decide +kernel
theorem dX2_leftBy_48 : decode cX2_leftBy 48 = .ok (.invokestatic 108, 3) := by decide +kernel
theorem dX2_leftBy_51 : decode cX2_leftBy 51 = .ok (.ireturn, 1) := by decide +kernel
theorem dX3_climb_0 : decode cX3_climb 0 = .ok (.aload_n 0, 1) := by decide +kernel
theorem dX3_climb_1 : decode cX3_climb 1 = .ok (.iconst 0, 1) := by decide +kernel
theorem dX3_climb_2 : decode cX3_climb 2 = .ok (.putfield 9, 3) := by decide +kernel
theorem dX3_climb_5 : decode cX3_climb 5 = .ok (.aload_n 0, 1) := by decide +kernel
theorem dX3_climb_6 : decode cX3_climb 6 = .ok (.iconst 1, 1) := by decide +kernel
theorem dX3_climb_7 : decode cX3_climb 7 = .ok (.putfield 15, 3) := by decide +kernel
theorem dX3_climb_10 : decode cX3_climb 10 = .ok (.iconst 1, 1) := by decide +kernel
theorem dX3_climb_11 : decode cX3_climb 11 = .ok (.istore_n 3, 1) := by decide +kernel
theorem dX3_climb_12 : decode cX3_climb 12 = .ok (.iload_n 1, 1) := by decide +kernel
theorem dX3_climb_13 : decode cX3_climb 13 = .ok (.istore 4, 2) := by decide +kernel
theorem dX3_climb_15 : decode cX3_climb 15 = .ok (.iconst 0, 1) := by decide +kernel
theorem dX3_climb_16 : decode cX3_climb 16 = .ok (.istore 5, 2) := by decide +kernel
theorem dX3_climb_18 : decode cX3_climb 18 = .ok (.iload 5, 2) := by decide +kernel
theorem dX3_climb_20 : decode cX3_climb 20 = .ok (.ldc 18, 2) := by decide +kernel
theorem dX3_climb_22 : decode cX3_climb 22 = .ok (.if_icmp .ge 83, 3) := by decide +kernel
theorem dX3_climb_25 : decode cX3_climb 25 = .ok (.iload 5, 2) := by decide +kernel
theorem dX3_climb_27 : decode cX3_climb 27 = .ok (.iload_n 2, 1) := by decide +kernel
theorem dX3_climb_28 : decode cX3_climb 28 = .ok (.if_icmp .ge 77, 3) := by decide +kernel
theorem dX3_climb_31 : decode cX3_climb 31 = .ok (.aload_n 0, 1) := by decide +kernel
theorem dX3_climb_32 : decode cX3_climb 32 = .ok (.getfield 9, 3) := by decide +kernel
theorem dX3_climb_35 : decode cX3_climb 35 = .ok (.aload_n 0, 1) := by decide +kernel
theorem dX3_climb_36 : decode cX3_climb 36 = .ok (.getfield 15, 3) := by decide +kernel
theorem dX3_climb_39 : decode cX3_climb 39 = .ok (.if_icmp .ge 66, 3) := by decide +kernel
theorem dX3_climb_42 : decode cX3_climb 42 = .ok (.iload 4, 2) := by decide +kernel
theorem dX3_climb_44 : decode cX3_climb 44 = .ok (.ifCond .le 61, 3) := by decide +kernel
theorem dX3_climb_47 : decode cX3_climb 47 = .ok (.iload_n 1, 1) := by decide +kernel
theorem dX3_climb_48 : decode cX3_climb 48 = .ok (.aload_n 0, 1) := by decide +kernel
theorem dX3_climb_49 : decode cX3_climb 49 = .ok (.getfield 15, 3) := by decide +kernel
theorem dX3_climb_52 : decode cX3_climb 52 = .ok (.iadd, 1) := by decide +kernel
theorem dX3_climb_53 : decode cX3_climb 53 = .ok (.iload 4, 2) := by decide +kernel
theorem dX3_climb_55 : decode cX3_climb 55 = .ok (.idiv, 1) := by decide +kernel
theorem dX3_climb_56 : decode cX3_climb 56 = .ok (.istore 6, 2) := by decide +kernel
theorem dX3_climb_58 : decode cX3_climb 58 = .ok (.iload 6, 2) := by decide +kernel
theorem dX3_climb_60 : decode cX3_climb 60 = .ok (.iload_n 3, 1) := by decide +kernel
theorem dX3_climb_61 : decode cX3_climb 61 = .ok (.imul, 1) := by decide +kernel
theorem dX3_climb_62 : decode cX3_climb 62 = .ok (.aload_n 0, 1) := by decide +kernel
theorem dX3_climb_63 : decode cX3_climb 63 = .ok (.getfield 9, 3) := by decide +kernel
theorem dX3_climb_66 : decode cX3_climb 66 = .ok (.isub, 1) := by decide +kernel
theorem dX3_climb_67 : decode cX3_climb 67 = .ok (.istore 7, 2) := by decide +kernel
theorem dX3_climb_69 : decode cX3_climb 69 = .ok (.iload 6, 2) := by decide +kernel
theorem dX3_climb_71 : decode cX3_climb 71 = .ok (.iload 4, 2) := by decide +kernel
theorem dX3_climb_73 : decode cX3_climb 73 = .ok (.imul, 1) := by decide +kernel
theorem dX3_climb_74 : decode cX3_climb 74 = .ok (.aload_n 0, 1) := by decide +kernel
theorem dX3_climb_75 : decode cX3_climb 75 = .ok (.getfield 15, 3) := by decide +kernel
theorem dX3_climb_78 : decode cX3_climb 78 = .ok (.isub, 1) := by decide +kernel
theorem dX3_climb_79 : decode cX3_climb 79 = .ok (.istore 8, 2) := by decide +kernel
theorem dX3_climb_81 : decode cX3_climb 81 = .ok (.aload_n 0, 1) := by decide +kernel
theorem dX3_climb_82 : decode cX3_climb 82 = .ok (.iload_n 3, 1) := by decide +kernel
theorem dX3_climb_83 : decode cX3_climb 83 = .ok (.putfield 9, 3) := by decide +kernel
theorem dX3_climb_86 : decode cX3_climb 86 = .ok (.aload_n 0, 1) := by decide +kernel
theorem dX3_climb_87 : decode cX3_climb 87 = .ok (.iload 4, 2) := by decide +kernel
theorem dX3_climb_89 : decode cX3_climb 89 = .ok (.putfield 15, 3) := by decide +kernel
theorem dX3_climb_92 : decode cX3_climb 92 = .ok (.iload 7, 2) := by decide +kernel
theorem dX3_climb_94 : decode cX3_climb 94 = .ok (.istore_n 3, 1) := by decide +kernel
theorem dX3_climb_95 : decode cX3_climb 95 = .ok (.iload 8, 2) := by decide +kernel
theorem dX3_climb_97 : decode cX3_climb 97 = .ok (.istore 4, 2) := by decide +kernel
theorem dX3_climb_99 : decode cX3_climb 99 = .ok (.iinc 5 1, 3) := by decide +kernel
theorem dX3_climb_102 : decode cX3_climb 102 = .ok (.goto (-84), 3) := by decide +kernel
theorem dX3_climb_105 : decode cX3_climb 105 = .ok (.iload 5, 2) := by decide +kernel
theorem dX3_climb_107 : decode cX3_climb 107 = .ok (.ireturn, 1) := by decide +kernel
theorem dX3_between_0 : decode cX3_between 0 = .ok (.aload_n 0, 1) := by decide +kernel
theorem dX3_between_1 : decode cX3_between 1 = .ok (.getfield 19, 3) := by decide +kernel
theorem dX3_between_4 : decode cX3_between 4 = .ok (.iconst 1, 1) := by decide +kernel
theorem dX3_between_5 : decode cX3_between 5 = .ok (.if_icmp .lt 11, 3) := by decide +kernel
theorem dX3_between_8 : decode cX3_between 8 = .ok (.aload_n 1, 1) := by decide +kernel
theorem dX3_between_9 : decode cX3_between 9 = .ok (.getfield 19, 3) := by decide +kernel
theorem dX3_between_12 : decode cX3_between 12 = .ok (.iconst 1, 1) := by decide +kernel
theorem dX3_between_13 : decode cX3_between 13 = .ok (.if_icmp .ge 4, 3) := by decide +kernel
theorem dX3_between_16 : decode cX3_between 16 = .ok (.return_, 1) := by decide +kernel
theorem dX3_between_17 : decode cX3_between 17 = .ok (.iconst 1, 1) := by decide +kernel
theorem dX3_between_18 : decode cX3_between 18 = .ok (.istore_n 3, 1) := by decide +kernel
theorem dX3_between_19 : decode cX3_between 19 = .ok (.iload_n 3, 1) := by decide +kernel
theorem dX3_between_20 : decode cX3_between 20 = .ok (.aload_n 0, 1) := by decide +kernel
theorem dX3_between_21 : decode cX3_between 21 = .ok (.getfield 19, 3) := by decide +kernel
theorem dX3_between_24 : decode cX3_between 24 = .ok (.aload_n 1, 1) := by decide +kernel
theorem dX3_between_25 : decode cX3_between 25 = .ok (.getfield 19, 3) := by decide +kernel
theorem dX3_between_28 : decode cX3_between 28 = .ok (.iadd, 1) := by decide +kernel
theorem dX3_between_29 : decode cX3_between 29 = .ok (.if_icmp .gt 65, 3) := by decide +kernel
theorem dX3_between_32 : decode cX3_between 32 = .ok (.aload_n 0, 1) := by decide +kernel
theorem dX3_between_33 : decode cX3_between 33 = .ok (.getfield 22, 3) := by decide +kernel
theorem dX3_between_36 : decode cX3_between 36 = .ok (.iload_n 3, 1) := by decide +kernel
theorem dX3_between_37 : decode cX3_between 37 = .ok (.imul, 1) := by decide +kernel
theorem dX3_between_38 : decode cX3_between 38 = .ok (.aload_n 0, 1) := by decide +kernel
theorem dX3_between_39 : decode cX3_between 39 = .ok (.getfield 19, 3) := by decide +kernel
theorem dX3_between_42 : decode cX3_between 42 = .ok (.invokestatic 23, 3) := by decide +kernel
theorem dX3_between_45 : decode cX3_between 45 = .ok (.iconst 1, 1) := by decide +kernel
theorem dX3_between_46 : decode cX3_between 46 = .ok (.iadd, 1) := by decide +kernel
theorem dX3_between_47 : decode cX3_between 47 = .ok (.istore 4, 2) := by decide +kernel
theorem dX3_between_49 : decode cX3_between 49 = .ok (.aload_n 1, 1) := by decide +kernel
theorem dX3_between_50 : decode cX3_between 50 = .ok (.getfield 22, 3) := by decide +kernel
theorem dX3_between_53 : decode cX3_between 53 = .ok (.ineg, 1) := by decide +kernel
theorem dX3_between_54 : decode cX3_between 54 = .ok (.iload_n 3, 1) := by decide +kernel
theorem dX3_between_55 : decode cX3_between 55 = .ok (.imul, 1) := by decide +kernel
theorem dX3_between_56 : decode cX3_between 56 = .ok (.aload_n 1, 1) := by decide +kernel
theorem dX3_between_57 : decode cX3_between 57 = .ok (.getfield 19, 3) := by decide +kernel
theorem dX3_between_60 : decode cX3_between 60 = .ok (.invokestatic 23, 3) := by decide +kernel
theorem dX3_between_63 : decode cX3_between 63 = .ok (.ineg, 1) := by decide +kernel
theorem dX3_between_64 : decode cX3_between 64 = .ok (.iconst 1, 1) := by decide +kernel
theorem dX3_between_65 : decode cX3_between 65 = .ok (.isub, 1) := by decide +kernel
theorem dX3_between_66 : decode cX3_between 66 = .ok (.istore 5, 2) := by decide +kernel
theorem dX3_between_68 : decode cX3_between 68 = .ok (.iload 4, 2) := by decide +kernel
theorem dX3_between_70 : decode cX3_between 70 = .ok (.iload 5, 2) := by decide +kernel
theorem dX3_between_72 : decode cX3_between 72 = .ok (.if_icmp .gt 16, 3) := by decide +kernel
theorem dX3_between_75 : decode cX3_between 75 = .ok (.aload_n 2, 1) := by decide +kernel
theorem dX3_between_76 : decode cX3_between 76 = .ok (.iload 4, 2) := by decide +kernel
theorem dX3_between_78 : decode cX3_between 78 = .ok (.iload 5, 2) := by decide +kernel
theorem dX3_between_80 : decode cX3_between 80 = .ok (.invokestatic 29, 3) := by decide +kernel
theorem dX3_between_83 : decode cX3_between 83 = .ok (.iload_n 3, 1) := by decide +kernel
theorem dX3_between_84 : decode cX3_between 84 = .ok (.invokevirtual 32, 3) := by decide +kernel
theorem dX3_between_87 : decode cX3_between 87 = .ok (.return_, 1) := by decide +kernel
theorem dX3_between_88 : decode cX3_between 88 = .ok (.iinc 3 1, 3) := by decide +kernel
theorem dX3_between_91 : decode cX3_between 91 = .ok (.goto (-72), 3) := by decide +kernel
theorem dX3_between_94 : decode cX3_between 94 = .ok (.return_, 1) := by decide +kernel
theorem dX3_nearestToZero_0 : decode cX3_nearestToZero 0 = .ok (.iload_n 0, 1) := by decide +kernel
theorem dX3_nearestToZero_1 : decode cX3_nearestToZero 1 = .ok (.ifCond .le 5, 3) := by decide +kernel
theorem dX3_nearestToZero_4 : decode cX3_nearestToZero 4 = .ok (.iload_n 0, 1) := by decide +kernel
theorem dX3_nearestToZero_5 : decode cX3_nearestToZero 5 = .ok (.ireturn, 1) := by decide +kernel
theorem dX3_nearestToZero_6 : decode cX3_nearestToZero 6 = .ok (.iload_n 1, 1) := by decide +kernel
theorem dX3_nearestToZero_7 : decode cX3_nearestToZero 7 = .ok (.ifCond .ge 7, 3) := by decide +kernel
theorem dX3_nearestToZero_10 : decode cX3_nearestToZero 10 = .ok (.iload_n 1, 1) := by decide +kernel
theorem dX3_nearestToZero_11 : decode cX3_nearestToZero 11 = .ok (.goto 4, 3) := by decide +kernel
theorem dX3_nearestToZero_14 : decode cX3_nearestToZero 14 = .ok (.iconst 0, 1) := by decide +kernel
theorem dX3_nearestToZero_15 : decode cX3_nearestToZero 15 = .ok (.ireturn, 1) := by decide +kernel
theorem dX4_forgetAll_0 : decode cX4_forgetAll 0 = .ok (.aload_n 0, 1) := by decide +kernel
theorem dX4_forgetAll_1 : decode cX4_forgetAll 1 = .ok (.iconst 0, 1) := by decide +kernel
theorem dX4_forgetAll_2 : decode cX4_forgetAll 2 = .ok (.putfield 27, 3) := by decide +kernel
theorem dX4_forgetAll_5 : decode cX4_forgetAll 5 = .ok (.aload_n 0, 1) := by decide +kernel
theorem dX4_forgetAll_6 : decode cX4_forgetAll 6 = .ok (.iconst 0, 1) := by decide +kernel
theorem dX4_forgetAll_7 : decode cX4_forgetAll 7 = .ok (.putfield 31, 3) := by decide +kernel
theorem dX4_forgetAll_10 : decode cX4_forgetAll 10 = .ok (.return_, 1) := by decide +kernel
theorem dX4_keep_0 : decode cX4_keep 0 = .ok (.aload_n 0, 1) := by decide +kernel
theorem dX4_keep_1 : decode cX4_keep 1 = .ok (.getfield 27, 3) := by decide +kernel
theorem dX4_keep_4 : decode cX4_keep 4 = .ok (.bipush 16, 2) := by decide +kernel
theorem dX4_keep_6 : decode cX4_keep 6 = .ok (.if_icmp .lt 7, 3) := by decide +kernel
theorem dX4_keep_9 : decode cX4_keep 9 = .ok (.aload_n 0, 1) := by decide +kernel
theorem dX4_keep_10 : decode cX4_keep 10 = .ok (.invokevirtual 34, 3) := by decide +kernel
theorem dX4_keep_13 : decode cX4_keep 13 = .ok (.aload_n 0, 1) := by decide +kernel
theorem dX4_keep_14 : decode cX4_keep 14 = .ok (.getfield 11, 3) := by decide +kernel
theorem dX4_keep_17 : decode cX4_keep 17 = .ok (.aload_n 0, 1) := by decide +kernel
theorem dX4_keep_18 : decode cX4_keep 18 = .ok (.getfield 27, 3) := by decide +kernel
theorem dX4_keep_21 : decode cX4_keep 21 = .ok (.iload_n 1, 1) := by decide +kernel
theorem dX4_keep_22 : decode cX4_keep 22 = .ok (.invokestatic 37, 3) := by decide +kernel
theorem dX4_keep_25 : decode cX4_keep 25 = .ok (.aload_n 0, 1) := by decide +kernel
theorem dX4_keep_26 : decode cX4_keep 26 = .ok (.getfield 15, 3) := by decide +kernel
theorem dX4_keep_29 : decode cX4_keep 29 = .ok (.aload_n 0, 1) := by decide +kernel
theorem dX4_keep_30 : decode cX4_keep 30 = .ok (.getfield 27, 3) := by decide +kernel
theorem dX4_keep_33 : decode cX4_keep 33 = .ok (.aload_n 2, 1) := by decide +kernel
theorem dX4_keep_34 : decode cX4_keep 34 = .ok (.getfield 41, 3) := by decide +kernel
theorem dX4_keep_37 : decode cX4_keep 37 = .ok (.invokestatic 37, 3) := by decide +kernel
theorem dX4_keep_40 : decode cX4_keep 40 = .ok (.aload_n 0, 1) := by decide +kernel
theorem dX4_keep_41 : decode cX4_keep 41 = .ok (.getfield 18, 3) := by decide +kernel
theorem dX4_keep_44 : decode cX4_keep 44 = .ok (.aload_n 0, 1) := by decide +kernel
theorem dX4_keep_45 : decode cX4_keep 45 = .ok (.getfield 27, 3) := by decide +kernel
theorem dX4_keep_48 : decode cX4_keep 48 = .ok (.aload_n 2, 1) := by decide +kernel
theorem dX4_keep_49 : decode cX4_keep 49 = .ok (.getfield 46, 3) := by decide +kernel
theorem dX4_keep_52 : decode cX4_keep 52 = .ok (.invokestatic 37, 3) := by decide +kernel
theorem dX4_keep_55 : decode cX4_keep 55 = .ok (.aload_n 0, 1) := by decide +kernel
theorem dX4_keep_56 : decode cX4_keep 56 = .ok (.dup, 1) := by decide +kernel
theorem dX4_keep_57 : decode cX4_keep 57 = .ok (.getfield 27, 3) := by decide +kernel
theorem dX4_keep_60 : decode cX4_keep 60 = .ok (.iconst 1, 1) := by decide +kernel
theorem dX4_keep_61 : decode cX4_keep 61 = .ok (.iadd, 1) := by decide +kernel
theorem dX4_keep_62 : decode cX4_keep 62 = .ok (.putfield 27, 3) := by decide +kernel
theorem dX4_keep_65 : decode cX4_keep 65 = .ok (.return_, 1) := by decide +kernel
theorem dX4_forgetEldest_0 : decode cX4_forgetEldest 0 = .ok (.iconst 1, 1) := by decide +kernel
theorem dX4_forgetEldest_1 : decode cX4_forgetEldest 1 = .ok (.istore_n 1, 1) := by decide +kernel
theorem dX4_forgetEldest_2 : decode cX4_forgetEldest 2 = .ok (.iload_n 1, 1) := by decide +kernel
theorem dX4_forgetEldest_3 : decode cX4_forgetEldest 3 = .ok (.aload_n 0, 1) := by decide +kernel
theorem dX4_forgetEldest_4 : decode cX4_forgetEldest 4 = .ok (.getfield 27, 3) := by decide +kernel
theorem dX4_forgetEldest_7 : decode cX4_forgetEldest 7 = .ok (.if_icmp .ge 63, 3) := by decide +kernel
theorem dX4_forgetEldest_10 : decode cX4_forgetEldest 10 = .ok (.aload_n 0, 1) := by decide +kernel
theorem dX4_forgetEldest_11 : decode cX4_forgetEldest 11 = .ok (.getfield 11, 3) := by decide +kernel
theorem dX4_forgetEldest_14 : decode cX4_forgetEldest 14 = .ok (.iload_n 1, 1) := by decide +kernel
theorem dX4_forgetEldest_15 : decode cX4_forgetEldest 15 = .ok (.iconst 1, 1) := by decide +kernel
theorem dX4_forgetEldest_16 : decode cX4_forgetEldest 16 = .ok (.isub, 1) := by decide +kernel
theorem dX4_forgetEldest_17 : decode cX4_forgetEldest 17 = .ok (.aload_n 0, 1) := by decide +kernel
theorem dX4_forgetEldest_18 : decode cX4_forgetEldest 18 = .ok (.getfield 11, 3) := by decide +kernel
theorem dX4_forgetEldest_21 : decode cX4_forgetEldest 21 = .ok (.iload_n 1, 1) := by decide +kernel
theorem dX4_forgetEldest_22 : decode cX4_forgetEldest 22 = .ok (.invokestatic 49, 3) := by decide +kernel
theorem dX4_forgetEldest_25 : decode cX4_forgetEldest 25 = .ok (.invokestatic 37, 3) := by decide +kernel
theorem dX4_forgetEldest_28 : decode cX4_forgetEldest 28 = .ok (.aload_n 0, 1) := by decide +kernel
theorem dX4_forgetEldest_29 : decode cX4_forgetEldest 29 = .ok (.getfield 15, 3) := by decide +kernel
theorem dX4_forgetEldest_32 : decode cX4_forgetEldest 32 = .ok (.iload_n 1, 1) := by decide +kernel
theorem dX4_forgetEldest_33 : decode cX4_forgetEldest 33 = .ok (.iconst 1, 1) := by decide +kernel
theorem dX4_forgetEldest_34 : decode cX4_forgetEldest 34 = .ok (.isub, 1) := by decide +kernel
theorem dX4_forgetEldest_35 : decode cX4_forgetEldest 35 = .ok (.aload_n 0, 1) := by decide +kernel
theorem dX4_forgetEldest_36 : decode cX4_forgetEldest 36 = .ok (.getfield 15, 3) := by decide +kernel
theorem dX4_forgetEldest_39 : decode cX4_forgetEldest 39 = .ok (.iload_n 1, 1) := by decide +kernel
theorem dX4_forgetEldest_40 : decode cX4_forgetEldest 40 = .ok (.invokestatic 49, 3) := by decide +kernel
theorem dX4_forgetEldest_43 : decode cX4_forgetEldest 43 = .ok (.invokestatic 37, 3) := by decide +kernel
theorem dX4_forgetEldest_46 : decode cX4_forgetEldest 46 = .ok (.aload_n 0, 1) := by decide +kernel
theorem dX4_forgetEldest_47 : decode cX4_forgetEldest 47 = .ok (.getfield 18, 3) := by decide +kernel
theorem dX4_forgetEldest_50 : decode cX4_forgetEldest 50 = .ok (.iload_n 1, 1) := by decide +kernel
theorem dX4_forgetEldest_51 : decode cX4_forgetEldest 51 = .ok (.iconst 1, 1) := by decide +kernel
theorem dX4_forgetEldest_52 : decode cX4_forgetEldest 52 = .ok (.isub, 1) := by decide +kernel
theorem dX4_forgetEldest_53 : decode cX4_forgetEldest 53 = .ok (.aload_n 0, 1) := by decide +kernel
theorem dX4_forgetEldest_54 : decode cX4_forgetEldest 54 = .ok (.getfield 18, 3) := by decide +kernel
theorem dX4_forgetEldest_57 : decode cX4_forgetEldest 57 = .ok (.iload_n 1, 1) := by decide +kernel
theorem dX4_forgetEldest_58 : decode cX4_forgetEldest 58 = .ok (.invokestatic 49, 3) := by decide +kernel
theorem dX4_forgetEldest_61 : decode cX4_forgetEldest 61 = .ok (.invokestatic 37, 3) := by decide +kernel
theorem dX4_forgetEldest_64 : decode cX4_forgetEldest 64 = .ok (.iinc 1 1, 3) := by decide +kernel
theorem dX4_forgetEldest_67 : decode cX4_forgetEldest 67 = .ok (.goto (-65), 3) := by decide +kernel
theorem dX4_forgetEldest_70 : decode cX4_forgetEldest 70 = .ok (.aload_n 0, 1) := by decide +kernel
theorem dX4_forgetEldest_71 : decode cX4_forgetEldest 71 = .ok (.dup, 1) := by decide +kernel
theorem dX4_forgetEldest_72 : decode cX4_forgetEldest 72 = .ok (.getfield 27, 3) := by decide +kernel
theorem dX4_forgetEldest_75 : decode cX4_forgetEldest 75 = .ok (.iconst 1, 1) := by decide +kernel
theorem dX4_forgetEldest_76 : decode cX4_forgetEldest 76 = .ok (.isub, 1) := by decide +kernel
theorem dX4_forgetEldest_77 : decode cX4_forgetEldest 77 = .ok (.putfield 27, 3) := by decide +kernel
theorem dX4_forgetEldest_80 : decode cX4_forgetEldest 80 = .ok (.return_, 1) := by decide +kernel
theorem dX4_takeBack_0 : decode cX4_takeBack 0 = .ok (.aload_n 0, 1) := by decide +kernel
theorem dX4_takeBack_1 : decode cX4_takeBack 1 = .ok (.dup, 1) := by decide +kernel
theorem dX4_takeBack_2 : decode cX4_takeBack 2 = .ok (.getfield 27, 3) := by decide +kernel
theorem dX4_takeBack_5 : decode cX4_takeBack 5 = .ok (.iconst 1, 1) := by decide +kernel
theorem dX4_takeBack_6 : decode cX4_takeBack 6 = .ok (.isub, 1) := by decide +kernel
theorem dX4_takeBack_7 : decode cX4_takeBack 7 = .ok (.putfield 27, 3) := by decide +kernel
theorem dX4_takeBack_10 : decode cX4_takeBack 10 = .ok (.aload_n 1, 1) := by decide +kernel
theorem dX4_takeBack_11 : decode cX4_takeBack 11 = .ok (.aload_n 0, 1) := by decide +kernel
theorem dX4_takeBack_12 : decode cX4_takeBack 12 = .ok (.getfield 11, 3) := by decide +kernel
theorem dX4_takeBack_15 : decode cX4_takeBack 15 = .ok (.aload_n 0, 1) := by decide +kernel
theorem dX4_takeBack_16 : decode cX4_takeBack 16 = .ok (.getfield 27, 3) := by decide +kernel
theorem dX4_takeBack_19 : decode cX4_takeBack 19 = .ok (.invokestatic 49, 3) := by decide +kernel
theorem dX4_takeBack_22 : decode cX4_takeBack 22 = .ok (.invokevirtual 53, 3) := by decide +kernel
theorem dX4_takeBack_25 : decode cX4_takeBack 25 = .ok (.astore_n 2, 1) := by decide +kernel
theorem dX4_takeBack_26 : decode cX4_takeBack 26 = .ok (.aload_n 2, 1) := by decide +kernel
theorem dX4_takeBack_27 : decode cX4_takeBack 27 = .ok (.ifnull 32, 3) := by decide +kernel
theorem dX4_takeBack_30 : decode cX4_takeBack 30 = .ok (.aload_n 2, 1) := by decide +kernel
theorem dX4_takeBack_31 : decode cX4_takeBack 31 = .ok (.getfield 59, 3) := by decide +kernel
theorem dX4_takeBack_34 : decode cX4_takeBack 34 = .ok (.aload_n 0, 1) := by decide +kernel
theorem dX4_takeBack_35 : decode cX4_takeBack 35 = .ok (.getfield 15, 3) := by decide +kernel
theorem dX4_takeBack_38 : decode cX4_takeBack 38 = .ok (.aload_n 0, 1) := by decide +kernel
theorem dX4_takeBack_39 : decode cX4_takeBack 39 = .ok (.getfield 27, 3) := by decide +kernel
theorem dX4_takeBack_42 : decode cX4_takeBack 42 = .ok (.invokestatic 49, 3) := by decide +kernel
theorem dX4_takeBack_45 : decode cX4_takeBack 45 = .ok (.aload_n 0, 1) := by decide +kernel
theorem dX4_takeBack_46 : decode cX4_takeBack 46 = .ok (.getfield 18, 3) := by decide +kernel
theorem dX4_takeBack_49 : decode cX4_takeBack 49 = .ok (.aload_n 0, 1) := by decide +kernel
theorem dX4_takeBack_50 : decode cX4_takeBack 50 = .ok (.getfield 27, 3) := by decide +kernel
theorem dX4_takeBack_53 : decode cX4_takeBack 53 = .ok (.invokestatic 49, 3) := by decide +kernel
theorem dX4_takeBack_56 : decode cX4_takeBack 56 = .ok (.invokevirtual 65, 3) := by decide +kernel
theorem dX4_takeBack_59 : decode cX4_takeBack 59 = .ok (.return_, 1) := by decide +kernel
theorem dX4_draw_0 : decode cX4_draw 0 = .ok (.iconst 0, 1) := by decide +kernel
theorem dX4_draw_1 : decode cX4_draw 1 = .ok (.istore_n 2, 1) := by decide +kernel
theorem dX4_draw_2 : decode cX4_draw 2 = .ok (.iload_n 2, 1) := by decide +kernel
theorem dX4_draw_3 : decode cX4_draw 3 = .ok (.aload_n 1, 1) := by decide +kernel
theorem dX4_draw_4 : decode cX4_draw 4 = .ok (.getfield 69, 3) := by decide +kernel
theorem dX4_draw_7 : decode cX4_draw 7 = .ok (.if_icmp .ge 63, 3) := by decide +kernel
theorem dX4_draw_10 : decode cX4_draw 10 = .ok (.aload_n 1, 1) := by decide +kernel
theorem dX4_draw_11 : decode cX4_draw 11 = .ok (.iload_n 2, 1) := by decide +kernel
theorem dX4_draw_12 : decode cX4_draw 12 = .ok (.invokevirtual 53, 3) := by decide +kernel
theorem dX4_draw_15 : decode cX4_draw 15 = .ok (.astore_n 3, 1) := by decide +kernel
theorem dX4_draw_16 : decode cX4_draw 16 = .ok (.aload_n 3, 1) := by decide +kernel
theorem dX4_draw_17 : decode cX4_draw 17 = .ok (.ifnull 47, 3) := by decide +kernel
theorem dX4_draw_20 : decode cX4_draw 20 = .ok (.aload_n 0, 1) := by decide +kernel
theorem dX4_draw_21 : decode cX4_draw 21 = .ok (.getfield 21, 3) := by decide +kernel
theorem dX4_draw_24 : decode cX4_draw 24 = .ok (.aload_n 0, 1) := by decide +kernel
theorem dX4_draw_25 : decode cX4_draw 25 = .ok (.getfield 31, 3) := by decide +kernel
theorem dX4_draw_28 : decode cX4_draw 28 = .ok (.iconst 5, 1) := by decide +kernel
theorem dX4_draw_29 : decode cX4_draw 29 = .ok (.imul, 1) := by decide +kernel
theorem dX4_draw_30 : decode cX4_draw 30 = .ok (.iload_n 2, 1) := by decide +kernel
theorem dX4_draw_31 : decode cX4_draw 31 = .ok (.iadd, 1) := by decide +kernel
theorem dX4_draw_32 : decode cX4_draw 32 = .ok (.aload_n 3, 1) := by decide +kernel
theorem dX4_draw_33 : decode cX4_draw 33 = .ok (.getfield 59, 3) := by decide +kernel
theorem dX4_draw_36 : decode cX4_draw 36 = .ok (.getfield 41, 3) := by decide +kernel
theorem dX4_draw_39 : decode cX4_draw 39 = .ok (.invokestatic 37, 3) := by decide +kernel
theorem dX4_draw_42 : decode cX4_draw 42 = .ok (.aload_n 0, 1) := by decide +kernel
theorem dX4_draw_43 : decode cX4_draw 43 = .ok (.getfield 24, 3) := by decide +kernel
theorem dX4_draw_46 : decode cX4_draw 46 = .ok (.aload_n 0, 1) := by decide +kernel
theorem dX4_draw_47 : decode cX4_draw 47 = .ok (.getfield 31, 3) := by decide +kernel
theorem dX4_draw_50 : decode cX4_draw 50 = .ok (.iconst 5, 1) := by decide +kernel
theorem dX4_draw_51 : decode cX4_draw 51 = .ok (.imul, 1) := by decide +kernel
theorem dX4_draw_52 : decode cX4_draw 52 = .ok (.iload_n 2, 1) := by decide +kernel
theorem dX4_draw_53 : decode cX4_draw 53 = .ok (.iadd, 1) := by decide +kernel
theorem dX4_draw_54 : decode cX4_draw 54 = .ok (.aload_n 3, 1) := by decide +kernel
theorem dX4_draw_55 : decode cX4_draw 55 = .ok (.getfield 59, 3) := by decide +kernel
theorem dX4_draw_58 : decode cX4_draw 58 = .ok (.getfield 46, 3) := by decide +kernel
theorem dX4_draw_61 : decode cX4_draw 61 = .ok (.invokestatic 37, 3) := by decide +kernel
theorem dX4_draw_64 : decode cX4_draw 64 = .ok (.iinc 2 1, 3) := by decide +kernel
theorem dX4_draw_67 : decode cX4_draw 67 = .ok (.goto (-65), 3) := by decide +kernel
theorem dX4_draw_70 : decode cX4_draw 70 = .ok (.aload_n 0, 1) := by decide +kernel
theorem dX4_draw_71 : decode cX4_draw 71 = .ok (.dup, 1) := by decide +kernel
theorem dX4_draw_72 : decode cX4_draw 72 = .ok (.getfield 31, 3) := by decide +kernel
theorem dX4_draw_75 : decode cX4_draw 75 = .ok (.iconst 1, 1) := by decide +kernel
theorem dX4_draw_76 : decode cX4_draw 76 = .ok (.iadd, 1) := by decide +kernel
theorem dX4_draw_77 : decode cX4_draw 77 = .ok (.putfield 31, 3) := by decide +kernel
theorem dX4_draw_80 : decode cX4_draw 80 = .ok (.return_, 1) := by decide +kernel
theorem dX4_goBack_0 : decode cX4_goBack 0 = .ok (.iconst 0, 1) := by decide +kernel
theorem dX4_goBack_1 : decode cX4_goBack 1 = .ok (.istore_n 3, 1) := by decide +kernel
theorem dX4_goBack_2 : decode cX4_goBack 2 = .ok (.iload_n 3, 1) := by decide +kernel
theorem dX4_goBack_3 : decode cX4_goBack 3 = .ok (.aload_n 2, 1) := by decide +kernel
theorem dX4_goBack_4 : decode cX4_goBack 4 = .ok (.getfield 69, 3) := by decide +kernel
theorem dX4_goBack_7 : decode cX4_goBack 7 = .ok (.if_icmp .ge 54, 3) := by decide +kernel
theorem dX4_goBack_10 : decode cX4_goBack 10 = .ok (.aload_n 2, 1) := by decide +kernel
theorem dX4_goBack_11 : decode cX4_goBack 11 = .ok (.iload_n 3, 1) := by decide +kernel
theorem dX4_goBack_12 : decode cX4_goBack 12 = .ok (.invokevirtual 53, 3) := by decide +kernel
theorem dX4_goBack_15 : decode cX4_goBack 15 = .ok (.astore 4, 2) := by decide +kernel
theorem dX4_goBack_17 : decode cX4_goBack 17 = .ok (.aload 4, 2) := by decide +kernel
theorem dX4_goBack_19 : decode cX4_goBack 19 = .ok (.ifnull 36, 3) := by decide +kernel
theorem dX4_goBack_22 : decode cX4_goBack 22 = .ok (.iload_n 1, 1) := by decide +kernel
theorem dX4_goBack_23 : decode cX4_goBack 23 = .ok (.iconst 5, 1) := by decide +kernel
theorem dX4_goBack_24 : decode cX4_goBack 24 = .ok (.imul, 1) := by decide +kernel
theorem dX4_goBack_25 : decode cX4_goBack 25 = .ok (.iload_n 3, 1) := by decide +kernel
theorem dX4_goBack_26 : decode cX4_goBack 26 = .ok (.iadd, 1) := by decide +kernel
theorem dX4_goBack_27 : decode cX4_goBack 27 = .ok (.istore 5, 2) := by decide +kernel
theorem dX4_goBack_29 : decode cX4_goBack 29 = .ok (.aload 4, 2) := by decide +kernel
theorem dX4_goBack_31 : decode cX4_goBack 31 = .ok (.getfield 59, 3) := by decide +kernel
theorem dX4_goBack_34 : decode cX4_goBack 34 = .ok (.aload_n 0, 1) := by decide +kernel
theorem dX4_goBack_35 : decode cX4_goBack 35 = .ok (.getfield 21, 3) := by decide +kernel
theorem dX4_goBack_38 : decode cX4_goBack 38 = .ok (.iload 5, 2) := by decide +kernel
theorem dX4_goBack_40 : decode cX4_goBack 40 = .ok (.invokestatic 49, 3) := by decide +kernel
theorem dX4_goBack_43 : decode cX4_goBack 43 = .ok (.aload_n 0, 1) := by decide +kernel
theorem dX4_goBack_44 : decode cX4_goBack 44 = .ok (.getfield 24, 3) := by decide +kernel
theorem dX4_goBack_47 : decode cX4_goBack 47 = .ok (.iload 5, 2) := by decide +kernel
theorem dX4_goBack_49 : decode cX4_goBack 49 = .ok (.invokestatic 49, 3) := by decide +kernel
theorem dX4_goBack_52 : decode cX4_goBack 52 = .ok (.invokevirtual 65, 3) := by decide +kernel
theorem dX4_goBack_55 : decode cX4_goBack 55 = .ok (.iinc 3 1, 3) := by decide +kernel
theorem dX4_goBack_58 : decode cX4_goBack 58 = .ok (.goto (-56), 3) := by decide +kernel
theorem dX4_goBack_61 : decode cX4_goBack 61 = .ok (.aload_n 0, 1) := by decide +kernel
theorem dX4_goBack_62 : decode cX4_goBack 62 = .ok (.iconst 0, 1) := by decide +kernel
theorem dX4_goBack_63 : decode cX4_goBack 63 = .ok (.putfield 27, 3) := by decide +kernel
theorem dX4_goBack_66 : decode cX4_goBack 66 = .ok (.return_, 1) := by decide +kernel
theorem dX5_follow_0 : decode cX5_follow 0 = .ok (.aload_n 0, 1) := by decide +kernel
theorem dX5_follow_1 : decode cX5_follow 1 = .ok (.iconst 1, 1) := by decide +kernel
theorem dX5_follow_2 : decode cX5_follow 2 = .ok (.putfield 9, 3) := by decide +kernel
theorem dX5_follow_5 : decode cX5_follow 5 = .ok (.aload_n 0, 1) := by decide +kernel
theorem dX5_follow_6 : decode cX5_follow 6 = .ok (.iconst 0, 1) := by decide +kernel
theorem dX5_follow_7 : decode cX5_follow 7 = .ok (.putfield 15, 3) := by decide +kernel
theorem dX5_follow_10 : decode cX5_follow 10 = .ok (.aload_n 0, 1) := by decide +kernel
theorem dX5_follow_11 : decode cX5_follow 11 = .ok (.iconst 0, 1) := by decide +kernel
theorem dX5_follow_12 : decode cX5_follow 12 = .ok (.putfield 18, 3) := by decide +kernel
theorem dX5_follow_15 : decode cX5_follow 15 = .ok (.aload_n 0, 1) := by decide +kernel
theorem dX5_follow_16 : decode cX5_follow 16 = .ok (.iconst 1, 1) := by decide +kernel
theorem dX5_follow_17 : decode cX5_follow 17 = .ok (.putfield 21, 3) := by decide +kernel
theorem dX5_follow_20 : decode cX5_follow 20 = .ok (.iconst 0, 1) := by decide +kernel
theorem dX5_follow_21 : decode cX5_follow 21 = .ok (.istore_n 2, 1) := by decide +kernel
theorem dX5_follow_22 : decode cX5_follow 22 = .ok (.iload_n 2, 1) := by decide +kernel
theorem dX5_follow_23 : decode cX5_follow 23 = .ok (.aload_n 1, 1) := by decide +kernel
theorem dX5_follow_24 : decode cX5_follow 24 = .ok (.getfield 24, 3) := by decide +kernel
theorem dX5_follow_27 : decode cX5_follow 27 = .ok (.if_icmp .ge 18, 3) := by decide +kernel
theorem dX5_follow_30 : decode cX5_follow 30 = .ok (.aload_n 0, 1) := by decide +kernel
theorem dX5_follow_31 : decode cX5_follow 31 = .ok (.aload_n 1, 1) := by decide +kernel
theorem dX5_follow_32 : decode cX5_follow 32 = .ok (.iload_n 2, 1) := by decide +kernel
theorem dX5_follow_33 : decode cX5_follow 33 = .ok (.invokevirtual 29, 3) := by decide +kernel
theorem dX5_follow_36 : decode cX5_follow 36 = .ok (.invokevirtual 33, 3) := by decide +kernel
theorem dX5_follow_39 : decode cX5_follow 39 = .ok (.iinc 2 1, 3) := by decide +kernel
theorem dX5_follow_42 : decode cX5_follow 42 = .ok (.goto (-20), 3) := by decide +kernel
theorem dX5_follow_45 : decode cX5_follow 45 = .ok (.return_, 1) := by decide +kernel
theorem dX5_take_0 : decode cX5_take 0 = .ok (.iload_n 1, 1) := by decide +kernel
theorem dX5_take_1 : decode cX5_take 1 = .ok (.ifCond .ne 32, 3) := by decide +kernel
theorem dX5_take_4 : decode cX5_take 4 = .ok (.aload_n 0, 1) := by decide +kernel
theorem dX5_take_5 : decode cX5_take 5 = .ok (.dup, 1) := by decide +kernel
theorem dX5_take_6 : decode cX5_take 6 = .ok (.getfield 9, 3) := by decide +kernel
theorem dX5_take_9 : decode cX5_take 9 = .ok (.aload_n 0, 1) := by decide +kernel
theorem dX5_take_10 : decode cX5_take 10 = .ok (.getfield 18, 3) := by decide +kernel
theorem dX5_take_13 : decode cX5_take 13 = .ok (.iadd, 1) := by decide +kernel
theorem dX5_take_14 : decode cX5_take 14 = .ok (.putfield 9, 3) := by decide +kernel
theorem dX5_take_17 : decode cX5_take 17 = .ok (.aload_n 0, 1) := by decide +kernel
theorem dX5_take_18 : decode cX5_take 18 = .ok (.dup, 1) := by decide +kernel
theorem dX5_take_19 : decode cX5_take 19 = .ok (.getfield 15, 3) := by decide +kernel
theorem dX5_take_22 : decode cX5_take 22 = .ok (.aload_n 0, 1) := by decide +kernel
theorem dX5_take_23 : decode cX5_take 23 = .ok (.getfield 21, 3) := by decide +kernel
theorem dX5_take_26 : decode cX5_take 26 = .ok (.iadd, 1) := by decide +kernel
theorem dX5_take_27 : decode cX5_take 27 = .ok (.putfield 15, 3) := by decide +kernel
theorem dX5_take_30 : decode cX5_take 30 = .ok (.goto 75, 3) := by decide +kernel
theorem dX5_take_33 : decode cX5_take 33 = .ok (.iload_n 1, 1) := by decide +kernel
theorem dX5_take_34 : decode cX5_take 34 = .ok (.iconst 1, 1) := by decide +kernel
theorem dX5_take_35 : decode cX5_take 35 = .ok (.if_icmp .ne 32, 3) := by decide +kernel
theorem dX5_take_38 : decode cX5_take 38 = .ok (.aload_n 0, 1) := by decide +kernel
theorem dX5_take_39 : decode cX5_take 39 = .ok (.dup, 1) := by decide +kernel
theorem dX5_take_40 : decode cX5_take 40 = .ok (.getfield 9, 3) := by decide +kernel
theorem dX5_take_43 : decode cX5_take 43 = .ok (.aload_n 0, 1) := by decide +kernel
theorem dX5_take_44 : decode cX5_take 44 = .ok (.getfield 18, 3) := by decide +kernel
theorem dX5_take_47 : decode cX5_take 47 = .ok (.isub, 1) := by decide +kernel
theorem dX5_take_48 : decode cX5_take 48 = .ok (.putfield 9, 3) := by decide +kernel
theorem dX5_take_51 : decode cX5_take 51 = .ok (.aload_n 0, 1) := by decide +kernel
theorem dX5_take_52 : decode cX5_take 52 = .ok (.dup, 1) := by decide +kernel
theorem dX5_take_53 : decode cX5_take 53 = .ok (.getfield 15, 3) := by decide +kernel
theorem dX5_take_56 : decode cX5_take 56 = .ok (.aload_n 0, 1) := by decide +kernel
theorem dX5_take_57 : decode cX5_take 57 = .ok (.getfield 21, 3) := by decide +kernel
theorem dX5_take_60 : decode cX5_take 60 = .ok (.isub, 1) := by decide +kernel
theorem dX5_take_61 : decode cX5_take 61 = .ok (.putfield 15, 3) := by decide +kernel
theorem dX5_take_64 : decode cX5_take 64 = .ok (.goto 41, 3) := by decide +kernel
theorem dX5_take_67 : decode cX5_take 67 = .ok (.aload_n 0, 1) := by decide +kernel
theorem dX5_take_68 : decode cX5_take 68 = .ok (.getfield 9, 3) := by decide +kernel
theorem dX5_take_71 : decode cX5_take 71 = .ok (.istore_n 2, 1) := by decide +kernel
theorem dX5_take_72 : decode cX5_take 72 = .ok (.aload_n 0, 1) := by decide +kernel
theorem dX5_take_73 : decode cX5_take 73 = .ok (.getfield 15, 3) := by decide +kernel
theorem dX5_take_76 : decode cX5_take 76 = .ok (.istore_n 3, 1) := by decide +kernel
theorem dX5_take_77 : decode cX5_take 77 = .ok (.aload_n 0, 1) := by decide +kernel
theorem dX5_take_78 : decode cX5_take 78 = .ok (.aload_n 0, 1) := by decide +kernel
theorem dX5_take_79 : decode cX5_take 79 = .ok (.getfield 18, 3) := by decide +kernel
theorem dX5_take_82 : decode cX5_take 82 = .ok (.ineg, 1) := by decide +kernel
theorem dX5_take_83 : decode cX5_take 83 = .ok (.putfield 9, 3) := by decide +kernel
theorem dX5_take_86 : decode cX5_take 86 = .ok (.aload_n 0, 1) := by decide +kernel
theorem dX5_take_87 : decode cX5_take 87 = .ok (.aload_n 0, 1) := by decide +kernel
theorem dX5_take_88 : decode cX5_take 88 = .ok (.getfield 21, 3) := by decide +kernel
theorem dX5_take_91 : decode cX5_take 91 = .ok (.ineg, 1) := by decide +kernel
theorem dX5_take_92 : decode cX5_take 92 = .ok (.putfield 15, 3) := by decide +kernel
theorem dX5_take_95 : decode cX5_take 95 = .ok (.aload_n 0, 1) := by decide +kernel
theorem dX5_take_96 : decode cX5_take 96 = .ok (.iload_n 2, 1) := by decide +kernel
theorem dX5_take_97 : decode cX5_take 97 = .ok (.putfield 18, 3) := by decide +kernel
theorem dX5_take_100 : decode cX5_take 100 = .ok (.aload_n 0, 1) := by decide +kernel
theorem dX5_take_101 : decode cX5_take 101 = .ok (.iload_n 3, 1) := by decide +kernel
theorem dX5_take_102 : decode cX5_take 102 = .ok (.putfield 21, 3) := by decide +kernel
theorem dX5_take_105 : decode cX5_take 105 = .ok (.return_, 1) := by decide +kernel
theorem dX5_isSame_0 : decode cX5_isSame 0 = .ok (.aload_n 0, 1) := by decide +kernel
theorem dX5_isSame_1 : decode cX5_isSame 1 = .ok (.aload_n 1, 1) := by decide +kernel
theorem dX5_isSame_2 : decode cX5_isSame 2 = .ok (.iconst 1, 1) := by decide +kernel
theorem dX5_isSame_3 : decode cX5_isSame 3 = .ok (.invokevirtual 37, 3) := by decide +kernel
theorem dX5_isSame_6 : decode cX5_isSame 6 = .ok (.ifCond .ne 12, 3) := by decide +kernel
theorem dX5_isSame_9 : decode cX5_isSame 9 = .ok (.aload_n 0, 1) := by decide +kernel
theorem dX5_isSame_10 : decode cX5_isSame 10 = .ok (.aload_n 1, 1) := by decide +kernel
theorem dX5_isSame_11 : decode cX5_isSame 11 = .ok (.iconst (-1), 1) := by decide +kernel
theorem dX5_isSame_12 : decode cX5_isSame 12 = .ok (.invokevirtual 37, 3) := by decide +kernel
theorem dX5_isSame_15 : decode cX5_isSame 15 = .ok (.ifCond .eq 7, 3) := by decide +kernel
theorem dX5_isSame_18 : decode cX5_isSame 18 = .ok (.iconst 1, 1) := by decide +kernel
theorem dX5_isSame_19 : decode cX5_isSame 19 = .ok (.goto 4, 3) := by decide +kernel
theorem dX5_isSame_22 : decode cX5_isSame 22 = .ok (.iconst 0, 1) := by decide +kernel
theorem dX5_isSame_23 : decode cX5_isSame 23 = .ok (.ireturn, 1) := by decide +kernel
theorem dX5_isSigned_0 : decode cX5_isSigned 0 = .ok (.aload_n 0, 1) := by decide +kernel
theorem dX5_isSigned_1 : decode cX5_isSigned 1 = .ok (.getfield 9, 3) := by decide +kernel
theorem dX5_isSigned_4 : decode cX5_isSigned 4 = .ok (.iload_n 2, 1) := by decide +kernel
theorem dX5_isSigned_5 : decode cX5_isSigned 5 = .ok (.aload_n 1, 1) := by decide +kernel
theorem dX5_isSigned_6 : decode cX5_isSigned 6 = .ok (.getfield 9, 3) := by decide +kernel
theorem dX5_isSigned_9 : decode cX5_isSigned 9 = .ok (.imul, 1) := by decide +kernel
theorem dX5_isSigned_10 : decode cX5_isSigned 10 = .ok (.if_icmp .ne 46, 3) := by decide +kernel
theorem dX5_isSigned_13 : decode cX5_isSigned 13 = .ok (.aload_n 0, 1) := by decide +kernel
theorem dX5_isSigned_14 : decode cX5_isSigned 14 = .ok (.getfield 15, 3) := by decide +kernel
theorem dX5_isSigned_17 : decode cX5_isSigned 17 = .ok (.iload_n 2, 1) := by decide +kernel
theorem dX5_isSigned_18 : decode cX5_isSigned 18 = .ok (.aload_n 1, 1) := by decide +kernel
theorem dX5_isSigned_19 : decode cX5_isSigned 19 = .ok (.getfield 15, 3) := by decide +kernel
theorem dX5_isSigned_22 : decode cX5_isSigned 22 = .ok (.imul, 1) := by decide +kernel
theorem dX5_isSigned_23 : decode cX5_isSigned 23 = .ok (.if_icmp .ne 33, 3) := by decide +kernel
theorem dX5_isSigned_26 : decode cX5_isSigned 26 = .ok (.aload_n 0, 1) := by decide +kernel
theorem dX5_isSigned_27 : decode cX5_isSigned 27 = .ok (.getfield 18, 3) := by decide +kernel
theorem dX5_isSigned_30 : decode cX5_isSigned 30 = .ok (.iload_n 2, 1) := by decide +kernel
theorem dX5_isSigned_31 : decode cX5_isSigned 31 = .ok (.aload_n 1, 1) := by decide +kernel
theorem dX5_isSigned_32 : decode cX5_isSigned 32 = .ok (.getfield 18, 3) := by decide +kernel
theorem dX5_isSigned_35 : decode cX5_isSigned 35 = .ok (.imul, 1) := by decide +kernel
theorem dX5_isSigned_36 : decode cX5_isSigned 36 = .ok (.if_icmp .ne 20, 3) := by decide +kernel
theorem dX5_isSigned_39 : decode cX5_isSigned 39 = .ok (.aload_n 0, 1) := by decide +kernel
theorem dX5_isSigned_40 : decode cX5_isSigned 40 = .ok (.getfield 21, 3) := by decide +kernel
theorem dX5_isSigned_43 : decode cX5_isSigned 43 = .ok (.iload_n 2, 1) := by decide +kernel
theorem dX5_isSigned_44 : decode cX5_isSigned 44 = .ok (.aload_n 1, 1) := by decide +kernel
theorem dX5_isSigned_45 : decode cX5_isSigned 45 = .ok (.getfield 21, 3) := by decide +kernel
theorem dX5_isSigned_48 : decode cX5_isSigned 48 = .ok (.imul, 1) := by decide +kernel
theorem dX5_isSigned_49 : decode cX5_isSigned 49 = .ok (.if_icmp .ne 7, 3) := by decide +kernel
theorem dX5_isSigned_52 : decode cX5_isSigned 52 = .ok (.iconst 1, 1) := by decide +kernel
theorem dX5_isSigned_53 : decode cX5_isSigned 53 = .ok (.goto 4, 3) := by decide +kernel
theorem dX5_isSigned_56 : decode cX5_isSigned 56 = .ok (.iconst 0, 1) := by decide +kernel
theorem dX5_isSigned_57 : decode cX5_isSigned 57 = .ok (.ireturn, 1) := by decide +kernel
theorem dX6_numberOf_0 : decode cX6_numberOf 0 = .ok (.iload_n 1, 1) := by decide +kernel
theorem dX6_numberOf_1 : decode cX6_numberOf 1 = .ok (.ifCond .eq 10, 3) := by decide +kernel
theorem dX6_numberOf_4 : decode cX6_numberOf 4 = .ok (.aload_n 0, 1) := by decide +kernel
theorem dX6_numberOf_5 : decode cX6_numberOf 5 = .ok (.getfield 7, 3) := by decide +kernel
theorem dX6_numberOf_8 : decode cX6_numberOf 8 = .ok (.goto 10, 3) := by decide +kernel
theorem dX6_numberOf_11 : decode cX6_numberOf 11 = .ok (.aload_n 0, 1) := by decide +kernel
theorem dX6_numberOf_12 : decode cX6_numberOf 12 = .ok (.getfield 13, 3) := by decide +kernel
theorem dX6_numberOf_15 : decode cX6_numberOf 15 = .ok (.invokestatic 16, 3) := by decide +kernel
theorem dX6_numberOf_18 : decode cX6_numberOf 18 = .ok (.ireturn, 1) := by decide +kernel
theorem dX6_areAlike_0 : decode cX6_areAlike 0 = .ok (.aload_n 0, 1) := by decide +kernel
theorem dX6_areAlike_1 : decode cX6_areAlike 1 = .ok (.getfield 13, 3) := by decide +kernel
theorem dX6_areAlike_4 : decode cX6_areAlike 4 = .ok (.invokestatic 16, 3) := by decide +kernel
theorem dX6_areAlike_7 : decode cX6_areAlike 7 = .ok (.istore_n 3, 1) := by decide +kernel
theorem dX6_areAlike_8 : decode cX6_areAlike 8 = .ok (.iload_n 3, 1) := by decide +kernel
theorem dX6_areAlike_9 : decode cX6_areAlike 9 = .ok (.aload_n 1, 1) := by decide +kernel
theorem dX6_areAlike_10 : decode cX6_areAlike 10 = .ok (.getfield 13, 3) := by decide +kernel
theorem dX6_areAlike_13 : decode cX6_areAlike 13 = .ok (.invokestatic 16, 3) := by decide +kernel
theorem dX6_areAlike_16 : decode cX6_areAlike 16 = .ok (.if_icmp .eq 5, 3) := by decide +kernel
theorem dX6_areAlike_19 : decode cX6_areAlike 19 = .ok (.iconst 0, 1) := by decide +kernel
theorem dX6_areAlike_20 : decode cX6_areAlike 20 = .ok (.ireturn, 1) := by decide +kernel
theorem dX6_areAlike_21 : decode cX6_areAlike 21 = .ok (.iload_n 3, 1) := by decide +kernel
theorem dX6_areAlike_22 : decode cX6_areAlike 22 = .ok (.iload_n 2, 1) := by decide +kernel
theorem dX6_areAlike_23 : decode cX6_areAlike 23 = .ok (.aload_n 0, 1) := by decide +kernel
theorem dX6_areAlike_24 : decode cX6_areAlike 24 = .ok (.invokestatic 22, 3) := by decide +kernel
theorem dX6_areAlike_27 : decode cX6_areAlike 27 = .ok (.imul, 1) := by decide +kernel
theorem dX6_areAlike_28 : decode cX6_areAlike 28 = .ok (.aload_n 1, 1) := by decide +kernel
theorem dX6_areAlike_29 : decode cX6_areAlike 29 = .ok (.invokestatic 22, 3) := by decide +kernel
theorem dX6_areAlike_32 : decode cX6_areAlike 32 = .ok (.invokestatic 28, 3) := by decide +kernel
theorem dX6_areAlike_35 : decode cX6_areAlike 35 = .ok (.ireturn, 1) := by decide +kernel
theorem dX6_signed_0 : decode cX6_signed 0 = .ok (.aload_n 0, 1) := by decide +kernel
theorem dX6_signed_1 : decode cX6_signed 1 = .ok (.getfield 13, 3) := by decide +kernel
theorem dX6_signed_4 : decode cX6_signed 4 = .ok (.ifCond .ge 11, 3) := by decide +kernel
theorem dX6_signed_7 : decode cX6_signed 7 = .ok (.aload_n 0, 1) := by decide +kernel
theorem dX6_signed_8 : decode cX6_signed 8 = .ok (.getfield 7, 3) := by decide +kernel
theorem dX6_signed_11 : decode cX6_signed 11 = .ok (.ineg, 1) := by decide +kernel
theorem dX6_signed_12 : decode cX6_signed 12 = .ok (.goto 7, 3) := by decide +kernel
theorem dX6_signed_15 : decode cX6_signed 15 = .ok (.aload_n 0, 1) := by decide +kernel
theorem dX6_signed_16 : decode cX6_signed 16 = .ok (.getfield 7, 3) := by decide +kernel
theorem dX6_signed_19 : decode cX6_signed 19 = .ok (.ireturn, 1) := by decide +kernel
theorem dX6_isAlikeBy_0 : decode cX6_isAlikeBy 0 = .ok (.iload_n 0, 1) := by decide +kernel
theorem dX6_isAlikeBy_1 : decode cX6_isAlikeBy 1 = .ok (.iconst 2, 1) := by decide +kernel
theorem dX6_isAlikeBy_2 : decode cX6_isAlikeBy 2 = .ok (.if_icmp .ge 5, 3) := by decide +kernel
theorem dX6_isAlikeBy_5 : decode cX6_isAlikeBy 5 = .ok (.iconst 1, 1) := by decide +kernel
theorem dX6_isAlikeBy_6 : decode cX6_isAlikeBy 6 = .ok (.ireturn, 1) := by decide +kernel
theorem dX6_isAlikeBy_7 : decode cX6_isAlikeBy 7 = .ok (.iload_n 1, 1) := by decide +kernel
theorem dX6_isAlikeBy_8 : decode cX6_isAlikeBy 8 = .ok (.iload_n 2, 1) := by decide +kernel
theorem dX6_isAlikeBy_9 : decode cX6_isAlikeBy 9 = .ok (.isub, 1) := by decide +kernel
theorem dX6_isAlikeBy_10 : decode cX6_isAlikeBy 10 = .ok (.iload_n 0, 1) := by decide +kernel
theorem dX6_isAlikeBy_11 : decode cX6_isAlikeBy 11 = .ok (.irem, 1) := by decide +kernel
theorem dX6_isAlikeBy_12 : decode cX6_isAlikeBy 12 = .ok (.ifCond .eq 13, 3) := by decide +kernel
theorem dX6_isAlikeBy_15 : decode cX6_isAlikeBy 15 = .ok (.iload_n 1, 1) := by decide +kernel
theorem dX6_isAlikeBy_16 : decode cX6_isAlikeBy 16 = .ok (.iload_n 2, 1) := by decide +kernel
theorem dX6_isAlikeBy_17 : decode cX6_isAlikeBy 17 = .ok (.imul, 1) := by decide +kernel
theorem dX6_isAlikeBy_18 : decode cX6_isAlikeBy 18 = .ok (.iconst 1, 1) := by decide +kernel
theorem dX6_isAlikeBy_19 : decode cX6_isAlikeBy 19 = .ok (.isub, 1) := by decide +kernel
theorem dX6_isAlikeBy_20 : decode cX6_isAlikeBy 20 = .ok (.iload_n 0, 1) := by decide +kernel
theorem dX6_isAlikeBy_21 : decode cX6_isAlikeBy 21 = .ok (.irem, 1) := by decide +kernel
theorem dX6_isAlikeBy_22 : decode cX6_isAlikeBy 22 = .ok (.ifCond .ne 7, 3) := by decide +kernel
theorem dX6_isAlikeBy_25 : decode cX6_isAlikeBy 25 = .ok (.iconst 1, 1) := by decide +kernel
theorem dX6_isAlikeBy_26 : decode cX6_isAlikeBy 26 = .ok (.goto 4, 3) := by decide +kernel
theorem dX6_isAlikeBy_29 : decode cX6_isAlikeBy 29 = .ok (.iconst 0, 1) := by decide +kernel
theorem dX6_isAlikeBy_30 : decode cX6_isAlikeBy 30 = .ok (.ireturn, 1) := by decide +kernel
theorem dX6_sorts_0 : decode cX6_sorts 0 = .ok (.iconst 0, 1) := by decide +kernel
theorem dX6_sorts_1 : decode cX6_sorts 1 = .ok (.istore_n 2, 1) := by decide +kernel
theorem dX6_sorts_2 : decode cX6_sorts 2 = .ok (.iconst 1, 1) := by decide +kernel
theorem dX6_sorts_3 : decode cX6_sorts 3 = .ok (.istore_n 3, 1) := by decide +kernel
theorem dX6_sorts_4 : decode cX6_sorts 4 = .ok (.iload_n 3, 1) := by decide +kernel
theorem dX6_sorts_5 : decode cX6_sorts 5 = .ok (.iload_n 0, 1) := by decide +kernel
theorem dX6_sorts_6 : decode cX6_sorts 6 = .ok (.if_icmp .gt 33, 3) := by decide +kernel
theorem dX6_sorts_9 : decode cX6_sorts 9 = .ok (.iload_n 3, 1) := by decide +kernel
theorem dX6_sorts_10 : decode cX6_sorts 10 = .ok (.i2l, 1) := by decide +kernel
theorem dX6_sorts_11 : decode cX6_sorts 11 = .ok (.iload_n 0, 1) := by decide +kernel
theorem dX6_sorts_12 : decode cX6_sorts 12 = .ok (.i2l, 1) := by decide +kernel
theorem dX6_sorts_13 : decode cX6_sorts 13 = .ok (.invokestatic 32, 3) := by decide +kernel
theorem dX6_sorts_16 : decode cX6_sorts 16 = .ok (.lconst 1, 1) := by decide +kernel
theorem dX6_sorts_17 : decode cX6_sorts 17 = .ok (.lcmp, 1) := by decide +kernel
theorem dX6_sorts_18 : decode cX6_sorts 18 = .ok (.ifCond .ne 15, 3) := by decide +kernel
theorem dX6_sorts_21 : decode cX6_sorts 21 = .ok (.iload_n 3, 1) := by decide +kernel
theorem dX6_sorts_22 : decode cX6_sorts 22 = .ok (.iload_n 0, 1) := by decide +kernel
theorem dX6_sorts_23 : decode cX6_sorts 23 = .ok (.iload_n 1, 1) := by decide +kernel
theorem dX6_sorts_24 : decode cX6_sorts 24 = .ok (.invokestatic 38, 3) := by decide +kernel
theorem dX6_sorts_27 : decode cX6_sorts 27 = .ok (.ifCond .eq 6, 3) := by decide +kernel
theorem dX6_sorts_30 : decode cX6_sorts 30 = .ok (.iinc 2 1, 3) := by decide +kernel
theorem dX6_sorts_33 : decode cX6_sorts 33 = .ok (.iinc 3 1, 3) := by decide +kernel
theorem dX6_sorts_36 : decode cX6_sorts 36 = .ok (.goto (-32), 3) := by decide +kernel
theorem dX6_sorts_39 : decode cX6_sorts 39 = .ok (.iload_n 2, 1) := by decide +kernel
theorem dX6_sorts_40 : decode cX6_sorts 40 = .ok (.ireturn, 1) := by decide +kernel
theorem dX6_isLeast_0 : decode cX6_isLeast 0 = .ok (.iconst 1, 1) := by decide +kernel
theorem dX6_isLeast_1 : decode cX6_isLeast 1 = .ok (.istore_n 3, 1) := by decide +kernel
theorem dX6_isLeast_2 : decode cX6_isLeast 2 = .ok (.iload_n 3, 1) := by decide +kernel
theorem dX6_isLeast_3 : decode cX6_isLeast 3 = .ok (.iload_n 0, 1) := by decide +kernel
theorem dX6_isLeast_4 : decode cX6_isLeast 4 = .ok (.if_icmp .ge 34, 3) := by decide +kernel
theorem dX6_isLeast_7 : decode cX6_isLeast 7 = .ok (.iload_n 1, 1) := by decide +kernel
theorem dX6_isLeast_8 : decode cX6_isLeast 8 = .ok (.iload_n 3, 1) := by decide +kernel
theorem dX6_isLeast_9 : decode cX6_isLeast 9 = .ok (.iload_n 0, 1) := by decide +kernel
theorem dX6_isLeast_10 : decode cX6_isLeast 10 = .ok (.invokestatic 28, 3) := by decide +kernel
theorem dX6_isLeast_13 : decode cX6_isLeast 13 = .ok (.ifCond .ne 17, 3) := by decide +kernel
theorem dX6_isLeast_16 : decode cX6_isLeast 16 = .ok (.iload_n 2, 1) := by decide +kernel
theorem dX6_isLeast_17 : decode cX6_isLeast 17 = .ok (.ifCond .eq 15, 3) := by decide +kernel
theorem dX6_isLeast_20 : decode cX6_isLeast 20 = .ok (.iload_n 1, 1) := by decide +kernel
theorem dX6_isLeast_21 : decode cX6_isLeast 21 = .ok (.iload_n 3, 1) := by decide +kernel
theorem dX6_isLeast_22 : decode cX6_isLeast 22 = .ok (.ineg, 1) := by decide +kernel
theorem dX6_isLeast_23 : decode cX6_isLeast 23 = .ok (.iload_n 0, 1) := by decide +kernel
theorem dX6_isLeast_24 : decode cX6_isLeast 24 = .ok (.invokestatic 28, 3) := by decide +kernel
theorem dX6_isLeast_27 : decode cX6_isLeast 27 = .ok (.ifCond .eq 5, 3) := by decide +kernel
theorem dX6_isLeast_30 : decode cX6_isLeast 30 = .ok (.iconst 0, 1) := by decide +kernel
theorem dX6_isLeast_31 : decode cX6_isLeast 31 = .ok (.ireturn, 1) := by decide +kernel
theorem dX6_isLeast_32 : decode cX6_isLeast 32 = .ok (.iinc 3 1, 3) := by decide +kernel
theorem dX6_isLeast_35 : decode cX6_isLeast 35 = .ok (.goto (-33), 3) := by decide +kernel
theorem dX6_isLeast_38 : decode cX6_isLeast 38 = .ok (.iconst 1, 1) := by decide +kernel
theorem dX6_isLeast_39 : decode cX6_isLeast 39 = .ok (.ireturn, 1) := by decide +kernel
theorem dX7_put_0 : decode cX7_put 0 = .ok (.aload_n 0, 1) := by decide +kernel
theorem dX7_put_1 : decode cX7_put 1 = .ok (.iload_n 1, 1) := by decide +kernel
theorem dX7_put_2 : decode cX7_put 2 = .ok (.putfield 9, 3) := by decide +kernel
theorem dX7_put_5 : decode cX7_put 5 = .ok (.aload_n 0, 1) := by decide +kernel
theorem dX7_put_6 : decode cX7_put 6 = .ok (.iload_n 2, 1) := by decide +kernel
theorem dX7_put_7 : decode cX7_put 7 = .ok (.putfield 15, 3) := by decide +kernel
theorem dX7_put_10 : decode cX7_put 10 = .ok (.return_, 1) := by decide +kernel
theorem dX7_copy_0 : decode cX7_copy 0 = .ok (.aload_n 0, 1) := by decide +kernel
theorem dX7_copy_1 : decode cX7_copy 1 = .ok (.aload_n 1, 1) := by decide +kernel
theorem dX7_copy_2 : decode cX7_copy 2 = .ok (.getfield 9, 3) := by decide +kernel
theorem dX7_copy_5 : decode cX7_copy 5 = .ok (.aload_n 1, 1) := by decide +kernel
theorem dX7_copy_6 : decode cX7_copy 6 = .ok (.getfield 15, 3) := by decide +kernel
theorem dX7_copy_9 : decode cX7_copy 9 = .ok (.invokevirtual 18, 3) := by decide +kernel
theorem dX7_copy_12 : decode cX7_copy 12 = .ok (.return_, 1) := by decide +kernel
theorem dX7_isLike_0 : decode cX7_isLike 0 = .ok (.aload_n 0, 1) := by decide +kernel
theorem dX7_isLike_1 : decode cX7_isLike 1 = .ok (.getfield 9, 3) := by decide +kernel
theorem dX7_isLike_4 : decode cX7_isLike 4 = .ok (.aload_n 1, 1) := by decide +kernel
theorem dX7_isLike_5 : decode cX7_isLike 5 = .ok (.getfield 9, 3) := by decide +kernel
theorem dX7_isLike_8 : decode cX7_isLike 8 = .ok (.if_icmp .ne 18, 3) := by decide +kernel
theorem dX7_isLike_11 : decode cX7_isLike 11 = .ok (.aload_n 0, 1) := by decide +kernel
theorem dX7_isLike_12 : decode cX7_isLike 12 = .ok (.getfield 15, 3) := by decide +kernel
theorem dX7_isLike_15 : decode cX7_isLike 15 = .ok (.aload_n 1, 1) := by decide +kernel
theorem dX7_isLike_16 : decode cX7_isLike 16 = .ok (.getfield 15, 3) := by decide +kernel
theorem dX7_isLike_19 : decode cX7_isLike 19 = .ok (.if_icmp .ne 7, 3) := by decide +kernel
theorem dX7_isLike_22 : decode cX7_isLike 22 = .ok (.iconst 1, 1) := by decide +kernel
theorem dX7_isLike_23 : decode cX7_isLike 23 = .ok (.goto 4, 3) := by decide +kernel
theorem dX7_isLike_26 : decode cX7_isLike 26 = .ok (.iconst 0, 1) := by decide +kernel
theorem dX7_isLike_27 : decode cX7_isLike 27 = .ok (.ireturn, 1) := by decide +kernel
theorem dX7_isUntied_0 : decode cX7_isUntied 0 = .ok (.aload_n 0, 1) := by decide +kernel
theorem dX7_isUntied_1 : decode cX7_isUntied 1 = .ok (.getfield 9, 3) := by decide +kernel
theorem dX7_isUntied_4 : decode cX7_isUntied 4 = .ok (.ifCond .ne 7, 3) := by decide +kernel
theorem dX7_isUntied_7 : decode cX7_isUntied 7 = .ok (.iconst 1, 1) := by decide +kernel
theorem dX7_isUntied_8 : decode cX7_isUntied 8 = .ok (.goto 4, 3) := by decide +kernel
theorem dX7_isUntied_11 : decode cX7_isUntied 11 = .ok (.iconst 0, 1) := by decide +kernel
theorem dX7_isUntied_12 : decode cX7_isUntied 12 = .ok (.ireturn, 1) := by decide +kernel
theorem dX7_step_0 : decode cX7_step 0 = .ok (.aload_n 0, 1) := by decide +kernel
theorem dX7_step_1 : decode cX7_step 1 = .ok (.iload_n 1, 1) := by decide +kernel
theorem dX7_step_2 : decode cX7_step 2 = .ok (.aload_n 0, 1) := by decide +kernel
theorem dX7_step_3 : decode cX7_step 3 = .ok (.getfield 9, 3) := by decide +kernel
theorem dX7_step_6 : decode cX7_step 6 = .ok (.aload_n 0, 1) := by decide +kernel
theorem dX7_step_7 : decode cX7_step 7 = .ok (.getfield 15, 3) := by decide +kernel
theorem dX7_step_10 : decode cX7_step 10 = .ok (.invokestatic 22, 3) := by decide +kernel
theorem dX7_step_13 : decode cX7_step 13 = .ok (.iload_n 1, 1) := by decide +kernel
theorem dX7_step_14 : decode cX7_step 14 = .ok (.aload_n 0, 1) := by decide +kernel
theorem dX7_step_15 : decode cX7_step 15 = .ok (.getfield 9, 3) := by decide +kernel
theorem dX7_step_18 : decode cX7_step 18 = .ok (.aload_n 0, 1) := by decide +kernel
theorem dX7_step_19 : decode cX7_step 19 = .ok (.getfield 15, 3) := by decide +kernel
theorem dX7_step_22 : decode cX7_step 22 = .ok (.invokestatic 26, 3) := by decide +kernel
theorem dX7_step_25 : decode cX7_step 25 = .ok (.invokevirtual 18, 3) := by decide +kernel
theorem dX7_step_28 : decode cX7_step 28 = .ok (.return_, 1) := by decide +kernel
theorem dX7_overBy_0 : decode cX7_overBy 0 = .ok (.iload_n 0, 1) := by decide +kernel
theorem dX7_overBy_1 : decode cX7_overBy 1 = .ok (.ifCond .ne 7, 3) := by decide +kernel
theorem dX7_overBy_4 : decode cX7_overBy 4 = .ok (.iload_n 1, 1) := by decide +kernel
theorem dX7_overBy_5 : decode cX7_overBy 5 = .ok (.iload_n 2, 1) := by decide +kernel
theorem dX7_overBy_6 : decode cX7_overBy 6 = .ok (.iadd, 1) := by decide +kernel
theorem dX7_overBy_7 : decode cX7_overBy 7 = .ok (.ireturn, 1) := by decide +kernel
theorem dX7_overBy_8 : decode cX7_overBy 8 = .ok (.iload_n 0, 1) := by decide +kernel
theorem dX7_overBy_9 : decode cX7_overBy 9 = .ok (.iconst 1, 1) := by decide +kernel
theorem dX7_overBy_10 : decode cX7_overBy 10 = .ok (.if_icmp .ne 7, 3) := by decide +kernel
theorem dX7_overBy_13 : decode cX7_overBy 13 = .ok (.iload_n 1, 1) := by decide +kernel
theorem dX7_overBy_14 : decode cX7_overBy 14 = .ok (.iload_n 2, 1) := by decide +kernel
theorem dX7_overBy_15 : decode cX7_overBy 15 = .ok (.isub, 1) := by decide +kernel
theorem dX7_overBy_16 : decode cX7_overBy 16 = .ok (.ireturn, 1) := by decide +kernel
theorem dX7_overBy_17 : decode cX7_overBy 17 = .ok (.iload_n 1, 1) := by decide +kernel
theorem dX7_overBy_18 : decode cX7_overBy 18 = .ok (.ifCond .ne 5, 3) := by decide +kernel
theorem dX7_overBy_21 : decode cX7_overBy 21 = .ok (.iconst 1, 1) := by decide +kernel
theorem dX7_overBy_22 : decode cX7_overBy 22 = .ok (.ireturn, 1) := by decide +kernel
theorem dX7_overBy_23 : decode cX7_overBy 23 = .ok (.iload_n 1, 1) := by decide +kernel
theorem dX7_overBy_24 : decode cX7_overBy 24 = .ok (.ifCond .le 8, 3) := by decide +kernel
theorem dX7_overBy_27 : decode cX7_overBy 27 = .ok (.iload_n 2, 1) := by decide +kernel
theorem dX7_overBy_28 : decode cX7_overBy 28 = .ok (.ineg, 1) := by decide +kernel
theorem dX7_overBy_29 : decode cX7_overBy 29 = .ok (.goto 4, 3) := by decide +kernel
theorem dX7_overBy_32 : decode cX7_overBy 32 = .ok (.iload_n 2, 1) := by decide +kernel
theorem dX7_overBy_33 : decode cX7_overBy 33 = .ok (.ireturn, 1) := by decide +kernel
theorem dX7_underBy_0 : decode cX7_underBy 0 = .ok (.iload_n 0, 1) := by decide +kernel
theorem dX7_underBy_1 : decode cX7_underBy 1 = .ok (.iconst 2, 1) := by decide +kernel
theorem dX7_underBy_2 : decode cX7_underBy 2 = .ok (.if_icmp .ne 10, 3) := by decide +kernel
theorem dX7_underBy_5 : decode cX7_underBy 5 = .ok (.iload_n 1, 1) := by decide +kernel
theorem dX7_underBy_6 : decode cX7_underBy 6 = .ok (.invokestatic 29, 3) := by decide +kernel
theorem dX7_underBy_9 : decode cX7_underBy 9 = .ok (.goto 4, 3) := by decide +kernel
theorem dX7_underBy_12 : decode cX7_underBy 12 = .ok (.iload_n 2, 1) := by decide +kernel
theorem dX7_underBy_13 : decode cX7_underBy 13 = .ok (.ireturn, 1) := by decide +kernel
theorem dX7_isTooGreat_0 : decode cX7_isTooGreat 0 = .ok (.iload_n 0, 1) := by decide +kernel
theorem dX7_isTooGreat_1 : decode cX7_isTooGreat 1 = .ok (.sipush 9999, 3) := by decide +kernel
theorem dX7_isTooGreat_4 : decode cX7_isTooGreat 4 = .ok (.if_icmp .gt 17, 3) := by decide +kernel
theorem dX7_isTooGreat_7 : decode cX7_isTooGreat 7 = .ok (.iload_n 0, 1) := by decide +kernel
theorem dX7_isTooGreat_8 : decode cX7_isTooGreat 8 = .ok (.sipush (-9999), 3) := by decide +kernel
theorem dX7_isTooGreat_11 : decode cX7_isTooGreat 11 = .ok (.if_icmp .lt 10, 3) := by decide +kernel
theorem dX7_isTooGreat_14 : decode cX7_isTooGreat 14 = .ok (.iload_n 1, 1) := by decide +kernel
theorem dX7_isTooGreat_15 : decode cX7_isTooGreat 15 = .ok (.sipush 9999, 3) := by decide +kernel
theorem dX7_isTooGreat_18 : decode cX7_isTooGreat 18 = .ok (.if_icmp .le 7, 3) := by decide +kernel
theorem dX7_isTooGreat_21 : decode cX7_isTooGreat 21 = .ok (.iconst 1, 1) := by decide +kernel
theorem dX7_isTooGreat_22 : decode cX7_isTooGreat 22 = .ok (.goto 4, 3) := by decide +kernel
theorem dX7_isTooGreat_25 : decode cX7_isTooGreat 25 = .ok (.iconst 0, 1) := by decide +kernel
theorem dX7_isTooGreat_26 : decode cX7_isTooGreat 26 = .ok (.ireturn, 1) := by decide +kernel
theorem dX7_goalOf_0 : decode cX7_goalOf 0 = .ok (.aload_n 0, 1) := by decide +kernel
theorem dX7_goalOf_1 : decode cX7_goalOf 1 = .ok (.getfield 9, 3) := by decide +kernel
theorem dX7_goalOf_4 : decode cX7_goalOf 4 = .ok (.iconst 2, 1) := by decide +kernel
theorem dX7_goalOf_5 : decode cX7_goalOf 5 = .ok (.irem, 1) := by decide +kernel
theorem dX7_goalOf_6 : decode cX7_goalOf 6 = .ok (.ifCond .ne 7, 3) := by decide +kernel
theorem dX7_goalOf_9 : decode cX7_goalOf 9 = .ok (.iload_n 1, 1) := by decide +kernel
theorem dX7_goalOf_10 : decode cX7_goalOf 10 = .ok (.iconst 1, 1) := by decide +kernel
theorem dX7_goalOf_11 : decode cX7_goalOf 11 = .ok (.ixor, 1) := by decide +kernel
theorem dX7_goalOf_12 : decode cX7_goalOf 12 = .ok (.ireturn, 1) := by decide +kernel
theorem dX7_goalOf_13 : decode cX7_goalOf 13 = .ok (.aload_n 0, 1) := by decide +kernel
theorem dX7_goalOf_14 : decode cX7_goalOf 14 = .ok (.getfield 15, 3) := by decide +kernel
theorem dX7_goalOf_17 : decode cX7_goalOf 17 = .ok (.iconst 2, 1) := by decide +kernel
theorem dX7_goalOf_18 : decode cX7_goalOf 18 = .ok (.irem, 1) := by decide +kernel
theorem dX7_goalOf_19 : decode cX7_goalOf 19 = .ok (.ifCond .ne 9, 3) := by decide +kernel
theorem dX7_goalOf_22 : decode cX7_goalOf 22 = .ok (.iload_n 1, 1) := by decide +kernel
theorem dX7_goalOf_23 : decode cX7_goalOf 23 = .ok (.iconst 2, 1) := by decide +kernel
theorem dX7_goalOf_24 : decode cX7_goalOf 24 = .ok (.ixor, 1) := by decide +kernel
theorem dX7_goalOf_25 : decode cX7_goalOf 25 = .ok (.goto 6, 3) := by decide +kernel
theorem dX7_goalOf_28 : decode cX7_goalOf 28 = .ok (.iload_n 1, 1) := by decide +kernel
theorem dX7_goalOf_29 : decode cX7_goalOf 29 = .ok (.iconst 3, 1) := by decide +kernel
theorem dX7_goalOf_30 : decode cX7_goalOf 30 = .ok (.ixor, 1) := by decide +kernel
theorem dX7_goalOf_31 : decode cX7_goalOf 31 = .ok (.ireturn, 1) := by decide +kernel
theorem dX7_wholeParts_0 : decode cX7_wholeParts 0 = .ok (.aload_n 0, 1) := by decide +kernel
theorem dX7_wholeParts_1 : decode cX7_wholeParts 1 = .ok (.getfield 9, 3) := by decide +kernel
theorem dX7_wholeParts_4 : decode cX7_wholeParts 4 = .ok (.invokestatic 29, 3) := by decide +kernel
theorem dX7_wholeParts_7 : decode cX7_wholeParts 7 = .ok (.istore_n 1, 1) := by decide +kernel
theorem dX7_wholeParts_8 : decode cX7_wholeParts 8 = .ok (.aload_n 0, 1) := by decide +kernel
theorem dX7_wholeParts_9 : decode cX7_wholeParts 9 = .ok (.getfield 15, 3) := by decide +kernel
theorem dX7_wholeParts_12 : decode cX7_wholeParts 12 = .ok (.istore_n 2, 1) := by decide +kernel
theorem dX7_wholeParts_13 : decode cX7_wholeParts 13 = .ok (.iconst 0, 1) := by decide +kernel
theorem dX7_wholeParts_14 : decode cX7_wholeParts 14 = .ok (.istore_n 3, 1) := by decide +kernel
theorem dX7_wholeParts_15 : decode cX7_wholeParts 15 = .ok (.iload_n 3, 1) := by decide +kernel
theorem dX7_wholeParts_16 : decode cX7_wholeParts 16 = .ok (.ldc 35, 2) := by decide +kernel
theorem dX7_wholeParts_18 : decode cX7_wholeParts 18 = .ok (.if_icmp .ge 23, 3) := by decide +kernel
theorem dX7_wholeParts_21 : decode cX7_wholeParts 21 = .ok (.iload_n 2, 1) := by decide +kernel
theorem dX7_wholeParts_22 : decode cX7_wholeParts 22 = .ok (.ifCond .le 19, 3) := by decide +kernel
theorem dX7_wholeParts_25 : decode cX7_wholeParts 25 = .ok (.iload_n 1, 1) := by decide +kernel
theorem dX7_wholeParts_26 : decode cX7_wholeParts 26 = .ok (.iload_n 2, 1) := by decide +kernel
theorem dX7_wholeParts_27 : decode cX7_wholeParts 27 = .ok (.irem, 1) := by decide +kernel
theorem dX7_wholeParts_28 : decode cX7_wholeParts 28 = .ok (.istore 4, 2) := by decide +kernel
theorem dX7_wholeParts_30 : decode cX7_wholeParts 30 = .ok (.iload_n 2, 1) := by decide +kernel
theorem dX7_wholeParts_31 : decode cX7_wholeParts 31 = .ok (.istore_n 1, 1) := by decide +kernel
theorem dX7_wholeParts_32 : decode cX7_wholeParts 32 = .ok (.iload 4, 2) := by decide +kernel
theorem dX7_wholeParts_34 : decode cX7_wholeParts 34 = .ok (.istore_n 2, 1) := by decide +kernel
theorem dX7_wholeParts_35 : decode cX7_wholeParts 35 = .ok (.iinc 3 1, 3) := by decide +kernel
theorem dX7_wholeParts_38 : decode cX7_wholeParts 38 = .ok (.goto (-23), 3) := by decide +kernel
theorem dX7_wholeParts_41 : decode cX7_wholeParts 41 = .ok (.iload_n 3, 1) := by decide +kernel
theorem dX7_wholeParts_42 : decode cX7_wholeParts 42 = .ok (.ireturn, 1) := by decide +kernel
theorem dX7_wholePart_0 : decode cX7_wholePart 0 = .ok (.aload_n 0, 1) := by decide +kernel
theorem dX7_wholePart_1 : decode cX7_wholePart 1 = .ok (.getfield 9, 3) := by decide +kernel
theorem dX7_wholePart_4 : decode cX7_wholePart 4 = .ok (.invokestatic 29, 3) := by decide +kernel
theorem dX7_wholePart_7 : decode cX7_wholePart 7 = .ok (.istore_n 2, 1) := by decide +kernel
theorem dX7_wholePart_8 : decode cX7_wholePart 8 = .ok (.aload_n 0, 1) := by decide +kernel
theorem dX7_wholePart_9 : decode cX7_wholePart 9 = .ok (.getfield 15, 3) := by decide +kernel
theorem dX7_wholePart_12 : decode cX7_wholePart 12 = .ok (.istore_n 3, 1) := by decide +kernel
theorem dX7_wholePart_13 : decode cX7_wholePart 13 = .ok (.iconst 0, 1) := by decide +kernel
theorem dX7_wholePart_14 : decode cX7_wholePart 14 = .ok (.istore 4, 2) := by decide +kernel
theorem dX7_wholePart_16 : decode cX7_wholePart 16 = .ok (.iload 4, 2) := by decide +kernel
theorem dX7_wholePart_18 : decode cX7_wholePart 18 = .ok (.iload_n 1, 1) := by decide +kernel
theorem dX7_wholePart_19 : decode cX7_wholePart 19 = .ok (.if_icmp .ge 23, 3) := by decide +kernel
theorem dX7_wholePart_22 : decode cX7_wholePart 22 = .ok (.iload_n 3, 1) := by decide +kernel
theorem dX7_wholePart_23 : decode cX7_wholePart 23 = .ok (.ifCond .le 19, 3) := by decide +kernel
theorem dX7_wholePart_26 : decode cX7_wholePart 26 = .ok (.iload_n 2, 1) := by decide +kernel
theorem dX7_wholePart_27 : decode cX7_wholePart 27 = .ok (.iload_n 3, 1) := by decide +kernel
theorem dX7_wholePart_28 : decode cX7_wholePart 28 = .ok (.irem, 1) := by decide +kernel
theorem dX7_wholePart_29 : decode cX7_wholePart 29 = .ok (.istore 5, 2) := by decide +kernel
theorem dX7_wholePart_31 : decode cX7_wholePart 31 = .ok (.iload_n 3, 1) := by decide +kernel
theorem dX7_wholePart_32 : decode cX7_wholePart 32 = .ok (.istore_n 2, 1) := by decide +kernel
theorem dX7_wholePart_33 : decode cX7_wholePart 33 = .ok (.iload 5, 2) := by decide +kernel
theorem dX7_wholePart_35 : decode cX7_wholePart 35 = .ok (.istore_n 3, 1) := by decide +kernel
theorem dX7_wholePart_36 : decode cX7_wholePart 36 = .ok (.iinc 4 1, 3) := by decide +kernel
theorem dX7_wholePart_39 : decode cX7_wholePart 39 = .ok (.goto (-23), 3) := by decide +kernel
theorem dX7_wholePart_42 : decode cX7_wholePart 42 = .ok (.iload_n 3, 1) := by decide +kernel
theorem dX7_wholePart_43 : decode cX7_wholePart 43 = .ok (.ifCond .le 9, 3) := by decide +kernel
theorem dX7_wholePart_46 : decode cX7_wholePart 46 = .ok (.iload_n 2, 1) := by decide +kernel
theorem dX7_wholePart_47 : decode cX7_wholePart 47 = .ok (.iload_n 3, 1) := by decide +kernel
theorem dX7_wholePart_48 : decode cX7_wholePart 48 = .ok (.idiv, 1) := by decide +kernel
theorem dX7_wholePart_49 : decode cX7_wholePart 49 = .ok (.goto 4, 3) := by decide +kernel
theorem dX7_wholePart_52 : decode cX7_wholePart 52 = .ok (.iconst 0, 1) := by decide +kernel
theorem dX7_wholePart_53 : decode cX7_wholePart 53 = .ok (.ireturn, 1) := by decide +kernel
theorem dX7_crossed_0 : decode cX7_crossed 0 = .ok (.aload_n 0, 1) := by decide +kernel
theorem dX7_crossed_1 : decode cX7_crossed 1 = .ok (.getfield 9, 3) := by decide +kernel
theorem dX7_crossed_4 : decode cX7_crossed 4 = .ok (.invokestatic 29, 3) := by decide +kernel
theorem dX7_crossed_7 : decode cX7_crossed 7 = .ok (.istore_n 1, 1) := by decide +kernel
theorem dX7_crossed_8 : decode cX7_crossed 8 = .ok (.aload_n 0, 1) := by decide +kernel
theorem dX7_crossed_9 : decode cX7_crossed 9 = .ok (.getfield 15, 3) := by decide +kernel
theorem dX7_crossed_12 : decode cX7_crossed 12 = .ok (.istore_n 2, 1) := by decide +kernel
theorem dX7_crossed_13 : decode cX7_crossed 13 = .ok (.iconst 0, 1) := by decide +kernel
theorem dX7_crossed_14 : decode cX7_crossed 14 = .ok (.istore_n 3, 1) := by decide +kernel
theorem dX7_crossed_15 : decode cX7_crossed 15 = .ok (.iconst 0, 1) := by decide +kernel
theorem dX7_crossed_16 : decode cX7_crossed 16 = .ok (.istore 4, 2) := by decide +kernel
theorem dX7_crossed_18 : decode cX7_crossed 18 = .ok (.iload 4, 2) := by decide +kernel
theorem dX7_crossed_20 : decode cX7_crossed 20 = .ok (.ldc 35, 2) := by decide +kernel
theorem dX7_crossed_22 : decode cX7_crossed 22 = .ok (.if_icmp .ge 29, 3) := by decide +kernel
theorem dX7_crossed_25 : decode cX7_crossed 25 = .ok (.iload_n 2, 1) := by decide +kernel
theorem dX7_crossed_26 : decode cX7_crossed 26 = .ok (.ifCond .le 25, 3) := by decide +kernel
theorem dX7_crossed_29 : decode cX7_crossed 29 = .ok (.iload_n 1, 1) := by decide +kernel
theorem dX7_crossed_30 : decode cX7_crossed 30 = .ok (.iload_n 2, 1) := by decide +kernel
theorem dX7_crossed_31 : decode cX7_crossed 31 = .ok (.irem, 1) := by decide +kernel
theorem dX7_crossed_32 : decode cX7_crossed 32 = .ok (.istore 5, 2) := by decide +kernel
theorem dX7_crossed_34 : decode cX7_crossed 34 = .ok (.iload_n 3, 1) := by decide +kernel
theorem dX7_crossed_35 : decode cX7_crossed 35 = .ok (.iload_n 1, 1) := by decide +kernel
theorem dX7_crossed_36 : decode cX7_crossed 36 = .ok (.iload_n 2, 1) := by decide +kernel
theorem dX7_crossed_37 : decode cX7_crossed 37 = .ok (.idiv, 1) := by decide +kernel
theorem dX7_crossed_38 : decode cX7_crossed 38 = .ok (.iadd, 1) := by decide +kernel
theorem dX7_crossed_39 : decode cX7_crossed 39 = .ok (.istore_n 3, 1) := by decide +kernel
theorem dX7_crossed_40 : decode cX7_crossed 40 = .ok (.iload_n 2, 1) := by decide +kernel
theorem dX7_crossed_41 : decode cX7_crossed 41 = .ok (.istore_n 1, 1) := by decide +kernel
theorem dX7_crossed_42 : decode cX7_crossed 42 = .ok (.iload 5, 2) := by decide +kernel
theorem dX7_crossed_44 : decode cX7_crossed 44 = .ok (.istore_n 2, 1) := by decide +kernel
theorem dX7_crossed_45 : decode cX7_crossed 45 = .ok (.iinc 4 1, 3) := by decide +kernel
theorem dX7_crossed_48 : decode cX7_crossed 48 = .ok (.goto (-30), 3) := by decide +kernel
theorem dX7_crossed_51 : decode cX7_crossed 51 = .ok (.iload_n 3, 1) := by decide +kernel
theorem dX7_crossed_52 : decode cX7_crossed 52 = .ok (.ireturn, 1) := by decide +kernel
theorem dX7_untying_0 : decode cX7_untying 0 = .ok (.aload_n 0, 1) := by decide +kernel
theorem dX7_untying_1 : decode cX7_untying 1 = .ok (.getfield 9, 3) := by decide +kernel
theorem dX7_untying_4 : decode cX7_untying 4 = .ok (.ifCond .ge 7, 3) := by decide +kernel
theorem dX7_untying_7 : decode cX7_untying 7 = .ok (.iconst 0, 1) := by decide +kernel
theorem dX7_untying_8 : decode cX7_untying 8 = .ok (.goto 4, 3) := by decide +kernel
theorem dX7_untying_11 : decode cX7_untying 11 = .ok (.iconst 2, 1) := by decide +kernel
theorem dX7_untying_12 : decode cX7_untying 12 = .ok (.ireturn, 1) := by decide +kernel
theorem dX8_hasRoom_0 : decode cX8_hasRoom 0 = .ok (.aload_n 0, 1) := by decide +kernel
theorem dX8_hasRoom_1 : decode cX8_hasRoom 1 = .ok (.getfield 15, 3) := by decide +kernel
theorem dX8_hasRoom_4 : decode cX8_hasRoom 4 = .ok (.bipush 20, 2) := by decide +kernel
theorem dX8_hasRoom_6 : decode cX8_hasRoom 6 = .ok (.iadd, 1) := by decide +kernel
theorem dX8_hasRoom_7 : decode cX8_hasRoom 7 = .ok (.sipush 600, 3) := by decide +kernel
theorem dX8_hasRoom_10 : decode cX8_hasRoom 10 = .ok (.if_icmp .gt 7, 3) := by decide +kernel
theorem dX8_hasRoom_13 : decode cX8_hasRoom 13 = .ok (.iconst 1, 1) := by decide +kernel
theorem dX8_hasRoom_14 : decode cX8_hasRoom 14 = .ok (.goto 4, 3) := by decide +kernel
theorem dX8_hasRoom_17 : decode cX8_hasRoom 17 = .ok (.iconst 0, 1) := by decide +kernel
theorem dX8_hasRoom_18 : decode cX8_hasRoom 18 = .ok (.ireturn, 1) := by decide +kernel
theorem dX8_take_0 : decode cX8_take 0 = .ok (.bipush 24, 2) := by decide +kernel
theorem dX8_take_2 : decode cX8_take 2 = .ok (.istore_n 2, 1) := by decide +kernel
theorem dX8_take_3 : decode cX8_take 3 = .ok (.iload_n 2, 1) := by decide +kernel
theorem dX8_take_4 : decode cX8_take 4 = .ok (.ifCond .lt 37, 3) := by decide +kernel
theorem dX8_take_7 : decode cX8_take 7 = .ok (.aload_n 0, 1) := by decide +kernel
theorem dX8_take_8 : decode cX8_take 8 = .ok (.getfield 11, 3) := by decide +kernel
theorem dX8_take_11 : decode cX8_take 11 = .ok (.aload_n 0, 1) := by decide +kernel
theorem dX8_take_12 : decode cX8_take 12 = .ok (.getfield 15, 3) := by decide +kernel
theorem dX8_take_15 : decode cX8_take 15 = .ok (.iload_n 1, 1) := by decide +kernel
theorem dX8_take_16 : decode cX8_take 16 = .ok (.iload_n 2, 1) := by decide +kernel
theorem dX8_take_17 : decode cX8_take 17 = .ok (.ishr, 1) := by decide +kernel
theorem dX8_take_18 : decode cX8_take 18 = .ok (.sipush 255, 3) := by decide +kernel
theorem dX8_take_21 : decode cX8_take 21 = .ok (.iand, 1) := by decide +kernel
theorem dX8_take_22 : decode cX8_take 22 = .ok (.invokestatic 19, 3) := by decide +kernel
theorem dX8_take_25 : decode cX8_take 25 = .ok (.aload_n 0, 1) := by decide +kernel
theorem dX8_take_26 : decode cX8_take 26 = .ok (.dup, 1) := by decide +kernel
theorem dX8_take_27 : decode cX8_take 27 = .ok (.getfield 15, 3) := by decide +kernel
theorem dX8_take_30 : decode cX8_take 30 = .ok (.iconst 1, 1) := by decide +kernel
theorem dX8_take_31 : decode cX8_take 31 = .ok (.iadd, 1) := by decide +kernel
theorem dX8_take_32 : decode cX8_take 32 = .ok (.putfield 15, 3) := by decide +kernel
theorem dX8_take_35 : decode cX8_take 35 = .ok (.iinc 2 (-8), 3) := by decide +kernel
theorem dX8_take_38 : decode cX8_take 38 = .ok (.goto (-35), 3) := by decide +kernel
theorem dX8_take_41 : decode cX8_take 41 = .ok (.return_, 1) := by decide +kernel
theorem dX8_read_0 : decode cX8_read 0 = .ok (.aload_n 0, 1) := by decide +kernel
theorem dX8_read_1 : decode cX8_read 1 = .ok (.iconst 0, 1) := by decide +kernel
theorem dX8_read_2 : decode cX8_read 2 = .ok (.putfield 15, 3) := by decide +kernel
theorem dX8_read_5 : decode cX8_read 5 = .ok (.aload_n 0, 1) := by decide +kernel
theorem dX8_read_6 : decode cX8_read 6 = .ok (.iload_n 2, 1) := by decide +kernel
theorem dX8_read_7 : decode cX8_read 7 = .ok (.putfield 23, 3) := by decide +kernel
theorem dX8_read_10 : decode cX8_read 10 = .ok (.aload_n 0, 1) := by decide +kernel
theorem dX8_read_11 : decode cX8_read 11 = .ok (.iconst 0, 1) := by decide +kernel
theorem dX8_read_12 : decode cX8_read 12 = .ok (.putfield 26, 3) := by decide +kernel
theorem dX8_read_15 : decode cX8_read 15 = .ok (.aload_n 0, 1) := by decide +kernel
theorem dX8_read_16 : decode cX8_read 16 = .ok (.iconst 0, 1) := by decide +kernel
theorem dX8_read_17 : decode cX8_read 17 = .ok (.putfield 29, 3) := by decide +kernel
theorem dX8_read_20 : decode cX8_read 20 = .ok (.aload_n 0, 1) := by decide +kernel
theorem dX8_read_21 : decode cX8_read 21 = .ok (.iconst 0, 1) := by decide +kernel
theorem dX8_read_22 : decode cX8_read 22 = .ok (.putfield 33, 3) := by decide +kernel
theorem dX8_read_25 : decode cX8_read 25 = .ok (.aload_n 0, 1) := by decide +kernel
theorem dX8_read_26 : decode cX8_read 26 = .ok (.iconst (-1), 1) := by decide +kernel
theorem dX8_read_27 : decode cX8_read 27 = .ok (.putfield 36, 3) := by decide +kernel
theorem dX8_read_30 : decode cX8_read 30 = .ok (.aload_n 1, 1) := by decide +kernel
theorem dX8_read_31 : decode cX8_read 31 = .ok (.invokevirtual 39, 3) := by decide +kernel
theorem dX8_read_34 : decode cX8_read 34 = .ok (.aload_n 0, 1) := by decide +kernel
theorem dX8_read_35 : decode cX8_read 35 = .ok (.invokevirtual 44, 3) := by decide +kernel
theorem dX8_read_38 : decode cX8_read 38 = .ok (.aload_n 0, 1) := by decide +kernel
theorem dX8_read_39 : decode cX8_read 39 = .ok (.aload_n 1, 1) := by decide +kernel
theorem dX8_read_40 : decode cX8_read 40 = .ok (.invokevirtual 47, 3) := by decide +kernel
theorem dX8_read_43 : decode cX8_read 43 = .ok (.istore_n 3, 1) := by decide +kernel
theorem dX8_read_44 : decode cX8_read 44 = .ok (.iconst 0, 1) := by decide +kernel
theorem dX8_read_45 : decode cX8_read 45 = .ok (.istore 4, 2) := by decide +kernel
theorem dX8_read_47 : decode cX8_read 47 = .ok (.iload 4, 2) := by decide +kernel
theorem dX8_read_49 : decode cX8_read 49 = .ok (.ldc 51, 2) := by decide +kernel
theorem dX8_read_51 : decode cX8_read 51 = .ok (.if_icmp .ge 31, 3) := by decide +kernel
theorem dX8_read_54 : decode cX8_read 54 = .ok (.iload_n 3, 1) := by decide +kernel
theorem dX8_read_55 : decode cX8_read 55 = .ok (.ifCond .eq 27, 3) := by decide +kernel
theorem dX8_read_58 : decode cX8_read 58 = .ok (.aload_n 0, 1) := by decide +kernel
theorem dX8_read_59 : decode cX8_read 59 = .ok (.getfield 52, 3) := by decide +kernel
theorem dX8_read_62 : decode cX8_read 62 = .ok (.iconst 3, 1) := by decide +kernel
theorem dX8_read_63 : decode cX8_read 63 = .ok (.if_icmp .ne 19, 3) := by decide +kernel
theorem dX8_read_66 : decode cX8_read 66 = .ok (.aload_n 0, 1) := by decide +kernel
theorem dX8_read_67 : decode cX8_read 67 = .ok (.invokevirtual 44, 3) := by decide +kernel
theorem dX8_read_70 : decode cX8_read 70 = .ok (.aload_n 0, 1) := by decide +kernel
theorem dX8_read_71 : decode cX8_read 71 = .ok (.aload_n 1, 1) := by decide +kernel
theorem dX8_read_72 : decode cX8_read 72 = .ok (.invokevirtual 47, 3) := by decide +kernel
theorem dX8_read_75 : decode cX8_read 75 = .ok (.istore_n 3, 1) := by decide +kernel
theorem dX8_read_76 : decode cX8_read 76 = .ok (.iinc 4 1, 3) := by decide +kernel
theorem dX8_read_79 : decode cX8_read 79 = .ok (.goto (-32), 3) := by decide +kernel
theorem dX8_read_82 : decode cX8_read 82 = .ok (.iload_n 3, 1) := by decide +kernel
theorem dX8_read_83 : decode cX8_read 83 = .ok (.ifCond .ne 5, 3) := by decide +kernel
theorem dX8_read_86 : decode cX8_read 86 = .ok (.iconst 0, 1) := by decide +kernel
theorem dX8_read_87 : decode cX8_read 87 = .ok (.ireturn, 1) := by decide +kernel
theorem dX8_read_88 : decode cX8_read 88 = .ok (.aload_n 0, 1) := by decide +kernel
theorem dX8_read_89 : decode cX8_read 89 = .ok (.getfield 52, 3) := by decide +kernel
theorem dX8_read_92 : decode cX8_read 92 = .ok (.ifCond .eq 9, 3) := by decide +kernel
theorem dX8_read_95 : decode cX8_read 95 = .ok (.aload_n 0, 1) := by decide +kernel
theorem dX8_read_96 : decode cX8_read 96 = .ok (.iconst 1, 1) := by decide +kernel
theorem dX8_read_97 : decode cX8_read 97 = .ok (.invokevirtual 55, 3) := by decide +kernel
theorem dX8_read_100 : decode cX8_read 100 = .ok (.ireturn, 1) := by decide +kernel
theorem dX8_read_101 : decode cX8_read 101 = .ok (.aload_n 1, 1) := by decide +kernel
theorem dX8_read_102 : decode cX8_read 102 = .ok (.getfield 59, 3) := by decide +kernel
theorem dX8_read_105 : decode cX8_read 105 = .ok (.ifCond .gt 12, 3) := by decide +kernel
theorem dX8_read_108 : decode cX8_read 108 = .ok (.aload_n 0, 1) := by decide +kernel
theorem dX8_read_109 : decode cX8_read 109 = .ok (.bipush 6, 2) := by decide +kernel
theorem dX8_read_111 : decode cX8_read 111 = .ok (.invokevirtual 55, 3) := by decide +kernel
theorem dX8_read_114 : decode cX8_read 114 = .ok (.ifCond .eq 7, 3) := by decide +kernel
theorem dX8_read_117 : decode cX8_read 117 = .ok (.iconst 1, 1) := by decide +kernel
theorem dX8_read_118 : decode cX8_read 118 = .ok (.goto 4, 3) := by decide +kernel
theorem dX8_read_121 : decode cX8_read 121 = .ok (.iconst 0, 1) := by decide +kernel
theorem dX8_read_122 : decode cX8_read 122 = .ok (.ireturn, 1) := by decide +kernel
theorem dX8_readLine_0 : decode cX8_readLine 0 = .ok (.aload_n 0, 1) := by decide +kernel
theorem dX8_readLine_1 : decode cX8_readLine 1 = .ok (.ldc 62, 2) := by decide +kernel
theorem dX8_readLine_3 : decode cX8_readLine 3 = .ok (.invokevirtual 64, 3) := by decide +kernel
theorem dX8_readLine_6 : decode cX8_readLine 6 = .ok (.ifCond .eq 9, 3) := by decide +kernel
theorem dX8_readLine_9 : decode cX8_readLine 9 = .ok (.aload_n 0, 1) := by decide +kernel
theorem dX8_readLine_10 : decode cX8_readLine 10 = .ok (.aload_n 1, 1) := by decide +kernel
theorem dX8_readLine_11 : decode cX8_readLine 11 = .ok (.invokevirtual 68, 3) := by decide +kernel
theorem dX8_readLine_14 : decode cX8_readLine 14 = .ok (.ireturn, 1) := by decide +kernel
theorem dX8_readLine_15 : decode cX8_readLine 15 = .ok (.aload_n 0, 1) := by decide +kernel
theorem dX8_readLine_16 : decode cX8_readLine 16 = .ok (.ldc 71, 2) := by decide +kernel
theorem dX8_readLine_18 : decode cX8_readLine 18 = .ok (.invokevirtual 64, 3) := by decide +kernel
theorem dX8_readLine_21 : decode cX8_readLine 21 = .ok (.ifCond .eq 9, 3) := by decide +kernel
theorem dX8_readLine_24 : decode cX8_readLine 24 = .ok (.aload_n 0, 1) := by decide +kernel
theorem dX8_readLine_25 : decode cX8_readLine 25 = .ok (.aload_n 1, 1) := by decide +kernel
theorem dX8_readLine_26 : decode cX8_readLine 26 = .ok (.invokevirtual 73, 3) := by decide +kernel
theorem dX8_readLine_29 : decode cX8_readLine 29 = .ok (.ireturn, 1) := by decide +kernel
theorem dX8_readLine_30 : decode cX8_readLine 30 = .ok (.aload_n 0, 1) := by decide +kernel
theorem dX8_readLine_31 : decode cX8_readLine 31 = .ok (.ldc 76, 2) := by decide +kernel
theorem dX8_readLine_33 : decode cX8_readLine 33 = .ok (.invokevirtual 64, 3) := by decide +kernel
theorem dX8_readLine_36 : decode cX8_readLine 36 = .ok (.ifCond .eq 9, 3) := by decide +kernel
theorem dX8_readLine_39 : decode cX8_readLine 39 = .ok (.aload_n 0, 1) := by decide +kernel
theorem dX8_readLine_40 : decode cX8_readLine 40 = .ok (.aload_n 1, 1) := by decide +kernel
theorem dX8_readLine_41 : decode cX8_readLine 41 = .ok (.invokevirtual 78, 3) := by decide +kernel
theorem dX8_readLine_44 : decode cX8_readLine 44 = .ok (.ireturn, 1) := by decide +kernel
theorem dX8_readLine_45 : decode cX8_readLine 45 = .ok (.aload_n 0, 1) := by decide +kernel
theorem dX8_readLine_46 : decode cX8_readLine 46 = .ok (.ldc 81, 2) := by decide +kernel
theorem dX8_readLine_48 : decode cX8_readLine 48 = .ok (.invokevirtual 64, 3) := by decide +kernel
theorem dX8_readLine_51 : decode cX8_readLine 51 = .ok (.ifCond .eq 9, 3) := by decide +kernel
theorem dX8_readLine_54 : decode cX8_readLine 54 = .ok (.aload_n 0, 1) := by decide +kernel
theorem dX8_readLine_55 : decode cX8_readLine 55 = .ok (.aload_n 1, 1) := by decide +kernel
theorem dX8_readLine_56 : decode cX8_readLine 56 = .ok (.invokevirtual 83, 3) := by decide +kernel
theorem dX8_readLine_59 : decode cX8_readLine 59 = .ok (.ireturn, 1) := by decide +kernel
theorem dX8_readLine_60 : decode cX8_readLine 60 = .ok (.aload_n 0, 1) := by decide +kernel
theorem dX8_readLine_61 : decode cX8_readLine 61 = .ok (.iconst 1, 1) := by decide +kernel
theorem dX8_readLine_62 : decode cX8_readLine 62 = .ok (.invokevirtual 55, 3) := by decide +kernel
theorem dX8_readLine_65 : decode cX8_readLine 65 = .ok (.ireturn, 1) := by decide +kernel
theorem dX8_readSlips_0 : decode cX8_readSlips 0 = .ok (.aload_n 0, 1) := by decide +kernel
theorem dX8_readSlips_1 : decode cX8_readSlips 1 = .ok (.getfield 29, 3) := by decide +kernel
theorem dX8_readSlips_4 : decode cX8_readSlips 4 = .ok (.ifCond .eq 9, 3) := by decide +kernel
theorem dX8_readSlips_7 : decode cX8_readSlips 7 = .ok (.aload_n 0, 1) := by decide +kernel
theorem dX8_readSlips_8 : decode cX8_readSlips 8 = .ok (.iconst 3, 1) := by decide +kernel
theorem dX8_readSlips_9 : decode cX8_readSlips 9 = .ok (.invokevirtual 55, 3) := by decide +kernel
theorem dX8_readSlips_12 : decode cX8_readSlips 12 = .ok (.ireturn, 1) := by decide +kernel
theorem dX8_readSlips_13 : decode cX8_readSlips 13 = .ok (.aload_n 0, 1) := by decide +kernel
theorem dX8_readSlips_14 : decode cX8_readSlips 14 = .ok (.iconst 1, 1) := by decide +kernel
theorem dX8_readSlips_15 : decode cX8_readSlips 15 = .ok (.putfield 29, 3) := by decide +kernel
theorem dX8_readSlips_18 : decode cX8_readSlips 18 = .ok (.aload_n 0, 1) := by decide +kernel
theorem dX8_readSlips_19 : decode cX8_readSlips 19 = .ok (.invokevirtual 44, 3) := by decide +kernel
theorem dX8_readSlips_22 : decode cX8_readSlips 22 = .ok (.aload_n 0, 1) := by decide +kernel
theorem dX8_readSlips_23 : decode cX8_readSlips 23 = .ok (.ldc 86, 2) := by decide +kernel
theorem dX8_readSlips_25 : decode cX8_readSlips 25 = .ok (.invokevirtual 64, 3) := by decide +kernel
theorem dX8_readSlips_28 : decode cX8_readSlips 28 = .ok (.ifCond .ne 9, 3) := by decide +kernel
theorem dX8_readSlips_31 : decode cX8_readSlips 31 = .ok (.aload_n 0, 1) := by decide +kernel
theorem dX8_readSlips_32 : decode cX8_readSlips 32 = .ok (.iconst 1, 1) := by decide +kernel
theorem dX8_readSlips_33 : decode cX8_readSlips 33 = .ok (.invokevirtual 55, 3) := by decide +kernel
theorem dX8_readSlips_36 : decode cX8_readSlips 36 = .ok (.ireturn, 1) := by decide +kernel
theorem dX8_readSlips_37 : decode cX8_readSlips 37 = .ok (.aload_n 0, 1) := by decide +kernel
theorem dX8_readSlips_38 : decode cX8_readSlips 38 = .ok (.invokevirtual 44, 3) := by decide +kernel
theorem dX8_readSlips_41 : decode cX8_readSlips 41 = .ok (.aload_n 0, 1) := by decide +kernel
theorem dX8_readSlips_42 : decode cX8_readSlips 42 = .ok (.bipush 100, 2) := by decide +kernel
theorem dX8_readSlips_44 : decode cX8_readSlips 44 = .ok (.invokevirtual 88, 3) := by decide +kernel
theorem dX8_readSlips_47 : decode cX8_readSlips 47 = .ok (.ifCond .ne 5, 3) := by decide +kernel
theorem dX8_readSlips_50 : decode cX8_readSlips 50 = .ok (.iconst 0, 1) := by decide +kernel
theorem dX8_readSlips_51 : decode cX8_readSlips 51 = .ok (.ireturn, 1) := by decide +kernel
theorem dX8_readSlips_52 : decode cX8_readSlips 52 = .ok (.aload_n 1, 1) := by decide +kernel
theorem dX8_readSlips_53 : decode cX8_readSlips 53 = .ok (.aload_n 0, 1) := by decide +kernel
theorem dX8_readSlips_54 : decode cX8_readSlips 54 = .ok (.getfield 91, 3) := by decide +kernel
theorem dX8_readSlips_57 : decode cX8_readSlips 57 = .ok (.putfield 94, 3) := by decide +kernel
theorem dX8_readSlips_60 : decode cX8_readSlips 60 = .ok (.aload_n 0, 1) := by decide +kernel
theorem dX8_readSlips_61 : decode cX8_readSlips 61 = .ok (.invokevirtual 44, 3) := by decide +kernel
theorem dX8_readSlips_64 : decode cX8_readSlips 64 = .ok (.iconst 1, 1) := by decide +kernel
theorem dX8_readSlips_65 : decode cX8_readSlips 65 = .ok (.ireturn, 1) := by decide +kernel
theorem dX8_readDance_0 : decode cX8_readDance 0 = .ok (.aload_n 0, 1) := by decide +kernel
theorem dX8_readDance_1 : decode cX8_readDance 1 = .ok (.getfield 29, 3) := by decide +kernel
theorem dX8_readDance_4 : decode cX8_readDance 4 = .ok (.ifCond .ne 10, 3) := by decide +kernel
theorem dX8_readDance_7 : decode cX8_readDance 7 = .ok (.aload_n 0, 1) := by decide +kernel
theorem dX8_readDance_8 : decode cX8_readDance 8 = .ok (.bipush 6, 2) := by decide +kernel
theorem dX8_readDance_10 : decode cX8_readDance 10 = .ok (.invokevirtual 55, 3) := by decide +kernel
theorem dX8_readDance_13 : decode cX8_readDance 13 = .ok (.ireturn, 1) := by decide +kernel
theorem dX8_readDance_14 : decode cX8_readDance 14 = .ok (.aload_n 1, 1) := by decide +kernel
theorem dX8_readDance_15 : decode cX8_readDance 15 = .ok (.invokevirtual 96, 3) := by decide +kernel
theorem dX8_readDance_18 : decode cX8_readDance 18 = .ok (.astore_n 2, 1) := by decide +kernel
theorem dX8_readDance_19 : decode cX8_readDance 19 = .ok (.aload_n 2, 1) := by decide +kernel
theorem dX8_readDance_20 : decode cX8_readDance 20 = .ok (.ifnonnull 9, 3) := by decide +kernel
theorem dX8_readDance_23 : decode cX8_readDance 23 = .ok (.aload_n 0, 1) := by decide +kernel
theorem dX8_readDance_24 : decode cX8_readDance 24 = .ok (.iconst 5, 1) := by decide +kernel
theorem dX8_readDance_25 : decode cX8_readDance 25 = .ok (.invokevirtual 55, 3) := by decide +kernel
theorem dX8_readDance_28 : decode cX8_readDance 28 = .ok (.ireturn, 1) := by decide +kernel
theorem dX8_readDance_29 : decode cX8_readDance 29 = .ok (.aload_n 0, 1) := by decide +kernel
theorem dX8_readDance_30 : decode cX8_readDance 30 = .ok (.invokevirtual 44, 3) := by decide +kernel
theorem dX8_readDance_33 : decode cX8_readDance 33 = .ok (.aload_n 0, 1) := by decide +kernel
theorem dX8_readDance_34 : decode cX8_readDance 34 = .ok (.invokevirtual 100, 3) := by decide +kernel
theorem dX8_readDance_37 : decode cX8_readDance 37 = .ok (.ifCond .ne 9, 3) := by decide +kernel
theorem dX8_readDance_40 : decode cX8_readDance 40 = .ok (.aload_n 0, 1) := by decide +kernel
theorem dX8_readDance_41 : decode cX8_readDance 41 = .ok (.iconst 1, 1) := by decide +kernel
theorem dX8_readDance_42 : decode cX8_readDance 42 = .ok (.invokevirtual 55, 3) := by decide +kernel
theorem dX8_readDance_45 : decode cX8_readDance 45 = .ok (.ireturn, 1) := by decide +kernel
theorem dX8_readDance_46 : decode cX8_readDance 46 = .ok (.aload_n 0, 1) := by decide +kernel
theorem dX8_readDance_47 : decode cX8_readDance 47 = .ok (.aload_n 1, 1) := by decide +kernel
theorem dX8_readDance_48 : decode cX8_readDance 48 = .ok (.invokevirtual 104, 3) := by decide +kernel
theorem dX8_readDance_51 : decode cX8_readDance 51 = .ok (.iconst (-1), 1) := by decide +kernel
theorem dX8_readDance_52 : decode cX8_readDance 52 = .ok (.if_icmp .eq 9, 3) := by decide +kernel
theorem dX8_readDance_55 : decode cX8_readDance 55 = .ok (.aload_n 0, 1) := by decide +kernel
theorem dX8_readDance_56 : decode cX8_readDance 56 = .ok (.iconst 3, 1) := by decide +kernel
theorem dX8_readDance_57 : decode cX8_readDance 57 = .ok (.invokevirtual 55, 3) := by decide +kernel
theorem dX8_readDance_60 : decode cX8_readDance 60 = .ok (.ireturn, 1) := by decide +kernel
theorem dX8_readDance_61 : decode cX8_readDance 61 = .ok (.aload_n 2, 1) := by decide +kernel
theorem dX8_readDance_62 : decode cX8_readDance 62 = .ok (.aload_n 0, 1) := by decide +kernel
theorem dX8_readDance_63 : decode cX8_readDance 63 = .ok (.getfield 108, 3) := by decide +kernel
theorem dX8_readDance_66 : decode cX8_readDance 66 = .ok (.putfield 111, 3) := by decide +kernel
theorem dX8_readDance_69 : decode cX8_readDance 69 = .ok (.aload_n 2, 1) := by decide +kernel
theorem dX8_readDance_70 : decode cX8_readDance 70 = .ok (.aload_n 0, 1) := by decide +kernel
theorem dX8_readDance_71 : decode cX8_readDance 71 = .ok (.getfield 116, 3) := by decide +kernel
theorem dX8_readDance_74 : decode cX8_readDance 74 = .ok (.putfield 119, 3) := by decide +kernel
theorem dX8_readDance_77 : decode cX8_readDance 77 = .ok (.aload_n 0, 1) := by decide +kernel
theorem dX8_readDance_78 : decode cX8_readDance 78 = .ok (.invokevirtual 44, 3) := by decide +kernel
theorem dX8_readDance_81 : decode cX8_readDance 81 = .ok (.aload_n 0, 1) := by decide +kernel
theorem dX8_readDance_82 : decode cX8_readDance 82 = .ok (.aload_n 2, 1) := by decide +kernel
theorem dX8_readDance_83 : decode cX8_readDance 83 = .ok (.invokevirtual 122, 3) := by decide +kernel
theorem dX8_readDance_86 : decode cX8_readDance 86 = .ok (.ifCond .ne 5, 3) := by decide +kernel
theorem dX8_readDance_89 : decode cX8_readDance 89 = .ok (.iconst 0, 1) := by decide +kernel
theorem dX8_readDance_90 : decode cX8_readDance 90 = .ok (.ireturn, 1) := by decide +kernel
theorem dX8_readDance_91 : decode cX8_readDance 91 = .ok (.aload_n 1, 1) := by decide +kernel
theorem dX8_readDance_92 : decode cX8_readDance 92 = .ok (.dup, 1) := by decide +kernel
theorem dX8_readDance_93 : decode cX8_readDance 93 = .ok (.getfield 59, 3) := by decide +kernel
theorem dX8_readDance_96 : decode cX8_readDance 96 = .ok (.iconst 1, 1) := by decide +kernel
theorem dX8_readDance_97 : decode cX8_readDance 97 = .ok (.iadd, 1) := by decide +kernel
theorem dX8_readDance_98 : decode cX8_readDance 98 = .ok (.putfield 59, 3) := by decide +kernel
theorem dX8_readDance_101 : decode cX8_readDance 101 = .ok (.aload_n 0, 1) := by decide +kernel
theorem dX8_readDance_102 : decode cX8_readDance 102 = .ok (.invokevirtual 44, 3) := by decide +kernel
theorem dX8_readDance_105 : decode cX8_readDance 105 = .ok (.iconst 1, 1) := by decide +kernel
theorem dX8_readDance_106 : decode cX8_readDance 106 = .ok (.ireturn, 1) := by decide +kernel
theorem dX8_readRow_0 : decode cX8_readRow 0 = .ok (.aload_n 0, 1) := by decide +kernel
theorem dX8_readRow_1 : decode cX8_readRow 1 = .ok (.getfield 52, 3) := by decide +kernel
theorem dX8_readRow_4 : decode cX8_readRow 4 = .ok (.iconst 1, 1) := by decide +kernel
theorem dX8_readRow_5 : decode cX8_readRow 5 = .ok (.if_icmp .eq 9, 3) := by decide +kernel
theorem dX8_readRow_8 : decode cX8_readRow 8 = .ok (.aload_n 0, 1) := by decide +kernel
theorem dX8_readRow_9 : decode cX8_readRow 9 = .ok (.iconst 1, 1) := by decide +kernel
theorem dX8_readRow_10 : decode cX8_readRow 10 = .ok (.invokevirtual 55, 3) := by decide +kernel
theorem dX8_readRow_13 : decode cX8_readRow 13 = .ok (.ireturn, 1) := by decide +kernel
theorem dX8_readRow_14 : decode cX8_readRow 14 = .ok (.aload_n 1, 1) := by decide +kernel
theorem dX8_readRow_15 : decode cX8_readRow 15 = .ok (.iconst 0, 1) := by decide +kernel
theorem dX8_readRow_16 : decode cX8_readRow 16 = .ok (.putfield 126, 3) := by decide +kernel
theorem dX8_readRow_19 : decode cX8_readRow 19 = .ok (.iconst 0, 1) := by decide +kernel
theorem dX8_readRow_20 : decode cX8_readRow 20 = .ok (.istore_n 2, 1) := by decide +kernel
theorem dX8_readRow_21 : decode cX8_readRow 21 = .ok (.iload_n 2, 1) := by decide +kernel
theorem dX8_readRow_22 : decode cX8_readRow 22 = .ok (.aload_n 0, 1) := by decide +kernel
theorem dX8_readRow_23 : decode cX8_readRow 23 = .ok (.getfield 116, 3) := by decide +kernel
theorem dX8_readRow_26 : decode cX8_readRow 26 = .ok (.if_icmp .ge 43, 3) := by decide +kernel
theorem dX8_readRow_29 : decode cX8_readRow 29 = .ok (.aload_n 0, 1) := by decide +kernel
theorem dX8_readRow_30 : decode cX8_readRow 30 = .ok (.getfield 11, 3) := by decide +kernel
theorem dX8_readRow_33 : decode cX8_readRow 33 = .ok (.aload_n 0, 1) := by decide +kernel
theorem dX8_readRow_34 : decode cX8_readRow 34 = .ok (.getfield 108, 3) := by decide +kernel
theorem dX8_readRow_37 : decode cX8_readRow 37 = .ok (.iload_n 2, 1) := by decide +kernel
theorem dX8_readRow_38 : decode cX8_readRow 38 = .ok (.iadd, 1) := by decide +kernel
theorem dX8_readRow_39 : decode cX8_readRow 39 = .ok (.invokestatic 127, 3) := by decide +kernel
theorem dX8_readRow_42 : decode cX8_readRow 42 = .ok (.invokestatic 131, 3) := by decide +kernel
theorem dX8_readRow_45 : decode cX8_readRow 45 = .ok (.istore_n 3, 1) := by decide +kernel
theorem dX8_readRow_46 : decode cX8_readRow 46 = .ok (.iload_n 3, 1) := by decide +kernel
theorem dX8_readRow_47 : decode cX8_readRow 47 = .ok (.iconst (-1), 1) := by decide +kernel
theorem dX8_readRow_48 : decode cX8_readRow 48 = .ok (.if_icmp .ne 10, 3) := by decide +kernel
theorem dX8_readRow_51 : decode cX8_readRow 51 = .ok (.aload_n 0, 1) := by decide +kernel
theorem dX8_readRow_52 : decode cX8_readRow 52 = .ok (.bipush 7, 2) := by decide +kernel
theorem dX8_readRow_54 : decode cX8_readRow 54 = .ok (.invokevirtual 55, 3) := by decide +kernel
theorem dX8_readRow_57 : decode cX8_readRow 57 = .ok (.ireturn, 1) := by decide +kernel
theorem dX8_readRow_58 : decode cX8_readRow 58 = .ok (.aload_n 1, 1) := by decide +kernel
theorem dX8_readRow_59 : decode cX8_readRow 59 = .ok (.iload_n 3, 1) := by decide +kernel
theorem dX8_readRow_60 : decode cX8_readRow 60 = .ok (.invokevirtual 135, 3) := by decide +kernel
theorem dX8_readRow_63 : decode cX8_readRow 63 = .ok (.iinc 2 1, 3) := by decide +kernel
theorem dX8_readRow_66 : decode cX8_readRow 66 = .ok (.goto (-45), 3) := by decide +kernel
theorem dX8_readRow_69 : decode cX8_readRow 69 = .ok (.iconst 1, 1) := by decide +kernel
theorem dX8_readRow_70 : decode cX8_readRow 70 = .ok (.ireturn, 1) := by decide +kernel
theorem dX8_readUnsure_0 : decode cX8_readUnsure 0 = .ok (.aload_n 0, 1) := by decide +kernel
theorem dX8_readUnsure_1 : decode cX8_readUnsure 1 = .ok (.getfield 29, 3) := by decide +kernel
theorem dX8_readUnsure_4 : decode cX8_readUnsure 4 = .ok (.ifCond .ne 10, 3) := by decide +kernel
theorem dX8_readUnsure_7 : decode cX8_readUnsure 7 = .ok (.aload_n 0, 1) := by decide +kernel
theorem dX8_readUnsure_8 : decode cX8_readUnsure 8 = .ok (.bipush 6, 2) := by decide +kernel
theorem dX8_readUnsure_10 : decode cX8_readUnsure 10 = .ok (.invokevirtual 55, 3) := by decide +kernel
theorem dX8_readUnsure_13 : decode cX8_readUnsure 13 = .ok (.ireturn, 1) := by decide +kernel
theorem dX8_readUnsure_14 : decode cX8_readUnsure 14 = .ok (.aload_n 1, 1) := by decide +kernel
theorem dX8_readUnsure_15 : decode cX8_readUnsure 15 = .ok (.getfield 139, 3) := by decide +kernel
theorem dX8_readUnsure_18 : decode cX8_readUnsure 18 = .ok (.iconst 4, 1) := by decide +kernel
theorem dX8_readUnsure_19 : decode cX8_readUnsure 19 = .ok (.if_icmp .lt 9, 3) := by decide +kernel
theorem dX8_readUnsure_22 : decode cX8_readUnsure 22 = .ok (.aload_n 0, 1) := by decide +kernel
theorem dX8_readUnsure_23 : decode cX8_readUnsure 23 = .ok (.iconst 5, 1) := by decide +kernel
theorem dX8_readUnsure_24 : decode cX8_readUnsure 24 = .ok (.invokevirtual 55, 3) := by decide +kernel
theorem dX8_readUnsure_27 : decode cX8_readUnsure 27 = .ok (.ireturn, 1) := by decide +kernel
theorem dX8_readUnsure_28 : decode cX8_readUnsure 28 = .ok (.aload_n 0, 1) := by decide +kernel
theorem dX8_readUnsure_29 : decode cX8_readUnsure 29 = .ok (.aload_n 1, 1) := by decide +kernel
theorem dX8_readUnsure_30 : decode cX8_readUnsure 30 = .ok (.invokevirtual 142, 3) := by decide +kernel
theorem dX8_readUnsure_33 : decode cX8_readUnsure 33 = .ok (.istore_n 2, 1) := by decide +kernel
theorem dX8_readUnsure_34 : decode cX8_readUnsure 34 = .ok (.aload_n 1, 1) := by decide +kernel
theorem dX8_readUnsure_35 : decode cX8_readUnsure 35 = .ok (.iload_n 2, 1) := by decide +kernel
theorem dX8_readUnsure_36 : decode cX8_readUnsure 36 = .ok (.invokevirtual 145, 3) := by decide +kernel
theorem dX8_readUnsure_39 : decode cX8_readUnsure 39 = .ok (.astore_n 3, 1) := by decide +kernel
theorem dX8_readUnsure_40 : decode cX8_readUnsure 40 = .ok (.aload_n 3, 1) := by decide +kernel
theorem dX8_readUnsure_41 : decode cX8_readUnsure 41 = .ok (.ifnull 16, 3) := by decide +kernel
theorem dX8_readUnsure_44 : decode cX8_readUnsure 44 = .ok (.aload_n 0, 1) := by decide +kernel
theorem dX8_readUnsure_45 : decode cX8_readUnsure 45 = .ok (.aload_n 3, 1) := by decide +kernel
theorem dX8_readUnsure_46 : decode cX8_readUnsure 46 = .ok (.getfield 126, 3) := by decide +kernel
theorem dX8_readUnsure_49 : decode cX8_readUnsure 49 = .ok (.iconst 1, 1) := by decide +kernel
theorem dX8_readUnsure_50 : decode cX8_readUnsure 50 = .ok (.isub, 1) := by decide +kernel
theorem dX8_readUnsure_51 : decode cX8_readUnsure 51 = .ok (.invokevirtual 88, 3) := by decide +kernel
theorem dX8_readUnsure_54 : decode cX8_readUnsure 54 = .ok (.ifCond .ne 5, 3) := by decide +kernel
theorem dX8_readUnsure_57 : decode cX8_readUnsure 57 = .ok (.iconst 0, 1) := by decide +kernel
theorem dX8_readUnsure_58 : decode cX8_readUnsure 58 = .ok (.ireturn, 1) := by decide +kernel
theorem dX8_readUnsure_59 : decode cX8_readUnsure 59 = .ok (.aload_n 1, 1) := by decide +kernel
theorem dX8_readUnsure_60 : decode cX8_readUnsure 60 = .ok (.iload_n 2, 1) := by decide +kernel
theorem dX8_readUnsure_61 : decode cX8_readUnsure 61 = .ok (.aload_n 0, 1) := by decide +kernel
theorem dX8_readUnsure_62 : decode cX8_readUnsure 62 = .ok (.getfield 91, 3) := by decide +kernel
theorem dX8_readUnsure_65 : decode cX8_readUnsure 65 = .ok (.invokevirtual 149, 3) := by decide +kernel
theorem dX8_readUnsure_68 : decode cX8_readUnsure 68 = .ok (.ifCond .eq 9, 3) := by decide +kernel
theorem dX8_readUnsure_71 : decode cX8_readUnsure 71 = .ok (.aload_n 0, 1) := by decide +kernel
theorem dX8_readUnsure_72 : decode cX8_readUnsure 72 = .ok (.iconst 3, 1) := by decide +kernel
theorem dX8_readUnsure_73 : decode cX8_readUnsure 73 = .ok (.invokevirtual 55, 3) := by decide +kernel
theorem dX8_readUnsure_76 : decode cX8_readUnsure 76 = .ok (.ireturn, 1) := by decide +kernel
theorem dX8_readUnsure_77 : decode cX8_readUnsure 77 = .ok (.aload_n 1, 1) := by decide +kernel
theorem dX8_readUnsure_78 : decode cX8_readUnsure 78 = .ok (.iload_n 2, 1) := by decide +kernel
theorem dX8_readUnsure_79 : decode cX8_readUnsure 79 = .ok (.aload_n 0, 1) := by decide +kernel
theorem dX8_readUnsure_80 : decode cX8_readUnsure 80 = .ok (.getfield 91, 3) := by decide +kernel
theorem dX8_readUnsure_83 : decode cX8_readUnsure 83 = .ok (.invokevirtual 153, 3) := by decide +kernel
theorem dX8_readUnsure_86 : decode cX8_readUnsure 86 = .ok (.aload_n 0, 1) := by decide +kernel
theorem dX8_readUnsure_87 : decode cX8_readUnsure 87 = .ok (.invokevirtual 44, 3) := by decide +kernel
theorem dX8_readUnsure_90 : decode cX8_readUnsure 90 = .ok (.iconst 1, 1) := by decide +kernel
theorem dX8_readUnsure_91 : decode cX8_readUnsure 91 = .ok (.ireturn, 1) := by decide +kernel
theorem dX8_readSeen_0 : decode cX8_readSeen 0 = .ok (.aload_n 0, 1) := by decide +kernel
theorem dX8_readSeen_1 : decode cX8_readSeen 1 = .ok (.getfield 29, 3) := by decide +kernel
theorem dX8_readSeen_4 : decode cX8_readSeen 4 = .ok (.ifCond .ne 10, 3) := by decide +kernel
theorem dX8_readSeen_7 : decode cX8_readSeen 7 = .ok (.aload_n 0, 1) := by decide +kernel
theorem dX8_readSeen_8 : decode cX8_readSeen 8 = .ok (.bipush 6, 2) := by decide +kernel
theorem dX8_readSeen_10 : decode cX8_readSeen 10 = .ok (.invokevirtual 55, 3) := by decide +kernel
theorem dX8_readSeen_13 : decode cX8_readSeen 13 = .ok (.ireturn, 1) := by decide +kernel
theorem dX8_readSeen_14 : decode cX8_readSeen 14 = .ok (.aload_n 1, 1) := by decide +kernel
theorem dX8_readSeen_15 : decode cX8_readSeen 15 = .ok (.getfield 157, 3) := by decide +kernel
theorem dX8_readSeen_18 : decode cX8_readSeen 18 = .ok (.bipush 6, 2) := by decide +kernel
theorem dX8_readSeen_20 : decode cX8_readSeen 20 = .ok (.if_icmp .lt 9, 3) := by decide +kernel
theorem dX8_readSeen_23 : decode cX8_readSeen 23 = .ok (.aload_n 0, 1) := by decide +kernel
theorem dX8_readSeen_24 : decode cX8_readSeen 24 = .ok (.iconst 5, 1) := by decide +kernel
theorem dX8_readSeen_25 : decode cX8_readSeen 25 = .ok (.invokevirtual 55, 3) := by decide +kernel
theorem dX8_readSeen_28 : decode cX8_readSeen 28 = .ok (.ireturn, 1) := by decide +kernel
theorem dX8_readSeen_29 : decode cX8_readSeen 29 = .ok (.aload_n 0, 1) := by decide +kernel
theorem dX8_readSeen_30 : decode cX8_readSeen 30 = .ok (.aload_n 1, 1) := by decide +kernel
theorem dX8_readSeen_31 : decode cX8_readSeen 31 = .ok (.invokevirtual 142, 3) := by decide +kernel
theorem dX8_readSeen_34 : decode cX8_readSeen 34 = .ok (.istore_n 2, 1) := by decide +kernel
theorem dX8_readSeen_35 : decode cX8_readSeen 35 = .ok (.aload_n 1, 1) := by decide +kernel
theorem dX8_readSeen_36 : decode cX8_readSeen 36 = .ok (.iload_n 2, 1) := by decide +kernel
theorem dX8_readSeen_37 : decode cX8_readSeen 37 = .ok (.invokevirtual 145, 3) := by decide +kernel
theorem dX8_readSeen_40 : decode cX8_readSeen 40 = .ok (.astore_n 3, 1) := by decide +kernel
theorem dX8_readSeen_41 : decode cX8_readSeen 41 = .ok (.aload_n 3, 1) := by decide +kernel
theorem dX8_readSeen_42 : decode cX8_readSeen 42 = .ok (.ifnull 14, 3) := by decide +kernel
theorem dX8_readSeen_45 : decode cX8_readSeen 45 = .ok (.aload_n 0, 1) := by decide +kernel
theorem dX8_readSeen_46 : decode cX8_readSeen 46 = .ok (.aload_n 3, 1) := by decide +kernel
theorem dX8_readSeen_47 : decode cX8_readSeen 47 = .ok (.getfield 126, 3) := by decide +kernel
theorem dX8_readSeen_50 : decode cX8_readSeen 50 = .ok (.invokevirtual 88, 3) := by decide +kernel
theorem dX8_readSeen_53 : decode cX8_readSeen 53 = .ok (.ifCond .ne 5, 3) := by decide +kernel
theorem dX8_readSeen_56 : decode cX8_readSeen 56 = .ok (.iconst 0, 1) := by decide +kernel
theorem dX8_readSeen_57 : decode cX8_readSeen 57 = .ok (.ireturn, 1) := by decide +kernel
theorem dX8_readSeen_58 : decode cX8_readSeen 58 = .ok (.aload_n 0, 1) := by decide +kernel
theorem dX8_readSeen_59 : decode cX8_readSeen 59 = .ok (.getfield 91, 3) := by decide +kernel
theorem dX8_readSeen_62 : decode cX8_readSeen 62 = .ok (.istore 4, 2) := by decide +kernel
theorem dX8_readSeen_64 : decode cX8_readSeen 64 = .ok (.aload_n 1, 1) := by decide +kernel
theorem dX8_readSeen_65 : decode cX8_readSeen 65 = .ok (.iload_n 2, 1) := by decide +kernel
theorem dX8_readSeen_66 : decode cX8_readSeen 66 = .ok (.iload 4, 2) := by decide +kernel
theorem dX8_readSeen_68 : decode cX8_readSeen 68 = .ok (.invokevirtual 160, 3) := by decide +kernel
theorem dX8_readSeen_71 : decode cX8_readSeen 71 = .ok (.ifCond .eq 9, 3) := by decide +kernel
theorem dX8_readSeen_74 : decode cX8_readSeen 74 = .ok (.aload_n 0, 1) := by decide +kernel
theorem dX8_readSeen_75 : decode cX8_readSeen 75 = .ok (.iconst 3, 1) := by decide +kernel
theorem dX8_readSeen_76 : decode cX8_readSeen 76 = .ok (.invokevirtual 55, 3) := by decide +kernel
theorem dX8_readSeen_79 : decode cX8_readSeen 79 = .ok (.ireturn, 1) := by decide +kernel
theorem dX8_readSeen_80 : decode cX8_readSeen 80 = .ok (.aload_n 0, 1) := by decide +kernel
theorem dX8_readSeen_81 : decode cX8_readSeen 81 = .ok (.invokevirtual 44, 3) := by decide +kernel
theorem dX8_readSeen_84 : decode cX8_readSeen 84 = .ok (.aload_n 0, 1) := by decide +kernel
theorem dX8_readSeen_85 : decode cX8_readSeen 85 = .ok (.invokevirtual 163, 3) := by decide +kernel
theorem dX8_readSeen_88 : decode cX8_readSeen 88 = .ok (.istore 5, 2) := by decide +kernel
theorem dX8_readSeen_90 : decode cX8_readSeen 90 = .ok (.iload 5, 2) := by decide +kernel
theorem dX8_readSeen_92 : decode cX8_readSeen 92 = .ok (.iconst (-1), 1) := by decide +kernel
theorem dX8_readSeen_93 : decode cX8_readSeen 93 = .ok (.if_icmp .ne 9, 3) := by decide +kernel
theorem dX8_readSeen_96 : decode cX8_readSeen 96 = .ok (.aload_n 0, 1) := by decide +kernel
theorem dX8_readSeen_97 : decode cX8_readSeen 97 = .ok (.iconst 1, 1) := by decide +kernel
theorem dX8_readSeen_98 : decode cX8_readSeen 98 = .ok (.invokevirtual 55, 3) := by decide +kernel
theorem dX8_readSeen_101 : decode cX8_readSeen 101 = .ok (.ireturn, 1) := by decide +kernel
theorem dX8_readSeen_102 : decode cX8_readSeen 102 = .ok (.aload_n 0, 1) := by decide +kernel
theorem dX8_readSeen_103 : decode cX8_readSeen 103 = .ok (.invokevirtual 44, 3) := by decide +kernel
theorem dX8_readSeen_106 : decode cX8_readSeen 106 = .ok (.aload_n 0, 1) := by decide +kernel
theorem dX8_readSeen_107 : decode cX8_readSeen 107 = .ok (.invokevirtual 163, 3) := by decide +kernel
theorem dX8_readSeen_110 : decode cX8_readSeen 110 = .ok (.istore 6, 2) := by decide +kernel
theorem dX8_readSeen_112 : decode cX8_readSeen 112 = .ok (.iload 6, 2) := by decide +kernel
theorem dX8_readSeen_114 : decode cX8_readSeen 114 = .ok (.iconst (-1), 1) := by decide +kernel
theorem dX8_readSeen_115 : decode cX8_readSeen 115 = .ok (.if_icmp .ne 9, 3) := by decide +kernel
theorem dX8_readSeen_118 : decode cX8_readSeen 118 = .ok (.aload_n 0, 1) := by decide +kernel
theorem dX8_readSeen_119 : decode cX8_readSeen 119 = .ok (.iconst 1, 1) := by decide +kernel
theorem dX8_readSeen_120 : decode cX8_readSeen 120 = .ok (.invokevirtual 55, 3) := by decide +kernel
theorem dX8_readSeen_123 : decode cX8_readSeen 123 = .ok (.ireturn, 1) := by decide +kernel
theorem dX8_readSeen_124 : decode cX8_readSeen 124 = .ok (.iload 6, 2) := by decide +kernel
theorem dX8_readSeen_126 : decode cX8_readSeen 126 = .ok (.iload 5, 2) := by decide +kernel
theorem dX8_readSeen_128 : decode cX8_readSeen 128 = .ok (.if_icmp .ne 9, 3) := by decide +kernel
theorem dX8_readSeen_131 : decode cX8_readSeen 131 = .ok (.aload_n 0, 1) := by decide +kernel
theorem dX8_readSeen_132 : decode cX8_readSeen 132 = .ok (.iconst 3, 1) := by decide +kernel
theorem dX8_readSeen_133 : decode cX8_readSeen 133 = .ok (.invokevirtual 55, 3) := by decide +kernel
theorem dX8_readSeen_136 : decode cX8_readSeen 136 = .ok (.ireturn, 1) := by decide +kernel
theorem dX8_readSeen_137 : decode cX8_readSeen 137 = .ok (.aload_n 1, 1) := by decide +kernel
theorem dX8_readSeen_138 : decode cX8_readSeen 138 = .ok (.iload_n 2, 1) := by decide +kernel
theorem dX8_readSeen_139 : decode cX8_readSeen 139 = .ok (.iload 4, 2) := by decide +kernel
theorem dX8_readSeen_141 : decode cX8_readSeen 141 = .ok (.iload 5, 2) := by decide +kernel
theorem dX8_readSeen_143 : decode cX8_readSeen 143 = .ok (.iload 6, 2) := by decide +kernel
theorem dX8_readSeen_145 : decode cX8_readSeen 145 = .ok (.invokevirtual 167, 3) := by decide +kernel
theorem dX8_readSeen_148 : decode cX8_readSeen 148 = .ok (.aload_n 0, 1) := by decide +kernel
theorem dX8_readSeen_149 : decode cX8_readSeen 149 = .ok (.invokevirtual 44, 3) := by decide +kernel
theorem dX8_readSeen_152 : decode cX8_readSeen 152 = .ok (.iconst 1, 1) := by decide +kernel
theorem dX8_readSeen_153 : decode cX8_readSeen 153 = .ok (.ireturn, 1) := by decide +kernel
theorem dX8_readDanceTold_0 : decode cX8_readDanceTold 0 = .ok (.aload_n 0, 1) := by decide +kernel
theorem dX8_readDanceTold_1 : decode cX8_readDanceTold 1 = .ok (.invokevirtual 44, 3) := by decide +kernel
theorem dX8_readDanceTold_4 : decode cX8_readDanceTold 4 = .ok (.aload_n 0, 1) := by decide +kernel
theorem dX8_readDanceTold_5 : decode cX8_readDanceTold 5 = .ok (.invokevirtual 100, 3) := by decide +kernel
theorem dX8_readDanceTold_8 : decode cX8_readDanceTold 8 = .ok (.ifCond .ne 11, 3) := by decide +kernel
theorem dX8_readDanceTold_11 : decode cX8_readDanceTold 11 = .ok (.aload_n 0, 1) := by decide +kernel
theorem dX8_readDanceTold_12 : decode cX8_readDanceTold 12 = .ok (.iconst 1, 1) := by decide +kernel
theorem dX8_readDanceTold_13 : decode cX8_readDanceTold 13 = .ok (.invokevirtual 55, 3) := by decide +kernel
theorem dX8_readDanceTold_16 : decode cX8_readDanceTold 16 = .ok (.pop, 1) := by decide +kernel
theorem dX8_readDanceTold_17 : decode cX8_readDanceTold 17 = .ok (.iconst (-1), 1) := by decide +kernel
theorem dX8_readDanceTold_18 : decode cX8_readDanceTold 18 = .ok (.ireturn, 1) := by decide +kernel
theorem dX8_readDanceTold_19 : decode cX8_readDanceTold 19 = .ok (.aload_n 0, 1) := by decide +kernel
theorem dX8_readDanceTold_20 : decode cX8_readDanceTold 20 = .ok (.aload_n 1, 1) := by decide +kernel
theorem dX8_readDanceTold_21 : decode cX8_readDanceTold 21 = .ok (.invokevirtual 104, 3) := by decide +kernel
theorem dX8_readDanceTold_24 : decode cX8_readDanceTold 24 = .ok (.istore_n 2, 1) := by decide +kernel
theorem dX8_readDanceTold_25 : decode cX8_readDanceTold 25 = .ok (.iload_n 2, 1) := by decide +kernel
theorem dX8_readDanceTold_26 : decode cX8_readDanceTold 26 = .ok (.iconst (-1), 1) := by decide +kernel
theorem dX8_readDanceTold_27 : decode cX8_readDanceTold 27 = .ok (.if_icmp .ne 11, 3) := by decide +kernel
theorem dX8_readDanceTold_30 : decode cX8_readDanceTold 30 = .ok (.aload_n 0, 1) := by decide +kernel
theorem dX8_readDanceTold_31 : decode cX8_readDanceTold 31 = .ok (.iconst 2, 1) := by decide +kernel
theorem dX8_readDanceTold_32 : decode cX8_readDanceTold 32 = .ok (.invokevirtual 55, 3) := by decide +kernel
theorem dX8_readDanceTold_35 : decode cX8_readDanceTold 35 = .ok (.pop, 1) := by decide +kernel
theorem dX8_readDanceTold_36 : decode cX8_readDanceTold 36 = .ok (.iconst (-1), 1) := by decide +kernel
theorem dX8_readDanceTold_37 : decode cX8_readDanceTold 37 = .ok (.ireturn, 1) := by decide +kernel
theorem dX8_readDanceTold_38 : decode cX8_readDanceTold 38 = .ok (.aload_n 0, 1) := by decide +kernel
theorem dX8_readDanceTold_39 : decode cX8_readDanceTold 39 = .ok (.invokevirtual 44, 3) := by decide +kernel
theorem dX8_readDanceTold_42 : decode cX8_readDanceTold 42 = .ok (.iload_n 2, 1) := by decide +kernel
theorem dX8_readDanceTold_43 : decode cX8_readDanceTold 43 = .ok (.ireturn, 1) := by decide +kernel
theorem dX8_isWhole_0 : decode cX8_isWhole 0 = .ok (.aload_n 0, 1) := by decide +kernel
theorem dX8_isWhole_1 : decode cX8_isWhole 1 = .ok (.getfield 52, 3) := by decide +kernel
theorem dX8_isWhole_4 : decode cX8_isWhole 4 = .ok (.iconst 2, 1) := by decide +kernel
theorem dX8_isWhole_5 : decode cX8_isWhole 5 = .ok (.if_icmp .eq 9, 3) := by decide +kernel
theorem dX8_isWhole_8 : decode cX8_isWhole 8 = .ok (.aload_n 0, 1) := by decide +kernel
theorem dX8_isWhole_9 : decode cX8_isWhole 9 = .ok (.iconst 1, 1) := by decide +kernel
theorem dX8_isWhole_10 : decode cX8_isWhole 10 = .ok (.invokevirtual 55, 3) := by decide +kernel
theorem dX8_isWhole_13 : decode cX8_isWhole 13 = .ok (.ireturn, 1) := by decide +kernel
theorem dX8_isWhole_14 : decode cX8_isWhole 14 = .ok (.aload_n 0, 1) := by decide +kernel
theorem dX8_isWhole_15 : decode cX8_isWhole 15 = .ok (.getfield 91, 3) := by decide +kernel
theorem dX8_isWhole_18 : decode cX8_isWhole 18 = .ok (.iload_n 1, 1) := by decide +kernel
theorem dX8_isWhole_19 : decode cX8_isWhole 19 = .ok (.if_icmp .le 11, 3) := by decide +kernel
theorem dX8_isWhole_22 : decode cX8_isWhole 22 = .ok (.aload_n 0, 1) := by decide +kernel
theorem dX8_isWhole_23 : decode cX8_isWhole 23 = .ok (.iconst 4, 1) := by decide +kernel
theorem dX8_isWhole_24 : decode cX8_isWhole 24 = .ok (.invokevirtual 55, 3) := by decide +kernel
theorem dX8_isWhole_27 : decode cX8_isWhole 27 = .ok (.ifCond .eq 7, 3) := by decide +kernel
theorem dX8_isWhole_30 : decode cX8_isWhole 30 = .ok (.iconst 1, 1) := by decide +kernel
theorem dX8_isWhole_31 : decode cX8_isWhole 31 = .ok (.goto 4, 3) := by decide +kernel
theorem dX8_isWhole_34 : decode cX8_isWhole 34 = .ok (.iconst 0, 1) := by decide +kernel
theorem dX8_isWhole_35 : decode cX8_isWhole 35 = .ok (.ireturn, 1) := by decide +kernel
theorem dX8_isName_0 : decode cX8_isName 0 = .ok (.aload_n 0, 1) := by decide +kernel
theorem dX8_isName_1 : decode cX8_isName 1 = .ok (.getfield 52, 3) := by decide +kernel
theorem dX8_isName_4 : decode cX8_isName 4 = .ok (.iconst 1, 1) := by decide +kernel
theorem dX8_isName_5 : decode cX8_isName 5 = .ok (.if_icmp .ne 12, 3) := by decide +kernel
theorem dX8_isName_8 : decode cX8_isName 8 = .ok (.aload_n 0, 1) := by decide +kernel
theorem dX8_isName_9 : decode cX8_isName 9 = .ok (.getfield 116, 3) := by decide +kernel
theorem dX8_isName_12 : decode cX8_isName 12 = .ok (.bipush 8, 2) := by decide +kernel
theorem dX8_isName_14 : decode cX8_isName 14 = .ok (.if_icmp .le 5, 3) := by decide +kernel
theorem dX8_isName_17 : decode cX8_isName 17 = .ok (.iconst 0, 1) := by decide +kernel
theorem dX8_isName_18 : decode cX8_isName 18 = .ok (.ireturn, 1) := by decide +kernel
theorem dX8_isName_19 : decode cX8_isName 19 = .ok (.aload_n 0, 1) := by decide +kernel
theorem dX8_isName_20 : decode cX8_isName 20 = .ok (.ldc 62, 2) := by decide +kernel
theorem dX8_isName_22 : decode cX8_isName 22 = .ok (.invokevirtual 64, 3) := by decide +kernel
theorem dX8_isName_25 : decode cX8_isName 25 = .ok (.ifCond .ne 34, 3) := by decide +kernel
theorem dX8_isName_28 : decode cX8_isName 28 = .ok (.aload_n 0, 1) := by decide +kernel
theorem dX8_isName_29 : decode cX8_isName 29 = .ok (.ldc 71, 2) := by decide +kernel
theorem dX8_isName_31 : decode cX8_isName 31 = .ok (.invokevirtual 64, 3) := by decide +kernel
theorem dX8_isName_34 : decode cX8_isName 34 = .ok (.ifCond .ne 25, 3) := by decide +kernel
theorem dX8_isName_37 : decode cX8_isName 37 = .ok (.aload_n 0, 1) := by decide +kernel
theorem dX8_isName_38 : decode cX8_isName 38 = .ok (.ldc 76, 2) := by decide +kernel
theorem dX8_isName_40 : decode cX8_isName 40 = .ok (.invokevirtual 64, 3) := by decide +kernel
theorem dX8_isName_43 : decode cX8_isName 43 = .ok (.ifCond .ne 16, 3) := by decide +kernel
theorem dX8_isName_46 : decode cX8_isName 46 = .ok (.aload_n 0, 1) := by decide +kernel
theorem dX8_isName_47 : decode cX8_isName 47 = .ok (.ldc 81, 2) := by decide +kernel
theorem dX8_isName_49 : decode cX8_isName 49 = .ok (.invokevirtual 64, 3) := by decide +kernel
theorem dX8_isName_52 : decode cX8_isName 52 = .ok (.ifCond .ne 7, 3) := by decide +kernel
theorem dX8_isName_55 : decode cX8_isName 55 = .ok (.iconst 1, 1) := by decide +kernel
theorem dX8_isName_56 : decode cX8_isName 56 = .ok (.goto 4, 3) := by decide +kernel
theorem dX8_isName_59 : decode cX8_isName 59 = .ok (.iconst 0, 1) := by decide +kernel
theorem dX8_isName_60 : decode cX8_isName 60 = .ok (.ireturn, 1) := by decide +kernel
theorem dX8_toldAt_0 : decode cX8_toldAt 0 = .ok (.iconst 0, 1) := by decide +kernel
theorem dX8_toldAt_1 : decode cX8_toldAt 1 = .ok (.istore_n 2, 1) := by decide +kernel
theorem dX8_toldAt_2 : decode cX8_toldAt 2 = .ok (.iload_n 2, 1) := by decide +kernel
theorem dX8_toldAt_3 : decode cX8_toldAt 3 = .ok (.aload_n 1, 1) := by decide +kernel
theorem dX8_toldAt_4 : decode cX8_toldAt 4 = .ok (.getfield 59, 3) := by decide +kernel
theorem dX8_toldAt_7 : decode cX8_toldAt 7 = .ok (.if_icmp .ge 29, 3) := by decide +kernel
theorem dX8_toldAt_10 : decode cX8_toldAt 10 = .ok (.aload_n 1, 1) := by decide +kernel
theorem dX8_toldAt_11 : decode cX8_toldAt 11 = .ok (.iload_n 2, 1) := by decide +kernel
theorem dX8_toldAt_12 : decode cX8_toldAt 12 = .ok (.invokevirtual 145, 3) := by decide +kernel
theorem dX8_toldAt_15 : decode cX8_toldAt 15 = .ok (.astore_n 3, 1) := by decide +kernel
theorem dX8_toldAt_16 : decode cX8_toldAt 16 = .ok (.aload_n 3, 1) := by decide +kernel
theorem dX8_toldAt_17 : decode cX8_toldAt 17 = .ok (.ifnull 13, 3) := by decide +kernel
theorem dX8_toldAt_20 : decode cX8_toldAt 20 = .ok (.aload_n 0, 1) := by decide +kernel
theorem dX8_toldAt_21 : decode cX8_toldAt 21 = .ok (.aload_n 3, 1) := by decide +kernel
theorem dX8_toldAt_22 : decode cX8_toldAt 22 = .ok (.invokevirtual 171, 3) := by decide +kernel
theorem dX8_toldAt_25 : decode cX8_toldAt 25 = .ok (.ifCond .eq 5, 3) := by decide +kernel
theorem dX8_toldAt_28 : decode cX8_toldAt 28 = .ok (.iload_n 2, 1) := by decide +kernel
theorem dX8_toldAt_29 : decode cX8_toldAt 29 = .ok (.ireturn, 1) := by decide +kernel
theorem dX8_toldAt_30 : decode cX8_toldAt 30 = .ok (.iinc 2 1, 3) := by decide +kernel
theorem dX8_toldAt_33 : decode cX8_toldAt 33 = .ok (.goto (-31), 3) := by decide +kernel
theorem dX8_toldAt_36 : decode cX8_toldAt 36 = .ok (.iconst (-1), 1) := by decide +kernel
theorem dX8_toldAt_37 : decode cX8_toldAt 37 = .ok (.ireturn, 1) := by decide +kernel
theorem dX8_isNameOf_0 : decode cX8_isNameOf 0 = .ok (.aload_n 1, 1) := by decide +kernel
theorem dX8_isNameOf_1 : decode cX8_isNameOf 1 = .ok (.getfield 119, 3) := by decide +kernel
theorem dX8_isNameOf_4 : decode cX8_isNameOf 4 = .ok (.aload_n 0, 1) := by decide +kernel
theorem dX8_isNameOf_5 : decode cX8_isNameOf 5 = .ok (.getfield 116, 3) := by decide +kernel
theorem dX8_isNameOf_8 : decode cX8_isNameOf 8 = .ok (.if_icmp .eq 5, 3) := by decide +kernel
theorem dX8_isNameOf_11 : decode cX8_isNameOf 11 = .ok (.iconst 0, 1) := by decide +kernel
theorem dX8_isNameOf_12 : decode cX8_isNameOf 12 = .ok (.ireturn, 1) := by decide +kernel
theorem dX8_isNameOf_13 : decode cX8_isNameOf 13 = .ok (.iconst 0, 1) := by decide +kernel
theorem dX8_isNameOf_14 : decode cX8_isNameOf 14 = .ok (.istore_n 2, 1) := by decide +kernel
theorem dX8_isNameOf_15 : decode cX8_isNameOf 15 = .ok (.iload_n 2, 1) := by decide +kernel
theorem dX8_isNameOf_16 : decode cX8_isNameOf 16 = .ok (.aload_n 0, 1) := by decide +kernel
theorem dX8_isNameOf_17 : decode cX8_isNameOf 17 = .ok (.getfield 116, 3) := by decide +kernel
theorem dX8_isNameOf_20 : decode cX8_isNameOf 20 = .ok (.if_icmp .ge 40, 3) := by decide +kernel
theorem dX8_isNameOf_23 : decode cX8_isNameOf 23 = .ok (.aload_n 0, 1) := by decide +kernel
theorem dX8_isNameOf_24 : decode cX8_isNameOf 24 = .ok (.getfield 11, 3) := by decide +kernel
theorem dX8_isNameOf_27 : decode cX8_isNameOf 27 = .ok (.aload_n 1, 1) := by decide +kernel
theorem dX8_isNameOf_28 : decode cX8_isNameOf 28 = .ok (.getfield 111, 3) := by decide +kernel
theorem dX8_isNameOf_31 : decode cX8_isNameOf 31 = .ok (.iload_n 2, 1) := by decide +kernel
theorem dX8_isNameOf_32 : decode cX8_isNameOf 32 = .ok (.iadd, 1) := by decide +kernel
theorem dX8_isNameOf_33 : decode cX8_isNameOf 33 = .ok (.invokestatic 127, 3) := by decide +kernel
theorem dX8_isNameOf_36 : decode cX8_isNameOf 36 = .ok (.aload_n 0, 1) := by decide +kernel
theorem dX8_isNameOf_37 : decode cX8_isNameOf 37 = .ok (.getfield 11, 3) := by decide +kernel
theorem dX8_isNameOf_40 : decode cX8_isNameOf 40 = .ok (.aload_n 0, 1) := by decide +kernel
theorem dX8_isNameOf_41 : decode cX8_isNameOf 41 = .ok (.getfield 108, 3) := by decide +kernel
theorem dX8_isNameOf_44 : decode cX8_isNameOf 44 = .ok (.iload_n 2, 1) := by decide +kernel
theorem dX8_isNameOf_45 : decode cX8_isNameOf 45 = .ok (.iadd, 1) := by decide +kernel
theorem dX8_isNameOf_46 : decode cX8_isNameOf 46 = .ok (.invokestatic 127, 3) := by decide +kernel
theorem dX8_isNameOf_49 : decode cX8_isNameOf 49 = .ok (.if_icmp .eq 5, 3) := by decide +kernel
theorem dX8_isNameOf_52 : decode cX8_isNameOf 52 = .ok (.iconst 0, 1) := by decide +kernel
theorem dX8_isNameOf_53 : decode cX8_isNameOf 53 = .ok (.ireturn, 1) := by decide +kernel
theorem dX8_isNameOf_54 : decode cX8_isNameOf 54 = .ok (.iinc 2 1, 3) := by decide +kernel
theorem dX8_isNameOf_57 : decode cX8_isNameOf 57 = .ok (.goto (-42), 3) := by decide +kernel
theorem dX8_isNameOf_60 : decode cX8_isNameOf 60 = .ok (.iconst 1, 1) := by decide +kernel
theorem dX8_isNameOf_61 : decode cX8_isNameOf 61 = .ok (.ireturn, 1) := by decide +kernel
theorem dX8_isWord_0 : decode cX8_isWord 0 = .ok (.aload_n 0, 1) := by decide +kernel
theorem dX8_isWord_1 : decode cX8_isWord 1 = .ok (.getfield 52, 3) := by decide +kernel
theorem dX8_isWord_4 : decode cX8_isWord 4 = .ok (.iconst 1, 1) := by decide +kernel
theorem dX8_isWord_5 : decode cX8_isWord 5 = .ok (.if_icmp .ne 14, 3) := by decide +kernel
theorem dX8_isWord_8 : decode cX8_isWord 8 = .ok (.aload_n 1, 1) := by decide +kernel
theorem dX8_isWord_9 : decode cX8_isWord 9 = .ok (.invokevirtual 174, 3) := by decide +kernel
theorem dX8_isWord_12 : decode cX8_isWord 12 = .ok (.aload_n 0, 1) := by decide +kernel
theorem dX8_isWord_13 : decode cX8_isWord 13 = .ok (.getfield 116, 3) := by decide +kernel
theorem dX8_isWord_16 : decode cX8_isWord 16 = .ok (.if_icmp .eq 5, 3) := by decide +kernel
theorem dX8_isWord_19 : decode cX8_isWord 19 = .ok (.iconst 0, 1) := by decide +kernel
theorem dX8_isWord_20 : decode cX8_isWord 20 = .ok (.ireturn, 1) := by decide +kernel
theorem dX8_isWord_21 : decode cX8_isWord 21 = .ok (.iconst 0, 1) := by decide +kernel
theorem dX8_isWord_22 : decode cX8_isWord 22 = .ok (.istore_n 2, 1) := by decide +kernel
theorem dX8_isWord_23 : decode cX8_isWord 23 = .ok (.iload_n 2, 1) := by decide +kernel
theorem dX8_isWord_24 : decode cX8_isWord 24 = .ok (.aload_n 1, 1) := by decide +kernel
theorem dX8_isWord_25 : decode cX8_isWord 25 = .ok (.invokevirtual 174, 3) := by decide +kernel
theorem dX8_isWord_28 : decode cX8_isWord 28 = .ok (.if_icmp .ge 32, 3) := by decide +kernel
theorem dX8_isWord_31 : decode cX8_isWord 31 = .ok (.aload_n 1, 1) := by decide +kernel
theorem dX8_isWord_32 : decode cX8_isWord 32 = .ok (.iload_n 2, 1) := by decide +kernel
theorem dX8_isWord_33 : decode cX8_isWord 33 = .ok (.invokevirtual 178, 3) := by decide +kernel
theorem dX8_isWord_36 : decode cX8_isWord 36 = .ok (.aload_n 0, 1) := by decide +kernel
theorem dX8_isWord_37 : decode cX8_isWord 37 = .ok (.getfield 11, 3) := by decide +kernel
theorem dX8_isWord_40 : decode cX8_isWord 40 = .ok (.aload_n 0, 1) := by decide +kernel
theorem dX8_isWord_41 : decode cX8_isWord 41 = .ok (.getfield 108, 3) := by decide +kernel
theorem dX8_isWord_44 : decode cX8_isWord 44 = .ok (.iload_n 2, 1) := by decide +kernel
theorem dX8_isWord_45 : decode cX8_isWord 45 = .ok (.iadd, 1) := by decide +kernel
theorem dX8_isWord_46 : decode cX8_isWord 46 = .ok (.invokestatic 127, 3) := by decide +kernel
theorem dX8_isWord_49 : decode cX8_isWord 49 = .ok (.if_icmp .eq 5, 3) := by decide +kernel
theorem dX8_isWord_52 : decode cX8_isWord 52 = .ok (.iconst 0, 1) := by decide +kernel
theorem dX8_isWord_53 : decode cX8_isWord 53 = .ok (.ireturn, 1) := by decide +kernel
theorem dX8_isWord_54 : decode cX8_isWord 54 = .ok (.iinc 2 1, 3) := by decide +kernel
theorem dX8_isWord_57 : decode cX8_isWord 57 = .ok (.goto (-34), 3) := by decide +kernel
theorem dX8_isWord_60 : decode cX8_isWord 60 = .ok (.iconst 1, 1) := by decide +kernel
theorem dX8_isWord_61 : decode cX8_isWord 61 = .ok (.ireturn, 1) := by decide +kernel
theorem dX8_cornerHere_0 : decode cX8_cornerHere 0 = .ok (.aload_n 0, 1) := by decide +kernel
theorem dX8_cornerHere_1 : decode cX8_cornerHere 1 = .ok (.ldc 182, 2) := by decide +kernel
theorem dX8_cornerHere_3 : decode cX8_cornerHere 3 = .ok (.invokevirtual 64, 3) := by decide +kernel
theorem dX8_cornerHere_6 : decode cX8_cornerHere 6 = .ok (.ifCond .eq 5, 3) := by decide +kernel
theorem dX8_cornerHere_9 : decode cX8_cornerHere 9 = .ok (.iconst 0, 1) := by decide +kernel
theorem dX8_cornerHere_10 : decode cX8_cornerHere 10 = .ok (.ireturn, 1) := by decide +kernel
theorem dX8_cornerHere_11 : decode cX8_cornerHere 11 = .ok (.aload_n 0, 1) := by decide +kernel
theorem dX8_cornerHere_12 : decode cX8_cornerHere 12 = .ok (.ldc 184, 2) := by decide +kernel
theorem dX8_cornerHere_14 : decode cX8_cornerHere 14 = .ok (.invokevirtual 64, 3) := by decide +kernel
theorem dX8_cornerHere_17 : decode cX8_cornerHere 17 = .ok (.ifCond .eq 5, 3) := by decide +kernel
theorem dX8_cornerHere_20 : decode cX8_cornerHere 20 = .ok (.iconst 1, 1) := by decide +kernel
theorem dX8_cornerHere_21 : decode cX8_cornerHere 21 = .ok (.ireturn, 1) := by decide +kernel
theorem dX8_cornerHere_22 : decode cX8_cornerHere 22 = .ok (.aload_n 0, 1) := by decide +kernel
theorem dX8_cornerHere_23 : decode cX8_cornerHere 23 = .ok (.ldc 186, 2) := by decide +kernel
theorem dX8_cornerHere_25 : decode cX8_cornerHere 25 = .ok (.invokevirtual 64, 3) := by decide +kernel
theorem dX8_cornerHere_28 : decode cX8_cornerHere 28 = .ok (.ifCond .eq 5, 3) := by decide +kernel
theorem dX8_cornerHere_31 : decode cX8_cornerHere 31 = .ok (.iconst 2, 1) := by decide +kernel
theorem dX8_cornerHere_32 : decode cX8_cornerHere 32 = .ok (.ireturn, 1) := by decide +kernel
theorem dX8_cornerHere_33 : decode cX8_cornerHere 33 = .ok (.aload_n 0, 1) := by decide +kernel
theorem dX8_cornerHere_34 : decode cX8_cornerHere 34 = .ok (.ldc 188, 2) := by decide +kernel
theorem dX8_cornerHere_36 : decode cX8_cornerHere 36 = .ok (.invokevirtual 64, 3) := by decide +kernel
theorem dX8_cornerHere_39 : decode cX8_cornerHere 39 = .ok (.ifCond .eq 7, 3) := by decide +kernel
theorem dX8_cornerHere_42 : decode cX8_cornerHere 42 = .ok (.iconst 3, 1) := by decide +kernel
theorem dX8_cornerHere_43 : decode cX8_cornerHere 43 = .ok (.goto 4, 3) := by decide +kernel
theorem dX8_cornerHere_46 : decode cX8_cornerHere 46 = .ok (.iconst (-1), 1) := by decide +kernel
theorem dX8_cornerHere_47 : decode cX8_cornerHere 47 = .ok (.ireturn, 1) := by decide +kernel
theorem dX8_figureOf_0 : decode cX8_figureOf 0 = .ok (.iload_n 0, 1) := by decide +kernel
theorem dX8_figureOf_1 : decode cX8_figureOf 1 = .ok (.bipush 116, 2) := by decide +kernel
theorem dX8_figureOf_3 : decode cX8_figureOf 3 = .ok (.if_icmp .ne 5, 3) := by decide +kernel
theorem dX8_figureOf_6 : decode cX8_figureOf 6 = .ok (.iconst 0, 1) := by decide +kernel
theorem dX8_figureOf_7 : decode cX8_figureOf 7 = .ok (.ireturn, 1) := by decide +kernel
theorem dX8_figureOf_8 : decode cX8_figureOf 8 = .ok (.iload_n 0, 1) := by decide +kernel
theorem dX8_figureOf_9 : decode cX8_figureOf 9 = .ok (.bipush 117, 2) := by decide +kernel
theorem dX8_figureOf_11 : decode cX8_figureOf 11 = .ok (.if_icmp .ne 5, 3) := by decide +kernel
theorem dX8_figureOf_14 : decode cX8_figureOf 14 = .ok (.iconst 1, 1) := by decide +kernel
theorem dX8_figureOf_15 : decode cX8_figureOf 15 = .ok (.ireturn, 1) := by decide +kernel
theorem dX8_figureOf_16 : decode cX8_figureOf 16 = .ok (.iload_n 0, 1) := by decide +kernel
theorem dX8_figureOf_17 : decode cX8_figureOf 17 = .ok (.bipush 114, 2) := by decide +kernel
theorem dX8_figureOf_19 : decode cX8_figureOf 19 = .ok (.if_icmp .ne 7, 3) := by decide +kernel
theorem dX8_figureOf_22 : decode cX8_figureOf 22 = .ok (.iconst 2, 1) := by decide +kernel
theorem dX8_figureOf_23 : decode cX8_figureOf 23 = .ok (.goto 4, 3) := by decide +kernel
theorem dX8_figureOf_26 : decode cX8_figureOf 26 = .ok (.iconst (-1), 1) := by decide +kernel
theorem dX8_figureOf_27 : decode cX8_figureOf 27 = .ok (.ireturn, 1) := by decide +kernel
theorem dX8_step_0 : decode cX8_step 0 = .ok (.aload_n 0, 1) := by decide +kernel
theorem dX8_step_1 : decode cX8_step 1 = .ok (.getfield 26, 3) := by decide +kernel
theorem dX8_step_4 : decode cX8_step 4 = .ok (.aload_n 0, 1) := by decide +kernel
theorem dX8_step_5 : decode cX8_step 5 = .ok (.getfield 23, 3) := by decide +kernel
theorem dX8_step_8 : decode cX8_step 8 = .ok (.if_icmp .ge 32, 3) := by decide +kernel
theorem dX8_step_11 : decode cX8_step 11 = .ok (.aload_n 0, 1) := by decide +kernel
theorem dX8_step_12 : decode cX8_step 12 = .ok (.getfield 11, 3) := by decide +kernel
theorem dX8_step_15 : decode cX8_step 15 = .ok (.aload_n 0, 1) := by decide +kernel
theorem dX8_step_16 : decode cX8_step 16 = .ok (.getfield 26, 3) := by decide +kernel
theorem dX8_step_19 : decode cX8_step 19 = .ok (.invokestatic 127, 3) := by decide +kernel
theorem dX8_step_22 : decode cX8_step 22 = .ok (.bipush 32, 2) := by decide +kernel
theorem dX8_step_24 : decode cX8_step 24 = .ok (.if_icmp .ne 16, 3) := by decide +kernel
theorem dX8_step_27 : decode cX8_step 27 = .ok (.aload_n 0, 1) := by decide +kernel
theorem dX8_step_28 : decode cX8_step 28 = .ok (.dup, 1) := by decide +kernel
theorem dX8_step_29 : decode cX8_step 29 = .ok (.getfield 26, 3) := by decide +kernel
theorem dX8_step_32 : decode cX8_step 32 = .ok (.iconst 1, 1) := by decide +kernel
theorem dX8_step_33 : decode cX8_step 33 = .ok (.iadd, 1) := by decide +kernel
theorem dX8_step_34 : decode cX8_step 34 = .ok (.putfield 26, 3) := by decide +kernel
theorem dX8_step_37 : decode cX8_step 37 = .ok (.goto (-37), 3) := by decide +kernel
theorem dX8_step_40 : decode cX8_step 40 = .ok (.aload_n 0, 1) := by decide +kernel
theorem dX8_step_41 : decode cX8_step 41 = .ok (.aload_n 0, 1) := by decide +kernel
theorem dX8_step_42 : decode cX8_step 42 = .ok (.getfield 26, 3) := by decide +kernel
theorem dX8_step_45 : decode cX8_step 45 = .ok (.putfield 108, 3) := by decide +kernel
theorem dX8_step_48 : decode cX8_step 48 = .ok (.aload_n 0, 1) := by decide +kernel
theorem dX8_step_49 : decode cX8_step 49 = .ok (.iconst 0, 1) := by decide +kernel
theorem dX8_step_50 : decode cX8_step 50 = .ok (.putfield 116, 3) := by decide +kernel
theorem dX8_step_53 : decode cX8_step 53 = .ok (.aload_n 0, 1) := by decide +kernel
theorem dX8_step_54 : decode cX8_step 54 = .ok (.getfield 26, 3) := by decide +kernel
theorem dX8_step_57 : decode cX8_step 57 = .ok (.aload_n 0, 1) := by decide +kernel
theorem dX8_step_58 : decode cX8_step 58 = .ok (.getfield 23, 3) := by decide +kernel
theorem dX8_step_61 : decode cX8_step 61 = .ok (.if_icmp .lt 11, 3) := by decide +kernel
theorem dX8_step_64 : decode cX8_step 64 = .ok (.aload_n 0, 1) := by decide +kernel
theorem dX8_step_65 : decode cX8_step 65 = .ok (.iconst 0, 1) := by decide +kernel
theorem dX8_step_66 : decode cX8_step 66 = .ok (.putfield 52, 3) := by decide +kernel
theorem dX8_step_69 : decode cX8_step 69 = .ok (.goto 90, 3) := by decide +kernel
theorem dX8_step_72 : decode cX8_step 72 = .ok (.aload_n 0, 1) := by decide +kernel
theorem dX8_step_73 : decode cX8_step 73 = .ok (.getfield 11, 3) := by decide +kernel
theorem dX8_step_76 : decode cX8_step 76 = .ok (.aload_n 0, 1) := by decide +kernel
theorem dX8_step_77 : decode cX8_step 77 = .ok (.getfield 26, 3) := by decide +kernel
theorem dX8_step_80 : decode cX8_step 80 = .ok (.invokestatic 127, 3) := by decide +kernel
theorem dX8_step_83 : decode cX8_step 83 = .ok (.bipush 59, 2) := by decide +kernel
theorem dX8_step_85 : decode cX8_step 85 = .ok (.if_icmp .ne 21, 3) := by decide +kernel
theorem dX8_step_88 : decode cX8_step 88 = .ok (.aload_n 0, 1) := by decide +kernel
theorem dX8_step_89 : decode cX8_step 89 = .ok (.iconst 3, 1) := by decide +kernel
theorem dX8_step_90 : decode cX8_step 90 = .ok (.putfield 52, 3) := by decide +kernel
theorem dX8_step_93 : decode cX8_step 93 = .ok (.aload_n 0, 1) := by decide +kernel
theorem dX8_step_94 : decode cX8_step 94 = .ok (.dup, 1) := by decide +kernel
theorem dX8_step_95 : decode cX8_step 95 = .ok (.getfield 26, 3) := by decide +kernel
theorem dX8_step_98 : decode cX8_step 98 = .ok (.iconst 1, 1) := by decide +kernel
theorem dX8_step_99 : decode cX8_step 99 = .ok (.iadd, 1) := by decide +kernel
theorem dX8_step_100 : decode cX8_step 100 = .ok (.putfield 26, 3) := by decide +kernel
theorem dX8_step_103 : decode cX8_step 103 = .ok (.goto 56, 3) := by decide +kernel
theorem dX8_step_106 : decode cX8_step 106 = .ok (.aload_n 0, 1) := by decide +kernel
theorem dX8_step_107 : decode cX8_step 107 = .ok (.getfield 11, 3) := by decide +kernel
theorem dX8_step_110 : decode cX8_step 110 = .ok (.aload_n 0, 1) := by decide +kernel
theorem dX8_step_111 : decode cX8_step 111 = .ok (.getfield 26, 3) := by decide +kernel
theorem dX8_step_114 : decode cX8_step 114 = .ok (.invokestatic 127, 3) := by decide +kernel
theorem dX8_step_117 : decode cX8_step 117 = .ok (.invokestatic 190, 3) := by decide +kernel
theorem dX8_step_120 : decode cX8_step 120 = .ok (.ifCond .eq 10, 3) := by decide +kernel
theorem dX8_step_123 : decode cX8_step 123 = .ok (.aload_n 0, 1) := by decide +kernel
theorem dX8_step_124 : decode cX8_step 124 = .ok (.invokevirtual 193, 3) := by decide +kernel
theorem dX8_step_127 : decode cX8_step 127 = .ok (.goto 32, 3) := by decide +kernel
theorem dX8_step_130 : decode cX8_step 130 = .ok (.aload_n 0, 1) := by decide +kernel
theorem dX8_step_131 : decode cX8_step 131 = .ok (.getfield 11, 3) := by decide +kernel
theorem dX8_step_134 : decode cX8_step 134 = .ok (.aload_n 0, 1) := by decide +kernel
theorem dX8_step_135 : decode cX8_step 135 = .ok (.getfield 26, 3) := by decide +kernel
theorem dX8_step_138 : decode cX8_step 138 = .ok (.invokestatic 127, 3) := by decide +kernel
theorem dX8_step_141 : decode cX8_step 141 = .ok (.invokestatic 196, 3) := by decide +kernel
theorem dX8_step_144 : decode cX8_step 144 = .ok (.ifCond .eq 10, 3) := by decide +kernel
theorem dX8_step_147 : decode cX8_step 147 = .ok (.aload_n 0, 1) := by decide +kernel
theorem dX8_step_148 : decode cX8_step 148 = .ok (.invokevirtual 199, 3) := by decide +kernel
theorem dX8_step_151 : decode cX8_step 151 = .ok (.goto 8, 3) := by decide +kernel
theorem dX8_step_154 : decode cX8_step 154 = .ok (.aload_n 0, 1) := by decide +kernel
theorem dX8_step_155 : decode cX8_step 155 = .ok (.iconst 4, 1) := by decide +kernel
theorem dX8_step_156 : decode cX8_step 156 = .ok (.putfield 52, 3) := by decide +kernel
theorem dX8_step_159 : decode cX8_step 159 = .ok (.return_, 1) := by decide +kernel
theorem dX8_takeWord_0 : decode cX8_takeWord 0 = .ok (.aload_n 0, 1) := by decide +kernel
theorem dX8_takeWord_1 : decode cX8_takeWord 1 = .ok (.getfield 26, 3) := by decide +kernel
theorem dX8_takeWord_4 : decode cX8_takeWord 4 = .ok (.aload_n 0, 1) := by decide +kernel
theorem dX8_takeWord_5 : decode cX8_takeWord 5 = .ok (.getfield 23, 3) := by decide +kernel
theorem dX8_takeWord_8 : decode cX8_takeWord 8 = .ok (.if_icmp .ge 33, 3) := by decide +kernel
theorem dX8_takeWord_11 : decode cX8_takeWord 11 = .ok (.aload_n 0, 1) := by decide +kernel
theorem dX8_takeWord_12 : decode cX8_takeWord 12 = .ok (.getfield 11, 3) := by decide +kernel
theorem dX8_takeWord_15 : decode cX8_takeWord 15 = .ok (.aload_n 0, 1) := by decide +kernel
theorem dX8_takeWord_16 : decode cX8_takeWord 16 = .ok (.getfield 26, 3) := by decide +kernel
theorem dX8_takeWord_19 : decode cX8_takeWord 19 = .ok (.invokestatic 127, 3) := by decide +kernel
theorem dX8_takeWord_22 : decode cX8_takeWord 22 = .ok (.invokestatic 190, 3) := by decide +kernel
theorem dX8_takeWord_25 : decode cX8_takeWord 25 = .ok (.ifCond .eq 16, 3) := by decide +kernel
theorem dX8_takeWord_28 : decode cX8_takeWord 28 = .ok (.aload_n 0, 1) := by decide +kernel
theorem dX8_takeWord_29 : decode cX8_takeWord 29 = .ok (.dup, 1) := by decide +kernel
theorem dX8_takeWord_30 : decode cX8_takeWord 30 = .ok (.getfield 26, 3) := by decide +kernel
theorem dX8_takeWord_33 : decode cX8_takeWord 33 = .ok (.iconst 1, 1) := by decide +kernel
theorem dX8_takeWord_34 : decode cX8_takeWord 34 = .ok (.iadd, 1) := by decide +kernel
theorem dX8_takeWord_35 : decode cX8_takeWord 35 = .ok (.putfield 26, 3) := by decide +kernel
theorem dX8_takeWord_38 : decode cX8_takeWord 38 = .ok (.goto (-38), 3) := by decide +kernel
theorem dX8_takeWord_41 : decode cX8_takeWord 41 = .ok (.aload_n 0, 1) := by decide +kernel
theorem dX8_takeWord_42 : decode cX8_takeWord 42 = .ok (.aload_n 0, 1) := by decide +kernel
theorem dX8_takeWord_43 : decode cX8_takeWord 43 = .ok (.getfield 26, 3) := by decide +kernel
theorem dX8_takeWord_46 : decode cX8_takeWord 46 = .ok (.aload_n 0, 1) := by decide +kernel
theorem dX8_takeWord_47 : decode cX8_takeWord 47 = .ok (.getfield 108, 3) := by decide +kernel
theorem dX8_takeWord_50 : decode cX8_takeWord 50 = .ok (.isub, 1) := by decide +kernel
theorem dX8_takeWord_51 : decode cX8_takeWord 51 = .ok (.putfield 116, 3) := by decide +kernel
theorem dX8_takeWord_54 : decode cX8_takeWord 54 = .ok (.aload_n 0, 1) := by decide +kernel
theorem dX8_takeWord_55 : decode cX8_takeWord 55 = .ok (.aload_n 0, 1) := by decide +kernel
theorem dX8_takeWord_56 : decode cX8_takeWord 56 = .ok (.getfield 116, 3) := by decide +kernel
theorem dX8_takeWord_59 : decode cX8_takeWord 59 = .ok (.bipush 12, 2) := by decide +kernel
theorem dX8_takeWord_61 : decode cX8_takeWord 61 = .ok (.if_icmp .gt 7, 3) := by decide +kernel
theorem dX8_takeWord_64 : decode cX8_takeWord 64 = .ok (.iconst 1, 1) := by decide +kernel
theorem dX8_takeWord_65 : decode cX8_takeWord 65 = .ok (.goto 4, 3) := by decide +kernel
theorem dX8_takeWord_68 : decode cX8_takeWord 68 = .ok (.iconst 4, 1) := by decide +kernel
theorem dX8_takeWord_69 : decode cX8_takeWord 69 = .ok (.putfield 52, 3) := by decide +kernel
theorem dX8_takeWord_72 : decode cX8_takeWord 72 = .ok (.return_, 1) := by decide +kernel
theorem dX8_takeWhole_0 : decode cX8_takeWhole 0 = .ok (.aload_n 0, 1) := by decide +kernel
theorem dX8_takeWhole_1 : decode cX8_takeWhole 1 = .ok (.iconst 0, 1) := by decide +kernel
theorem dX8_takeWhole_2 : decode cX8_takeWhole 2 = .ok (.putfield 91, 3) := by decide +kernel
theorem dX8_takeWhole_5 : decode cX8_takeWhole 5 = .ok (.aload_n 0, 1) := by decide +kernel
theorem dX8_takeWhole_6 : decode cX8_takeWhole 6 = .ok (.getfield 26, 3) := by decide +kernel
theorem dX8_takeWhole_9 : decode cX8_takeWhole 9 = .ok (.aload_n 0, 1) := by decide +kernel
theorem dX8_takeWhole_10 : decode cX8_takeWhole 10 = .ok (.getfield 23, 3) := by decide +kernel
theorem dX8_takeWhole_13 : decode cX8_takeWhole 13 = .ok (.if_icmp .ge 59, 3) := by decide +kernel
theorem dX8_takeWhole_16 : decode cX8_takeWhole 16 = .ok (.aload_n 0, 1) := by decide +kernel
theorem dX8_takeWhole_17 : decode cX8_takeWhole 17 = .ok (.getfield 11, 3) := by decide +kernel
theorem dX8_takeWhole_20 : decode cX8_takeWhole 20 = .ok (.aload_n 0, 1) := by decide +kernel
theorem dX8_takeWhole_21 : decode cX8_takeWhole 21 = .ok (.getfield 26, 3) := by decide +kernel
theorem dX8_takeWhole_24 : decode cX8_takeWhole 24 = .ok (.invokestatic 127, 3) := by decide +kernel
theorem dX8_takeWhole_27 : decode cX8_takeWhole 27 = .ok (.invokestatic 196, 3) := by decide +kernel
theorem dX8_takeWhole_30 : decode cX8_takeWhole 30 = .ok (.ifCond .eq 42, 3) := by decide +kernel
theorem dX8_takeWhole_33 : decode cX8_takeWhole 33 = .ok (.aload_n 0, 1) := by decide +kernel
theorem dX8_takeWhole_34 : decode cX8_takeWhole 34 = .ok (.aload_n 0, 1) := by decide +kernel
theorem dX8_takeWhole_35 : decode cX8_takeWhole 35 = .ok (.getfield 91, 3) := by decide +kernel
theorem dX8_takeWhole_38 : decode cX8_takeWhole 38 = .ok (.bipush 10, 2) := by decide +kernel
theorem dX8_takeWhole_40 : decode cX8_takeWhole 40 = .ok (.imul, 1) := by decide +kernel
theorem dX8_takeWhole_41 : decode cX8_takeWhole 41 = .ok (.aload_n 0, 1) := by decide +kernel
theorem dX8_takeWhole_42 : decode cX8_takeWhole 42 = .ok (.getfield 11, 3) := by decide +kernel
theorem dX8_takeWhole_45 : decode cX8_takeWhole 45 = .ok (.aload_n 0, 1) := by decide +kernel
theorem dX8_takeWhole_46 : decode cX8_takeWhole 46 = .ok (.getfield 26, 3) := by decide +kernel
theorem dX8_takeWhole_49 : decode cX8_takeWhole 49 = .ok (.invokestatic 127, 3) := by decide +kernel
theorem dX8_takeWhole_52 : decode cX8_takeWhole 52 = .ok (.iadd, 1) := by decide +kernel
theorem dX8_takeWhole_53 : decode cX8_takeWhole 53 = .ok (.bipush 48, 2) := by decide +kernel
theorem dX8_takeWhole_55 : decode cX8_takeWhole 55 = .ok (.isub, 1) := by decide +kernel
theorem dX8_takeWhole_56 : decode cX8_takeWhole 56 = .ok (.putfield 91, 3) := by decide +kernel
theorem dX8_takeWhole_59 : decode cX8_takeWhole 59 = .ok (.aload_n 0, 1) := by decide +kernel
theorem dX8_takeWhole_60 : decode cX8_takeWhole 60 = .ok (.dup, 1) := by decide +kernel
theorem dX8_takeWhole_61 : decode cX8_takeWhole 61 = .ok (.getfield 26, 3) := by decide +kernel
theorem dX8_takeWhole_64 : decode cX8_takeWhole 64 = .ok (.iconst 1, 1) := by decide +kernel
theorem dX8_takeWhole_65 : decode cX8_takeWhole 65 = .ok (.iadd, 1) := by decide +kernel
theorem dX8_takeWhole_66 : decode cX8_takeWhole 66 = .ok (.putfield 26, 3) := by decide +kernel
theorem dX8_takeWhole_69 : decode cX8_takeWhole 69 = .ok (.goto (-64), 3) := by decide +kernel
theorem dX8_takeWhole_72 : decode cX8_takeWhole 72 = .ok (.aload_n 0, 1) := by decide +kernel
theorem dX8_takeWhole_73 : decode cX8_takeWhole 73 = .ok (.aload_n 0, 1) := by decide +kernel
theorem dX8_takeWhole_74 : decode cX8_takeWhole 74 = .ok (.getfield 26, 3) := by decide +kernel
theorem dX8_takeWhole_77 : decode cX8_takeWhole 77 = .ok (.aload_n 0, 1) := by decide +kernel
theorem dX8_takeWhole_78 : decode cX8_takeWhole 78 = .ok (.getfield 108, 3) := by decide +kernel
theorem dX8_takeWhole_81 : decode cX8_takeWhole 81 = .ok (.isub, 1) := by decide +kernel
theorem dX8_takeWhole_82 : decode cX8_takeWhole 82 = .ok (.putfield 116, 3) := by decide +kernel
theorem dX8_takeWhole_85 : decode cX8_takeWhole 85 = .ok (.aload_n 0, 1) := by decide +kernel
theorem dX8_takeWhole_86 : decode cX8_takeWhole 86 = .ok (.aload_n 0, 1) := by decide +kernel
theorem dX8_takeWhole_87 : decode cX8_takeWhole 87 = .ok (.getfield 116, 3) := by decide +kernel
theorem dX8_takeWhole_90 : decode cX8_takeWhole 90 = .ok (.iconst 3, 1) := by decide +kernel
theorem dX8_takeWhole_91 : decode cX8_takeWhole 91 = .ok (.if_icmp .gt 7, 3) := by decide +kernel
theorem dX8_takeWhole_94 : decode cX8_takeWhole 94 = .ok (.iconst 2, 1) := by decide +kernel
theorem dX8_takeWhole_95 : decode cX8_takeWhole 95 = .ok (.goto 4, 3) := by decide +kernel
theorem dX8_takeWhole_98 : decode cX8_takeWhole 98 = .ok (.iconst 4, 1) := by decide +kernel
theorem dX8_takeWhole_99 : decode cX8_takeWhole 99 = .ok (.putfield 52, 3) := by decide +kernel
theorem dX8_takeWhole_102 : decode cX8_takeWhole 102 = .ok (.return_, 1) := by decide +kernel
theorem dX8_isLetter_0 : decode cX8_isLetter 0 = .ok (.iload_n 0, 1) := by decide +kernel
theorem dX8_isLetter_1 : decode cX8_isLetter 1 = .ok (.bipush 97, 2) := by decide +kernel
theorem dX8_isLetter_3 : decode cX8_isLetter 3 = .ok (.if_icmp .lt 13, 3) := by decide +kernel
theorem dX8_isLetter_6 : decode cX8_isLetter 6 = .ok (.iload_n 0, 1) := by decide +kernel
theorem dX8_isLetter_7 : decode cX8_isLetter 7 = .ok (.bipush 122, 2) := by decide +kernel
theorem dX8_isLetter_9 : decode cX8_isLetter 9 = .ok (.if_icmp .gt 7, 3) := by decide +kernel
theorem dX8_isLetter_12 : decode cX8_isLetter 12 = .ok (.iconst 1, 1) := by decide +kernel
theorem dX8_isLetter_13 : decode cX8_isLetter 13 = .ok (.goto 4, 3) := by decide +kernel
theorem dX8_isLetter_16 : decode cX8_isLetter 16 = .ok (.iconst 0, 1) := by decide +kernel
theorem dX8_isLetter_17 : decode cX8_isLetter 17 = .ok (.ireturn, 1) := by decide +kernel
theorem dX8_isDigit_0 : decode cX8_isDigit 0 = .ok (.iload_n 0, 1) := by decide +kernel
theorem dX8_isDigit_1 : decode cX8_isDigit 1 = .ok (.bipush 48, 2) := by decide +kernel
theorem dX8_isDigit_3 : decode cX8_isDigit 3 = .ok (.if_icmp .lt 13, 3) := by decide +kernel
theorem dX8_isDigit_6 : decode cX8_isDigit 6 = .ok (.iload_n 0, 1) := by decide +kernel
theorem dX8_isDigit_7 : decode cX8_isDigit 7 = .ok (.bipush 57, 2) := by decide +kernel
theorem dX8_isDigit_9 : decode cX8_isDigit 9 = .ok (.if_icmp .gt 7, 3) := by decide +kernel
theorem dX8_isDigit_12 : decode cX8_isDigit 12 = .ok (.iconst 1, 1) := by decide +kernel
theorem dX8_isDigit_13 : decode cX8_isDigit 13 = .ok (.goto 4, 3) := by decide +kernel
theorem dX8_isDigit_16 : decode cX8_isDigit 16 = .ok (.iconst 0, 1) := by decide +kernel
theorem dX8_isDigit_17 : decode cX8_isDigit 17 = .ok (.ireturn, 1) := by decide +kernel
theorem dX8_fail_0 : decode cX8_fail 0 = .ok (.aload_n 0, 1) := by decide +kernel
theorem dX8_fail_1 : decode cX8_fail 1 = .ok (.iload_n 1, 1) := by decide +kernel
theorem dX8_fail_2 : decode cX8_fail 2 = .ok (.putfield 33, 3) := by decide +kernel
theorem dX8_fail_5 : decode cX8_fail 5 = .ok (.aload_n 0, 1) := by decide +kernel
theorem dX8_fail_6 : decode cX8_fail 6 = .ok (.aload_n 0, 1) := by decide +kernel
theorem dX8_fail_7 : decode cX8_fail 7 = .ok (.getfield 108, 3) := by decide +kernel
theorem dX8_fail_10 : decode cX8_fail 10 = .ok (.putfield 36, 3) := by decide +kernel
theorem dX8_fail_13 : decode cX8_fail 13 = .ok (.iconst 0, 1) := by decide +kernel
theorem dX8_fail_14 : decode cX8_fail 14 = .ok (.ireturn, 1) := by decide +kernel
theorem dX9_fewest_0 : decode cX9_fewest 0 = .ok (.iconst 0, 1) := by decide +kernel
theorem dX9_fewest_1 : decode cX9_fewest 1 = .ok (.istore_n 3, 1) := by decide +kernel
theorem dX9_fewest_2 : decode cX9_fewest 2 = .ok (.iload_n 3, 1) := by decide +kernel
theorem dX9_fewest_3 : decode cX9_fewest 3 = .ok (.bipush 7, 2) := by decide +kernel
theorem dX9_fewest_5 : decode cX9_fewest 5 = .ok (.if_icmp .gt 36, 3) := by decide +kernel
theorem dX9_fewest_8 : decode cX9_fewest 8 = .ok (.aload_n 0, 1) := by decide +kernel
theorem dX9_fewest_9 : decode cX9_fewest 9 = .ok (.getfield 18, 3) := by decide +kernel
theorem dX9_fewest_12 : decode cX9_fewest 12 = .ok (.aload_n 0, 1) := by decide +kernel
theorem dX9_fewest_13 : decode cX9_fewest 13 = .ok (.getfield 24, 3) := by decide +kernel
theorem dX9_fewest_16 : decode cX9_fewest 16 = .ok (.iload_n 3, 1) := by decide +kernel
theorem dX9_fewest_17 : decode cX9_fewest 17 = .ok (.iload_n 1, 1) := by decide +kernel
theorem dX9_fewest_18 : decode cX9_fewest 18 = .ok (.iload_n 2, 1) := by decide +kernel
theorem dX9_fewest_19 : decode cX9_fewest 19 = .ok (.iconst 0, 1) := by decide +kernel
theorem dX9_fewest_20 : decode cX9_fewest 20 = .ok (.invokestatic 27, 3) := by decide +kernel
theorem dX9_fewest_23 : decode cX9_fewest 23 = .ok (.istore 4, 2) := by decide +kernel
theorem dX9_fewest_25 : decode cX9_fewest 25 = .ok (.iload 4, 2) := by decide +kernel
theorem dX9_fewest_27 : decode cX9_fewest 27 = .ok (.bipush (-2), 2) := by decide +kernel
theorem dX9_fewest_29 : decode cX9_fewest 29 = .ok (.if_icmp .eq 6, 3) := by decide +kernel
theorem dX9_fewest_32 : decode cX9_fewest 32 = .ok (.iload 4, 2) := by decide +kernel
theorem dX9_fewest_34 : decode cX9_fewest 34 = .ok (.ireturn, 1) := by decide +kernel
theorem dX9_fewest_35 : decode cX9_fewest 35 = .ok (.iinc 3 1, 3) := by decide +kernel
theorem dX9_fewest_38 : decode cX9_fewest 38 = .ok (.goto (-36), 3) := by decide +kernel
theorem dX9_fewest_41 : decode cX9_fewest 41 = .ok (.bipush (-2), 2) := by decide +kernel
theorem dX9_fewest_43 : decode cX9_fewest 43 = .ok (.ireturn, 1) := by decide +kernel
theorem dX9_firstRow_0 : decode cX9_firstRow 0 = .ok (.iload_n 2, 1) := by decide +kernel
theorem dX9_firstRow_1 : decode cX9_firstRow 1 = .ok (.ifCond .le 9, 3) := by decide +kernel
theorem dX9_firstRow_4 : decode cX9_firstRow 4 = .ok (.iload_n 2, 1) := by decide +kernel
theorem dX9_firstRow_5 : decode cX9_firstRow 5 = .ok (.bipush 7, 2) := by decide +kernel
theorem dX9_firstRow_7 : decode cX9_firstRow 7 = .ok (.if_icmp .le 22, 3) := by decide +kernel
theorem dX9_firstRow_10 : decode cX9_firstRow 10 = .ok (.iload_n 0, 1) := by decide +kernel
theorem dX9_firstRow_11 : decode cX9_firstRow 11 = .ok (.iload_n 3, 1) := by decide +kernel
theorem dX9_firstRow_12 : decode cX9_firstRow 12 = .ok (.if_icmp .ne 14, 3) := by decide +kernel
theorem dX9_firstRow_15 : decode cX9_firstRow 15 = .ok (.iload_n 1, 1) := by decide +kernel
theorem dX9_firstRow_16 : decode cX9_firstRow 16 = .ok (.iload 4, 2) := by decide +kernel
theorem dX9_firstRow_18 : decode cX9_firstRow 18 = .ok (.if_icmp .ne 8, 3) := by decide +kernel
theorem dX9_firstRow_21 : decode cX9_firstRow 21 = .ok (.iload 5, 2) := by decide +kernel
theorem dX9_firstRow_23 : decode cX9_firstRow 23 = .ok (.goto 5, 3) := by decide +kernel
theorem dX9_firstRow_26 : decode cX9_firstRow 26 = .ok (.bipush (-2), 2) := by decide +kernel
theorem dX9_firstRow_28 : decode cX9_firstRow 28 = .ok (.ireturn, 1) := by decide +kernel
theorem dX9_firstRow_29 : decode cX9_firstRow 29 = .ok (.iconst 0, 1) := by decide +kernel
theorem dX9_firstRow_30 : decode cX9_firstRow 30 = .ok (.istore 6, 2) := by decide +kernel
theorem dX9_firstRow_32 : decode cX9_firstRow 32 = .ok (.iload 6, 2) := by decide +kernel
theorem dX9_firstRow_34 : decode cX9_firstRow 34 = .ok (.iconst 2, 1) := by decide +kernel
theorem dX9_firstRow_35 : decode cX9_firstRow 35 = .ok (.if_icmp .gt 75, 3) := by decide +kernel
theorem dX9_firstRow_38 : decode cX9_firstRow 38 = .ok (.iload 6, 2) := by decide +kernel
theorem dX9_firstRow_40 : decode cX9_firstRow 40 = .ok (.iload_n 0, 1) := by decide +kernel
theorem dX9_firstRow_41 : decode cX9_firstRow 41 = .ok (.iload_n 1, 1) := by decide +kernel
theorem dX9_firstRow_42 : decode cX9_firstRow 42 = .ok (.invokestatic 31, 3) := by decide +kernel
theorem dX9_firstRow_45 : decode cX9_firstRow 45 = .ok (.istore 7, 2) := by decide +kernel
theorem dX9_firstRow_47 : decode cX9_firstRow 47 = .ok (.iload 6, 2) := by decide +kernel
theorem dX9_firstRow_49 : decode cX9_firstRow 49 = .ok (.iload_n 0, 1) := by decide +kernel
theorem dX9_firstRow_50 : decode cX9_firstRow 50 = .ok (.iload_n 1, 1) := by decide +kernel
theorem dX9_firstRow_51 : decode cX9_firstRow 51 = .ok (.invokestatic 35, 3) := by decide +kernel
theorem dX9_firstRow_54 : decode cX9_firstRow 54 = .ok (.istore 8, 2) := by decide +kernel
theorem dX9_firstRow_56 : decode cX9_firstRow 56 = .ok (.iload 7, 2) := by decide +kernel
theorem dX9_firstRow_58 : decode cX9_firstRow 58 = .ok (.iload 8, 2) := by decide +kernel
theorem dX9_firstRow_60 : decode cX9_firstRow 60 = .ok (.invokestatic 38, 3) := by decide +kernel
theorem dX9_firstRow_63 : decode cX9_firstRow 63 = .ok (.ifCond .eq 6, 3) := by decide +kernel
theorem dX9_firstRow_66 : decode cX9_firstRow 66 = .ok (.goto 38, 3) := by decide +kernel
theorem dX9_firstRow_69 : decode cX9_firstRow 69 = .ok (.iload 7, 2) := by decide +kernel
theorem dX9_firstRow_71 : decode cX9_firstRow 71 = .ok (.iload 8, 2) := by decide +kernel
theorem dX9_firstRow_73 : decode cX9_firstRow 73 = .ok (.iload_n 2, 1) := by decide +kernel
theorem dX9_firstRow_74 : decode cX9_firstRow 74 = .ok (.iconst 1, 1) := by decide +kernel
theorem dX9_firstRow_75 : decode cX9_firstRow 75 = .ok (.isub, 1) := by decide +kernel
theorem dX9_firstRow_76 : decode cX9_firstRow 76 = .ok (.iload_n 3, 1) := by decide +kernel
theorem dX9_firstRow_77 : decode cX9_firstRow 77 = .ok (.iload 4, 2) := by decide +kernel
theorem dX9_firstRow_79 : decode cX9_firstRow 79 = .ok (.iload 5, 2) := by decide +kernel
theorem dX9_firstRow_81 : decode cX9_firstRow 81 = .ok (.bipush 10, 2) := by decide +kernel
theorem dX9_firstRow_83 : decode cX9_firstRow 83 = .ok (.imul, 1) := by decide +kernel
theorem dX9_firstRow_84 : decode cX9_firstRow 84 = .ok (.iload 6, 2) := by decide +kernel
theorem dX9_firstRow_86 : decode cX9_firstRow 86 = .ok (.iadd, 1) := by decide +kernel
theorem dX9_firstRow_87 : decode cX9_firstRow 87 = .ok (.iconst 1, 1) := by decide +kernel
theorem dX9_firstRow_88 : decode cX9_firstRow 88 = .ok (.iadd, 1) := by decide +kernel
theorem dX9_firstRow_89 : decode cX9_firstRow 89 = .ok (.invokestatic 27, 3) := by decide +kernel
theorem dX9_firstRow_92 : decode cX9_firstRow 92 = .ok (.istore 9, 2) := by decide +kernel
theorem dX9_firstRow_94 : decode cX9_firstRow 94 = .ok (.iload 9, 2) := by decide +kernel
theorem dX9_firstRow_96 : decode cX9_firstRow 96 = .ok (.bipush (-2), 2) := by decide +kernel
theorem dX9_firstRow_98 : decode cX9_firstRow 98 = .ok (.if_icmp .eq 6, 3) := by decide +kernel
theorem dX9_firstRow_101 : decode cX9_firstRow 101 = .ok (.iload 9, 2) := by decide +kernel
theorem dX9_firstRow_103 : decode cX9_firstRow 103 = .ok (.ireturn, 1) := by decide +kernel
theorem dX9_firstRow_104 : decode cX9_firstRow 104 = .ok (.iinc 6 1, 3) := by decide +kernel
theorem dX9_firstRow_107 : decode cX9_firstRow 107 = .ok (.goto (-75), 3) := by decide +kernel
theorem dX9_firstRow_110 : decode cX9_firstRow 110 = .ok (.bipush (-2), 2) := by decide +kernel
theorem dX9_firstRow_112 : decode cX9_firstRow 112 = .ok (.ireturn, 1) := by decide +kernel
theorem dX9_spread_0 : decode cX9_spread 0 = .ok (.aload_n 0, 1) := by decide +kernel
theorem dX9_spread_1 : decode cX9_spread 1 = .ok (.iconst 0, 1) := by decide +kernel
theorem dX9_spread_2 : decode cX9_spread 2 = .ok (.putfield 42, 3) := by decide +kernel
theorem dX9_spread_5 : decode cX9_spread 5 = .ok (.aload_n 0, 1) := by decide +kernel
theorem dX9_spread_6 : decode cX9_spread 6 = .ok (.iconst 0, 1) := by decide +kernel
theorem dX9_spread_7 : decode cX9_spread 7 = .ok (.iconst 1, 1) := by decide +kernel
theorem dX9_spread_8 : decode cX9_spread 8 = .ok (.invokevirtual 45, 3) := by decide +kernel
theorem dX9_spread_11 : decode cX9_spread 11 = .ok (.iconst 0, 1) := by decide +kernel
theorem dX9_spread_12 : decode cX9_spread 12 = .ok (.istore_n 2, 1) := by decide +kernel
theorem dX9_spread_13 : decode cX9_spread 13 = .ok (.iconst 0, 1) := by decide +kernel
theorem dX9_spread_14 : decode cX9_spread 14 = .ok (.istore_n 3, 1) := by decide +kernel
theorem dX9_spread_15 : decode cX9_spread 15 = .ok (.iload_n 3, 1) := by decide +kernel
theorem dX9_spread_16 : decode cX9_spread 16 = .ok (.iload_n 1, 1) := by decide +kernel
theorem dX9_spread_17 : decode cX9_spread 17 = .ok (.if_icmp .ge 56, 3) := by decide +kernel
theorem dX9_spread_20 : decode cX9_spread 20 = .ok (.aload_n 0, 1) := by decide +kernel
theorem dX9_spread_21 : decode cX9_spread 21 = .ok (.getfield 42, 3) := by decide +kernel
theorem dX9_spread_24 : decode cX9_spread 24 = .ok (.istore 4, 2) := by decide +kernel
theorem dX9_spread_26 : decode cX9_spread 26 = .ok (.iload_n 2, 1) := by decide +kernel
theorem dX9_spread_27 : decode cX9_spread 27 = .ok (.istore 5, 2) := by decide +kernel
theorem dX9_spread_29 : decode cX9_spread 29 = .ok (.iload 5, 2) := by decide +kernel
theorem dX9_spread_31 : decode cX9_spread 31 = .ok (.iload 4, 2) := by decide +kernel
theorem dX9_spread_33 : decode cX9_spread 33 = .ok (.if_icmp .ge 31, 3) := by decide +kernel
theorem dX9_spread_36 : decode cX9_spread 36 = .ok (.aload_n 0, 1) := by decide +kernel
theorem dX9_spread_37 : decode cX9_spread 37 = .ok (.aload_n 0, 1) := by decide +kernel
theorem dX9_spread_38 : decode cX9_spread 38 = .ok (.getfield 11, 3) := by decide +kernel
theorem dX9_spread_41 : decode cX9_spread 41 = .ok (.iload 5, 2) := by decide +kernel
theorem dX9_spread_43 : decode cX9_spread 43 = .ok (.invokestatic 49, 3) := by decide +kernel
theorem dX9_spread_46 : decode cX9_spread 46 = .ok (.aload_n 0, 1) := by decide +kernel
theorem dX9_spread_47 : decode cX9_spread 47 = .ok (.getfield 15, 3) := by decide +kernel
theorem dX9_spread_50 : decode cX9_spread 50 = .ok (.iload 5, 2) := by decide +kernel
theorem dX9_spread_52 : decode cX9_spread 52 = .ok (.invokestatic 49, 3) := by decide +kernel
theorem dX9_spread_55 : decode cX9_spread 55 = .ok (.invokevirtual 53, 3) := by decide +kernel
theorem dX9_spread_58 : decode cX9_spread 58 = .ok (.iinc 5 1, 3) := by decide +kernel
theorem dX9_spread_61 : decode cX9_spread 61 = .ok (.goto (-32), 3) := by decide +kernel
theorem dX9_spread_64 : decode cX9_spread 64 = .ok (.iload 4, 2) := by decide +kernel
theorem dX9_spread_66 : decode cX9_spread 66 = .ok (.istore_n 2, 1) := by decide +kernel
theorem dX9_spread_67 : decode cX9_spread 67 = .ok (.iinc 3 1, 3) := by decide +kernel
theorem dX9_spread_70 : decode cX9_spread 70 = .ok (.goto (-55), 3) := by decide +kernel
theorem dX9_spread_73 : decode cX9_spread 73 = .ok (.aload_n 0, 1) := by decide +kernel
theorem dX9_spread_74 : decode cX9_spread 74 = .ok (.getfield 42, 3) := by decide +kernel
theorem dX9_spread_77 : decode cX9_spread 77 = .ok (.ireturn, 1) := by decide +kernel
theorem dX9_addNeighbours_0 : decode cX9_addNeighbours 0 = .ok (.iconst 0, 1) := by decide +kernel
theorem dX9_addNeighbours_1 : decode cX9_addNeighbours 1 = .ok (.istore_n 3, 1) := by decide +kernel
theorem dX9_addNeighbours_2 : decode cX9_addNeighbours 2 = .ok (.iload_n 3, 1) := by decide +kernel
theorem dX9_addNeighbours_3 : decode cX9_addNeighbours 3 = .ok (.iconst 2, 1) := by decide +kernel
theorem dX9_addNeighbours_4 : decode cX9_addNeighbours 4 = .ok (.if_icmp .gt 25, 3) := by decide +kernel
theorem dX9_addNeighbours_7 : decode cX9_addNeighbours 7 = .ok (.aload_n 0, 1) := by decide +kernel
theorem dX9_addNeighbours_8 : decode cX9_addNeighbours 8 = .ok (.iload_n 3, 1) := by decide +kernel
theorem dX9_addNeighbours_9 : decode cX9_addNeighbours 9 = .ok (.iload_n 1, 1) := by decide +kernel
theorem dX9_addNeighbours_10 : decode cX9_addNeighbours 10 = .ok (.iload_n 2, 1) := by decide +kernel
theorem dX9_addNeighbours_11 : decode cX9_addNeighbours 11 = .ok (.invokestatic 31, 3) := by decide +kernel
theorem dX9_addNeighbours_14 : decode cX9_addNeighbours 14 = .ok (.iload_n 3, 1) := by decide +kernel
theorem dX9_addNeighbours_15 : decode cX9_addNeighbours 15 = .ok (.iload_n 1, 1) := by decide +kernel
theorem dX9_addNeighbours_16 : decode cX9_addNeighbours 16 = .ok (.iload_n 2, 1) := by decide +kernel
theorem dX9_addNeighbours_17 : decode cX9_addNeighbours 17 = .ok (.invokestatic 35, 3) := by decide +kernel
theorem dX9_addNeighbours_20 : decode cX9_addNeighbours 20 = .ok (.invokevirtual 45, 3) := by decide +kernel
theorem dX9_addNeighbours_23 : decode cX9_addNeighbours 23 = .ok (.iinc 3 1, 3) := by decide +kernel
theorem dX9_addNeighbours_26 : decode cX9_addNeighbours 26 = .ok (.goto (-24), 3) := by decide +kernel
theorem dX9_addNeighbours_29 : decode cX9_addNeighbours 29 = .ok (.return_, 1) := by decide +kernel
theorem dX9_addReached_0 : decode cX9_addReached 0 = .ok (.iconst 0, 1) := by decide +kernel
theorem dX9_addReached_1 : decode cX9_addReached 1 = .ok (.istore_n 3, 1) := by decide +kernel
theorem dX9_addReached_2 : decode cX9_addReached 2 = .ok (.iload_n 3, 1) := by decide +kernel
theorem dX9_addReached_3 : decode cX9_addReached 3 = .ok (.aload_n 0, 1) := by decide +kernel
theorem dX9_addReached_4 : decode cX9_addReached 4 = .ok (.getfield 42, 3) := by decide +kernel
theorem dX9_addReached_7 : decode cX9_addReached 7 = .ok (.if_icmp .ge 34, 3) := by decide +kernel
theorem dX9_addReached_10 : decode cX9_addReached 10 = .ok (.aload_n 0, 1) := by decide +kernel
theorem dX9_addReached_11 : decode cX9_addReached 11 = .ok (.getfield 11, 3) := by decide +kernel
theorem dX9_addReached_14 : decode cX9_addReached 14 = .ok (.iload_n 3, 1) := by decide +kernel
theorem dX9_addReached_15 : decode cX9_addReached 15 = .ok (.invokestatic 49, 3) := by decide +kernel
theorem dX9_addReached_18 : decode cX9_addReached 18 = .ok (.iload_n 1, 1) := by decide +kernel
theorem dX9_addReached_19 : decode cX9_addReached 19 = .ok (.if_icmp .ne 16, 3) := by decide +kernel
theorem dX9_addReached_22 : decode cX9_addReached 22 = .ok (.aload_n 0, 1) := by decide +kernel
theorem dX9_addReached_23 : decode cX9_addReached 23 = .ok (.getfield 15, 3) := by decide +kernel
theorem dX9_addReached_26 : decode cX9_addReached 26 = .ok (.iload_n 3, 1) := by decide +kernel
theorem dX9_addReached_27 : decode cX9_addReached 27 = .ok (.invokestatic 49, 3) := by decide +kernel
theorem dX9_addReached_30 : decode cX9_addReached 30 = .ok (.iload_n 2, 1) := by decide +kernel
theorem dX9_addReached_31 : decode cX9_addReached 31 = .ok (.if_icmp .ne 4, 3) := by decide +kernel
theorem dX9_addReached_34 : decode cX9_addReached 34 = .ok (.return_, 1) := by decide +kernel
theorem dX9_addReached_35 : decode cX9_addReached 35 = .ok (.iinc 3 1, 3) := by decide +kernel
theorem dX9_addReached_38 : decode cX9_addReached 38 = .ok (.goto (-36), 3) := by decide +kernel
theorem dX9_addReached_41 : decode cX9_addReached 41 = .ok (.aload_n 0, 1) := by decide +kernel
theorem dX9_addReached_42 : decode cX9_addReached 42 = .ok (.getfield 42, 3) := by decide +kernel
theorem dX9_addReached_45 : decode cX9_addReached 45 = .ok (.sipush 128, 3) := by decide +kernel
theorem dX9_addReached_48 : decode cX9_addReached 48 = .ok (.if_icmp .ge 37, 3) := by decide +kernel
theorem dX9_addReached_51 : decode cX9_addReached 51 = .ok (.aload_n 0, 1) := by decide +kernel
theorem dX9_addReached_52 : decode cX9_addReached 52 = .ok (.getfield 11, 3) := by decide +kernel
theorem dX9_addReached_55 : decode cX9_addReached 55 = .ok (.aload_n 0, 1) := by decide +kernel
theorem dX9_addReached_56 : decode cX9_addReached 56 = .ok (.getfield 42, 3) := by decide +kernel
theorem dX9_addReached_59 : decode cX9_addReached 59 = .ok (.iload_n 1, 1) := by decide +kernel
theorem dX9_addReached_60 : decode cX9_addReached 60 = .ok (.invokestatic 56, 3) := by decide +kernel
theorem dX9_addReached_63 : decode cX9_addReached 63 = .ok (.aload_n 0, 1) := by decide +kernel
theorem dX9_addReached_64 : decode cX9_addReached 64 = .ok (.getfield 15, 3) := by decide +kernel
theorem dX9_addReached_67 : decode cX9_addReached 67 = .ok (.aload_n 0, 1) := by decide +kernel
theorem dX9_addReached_68 : decode cX9_addReached 68 = .ok (.getfield 42, 3) := by decide +kernel
theorem dX9_addReached_71 : decode cX9_addReached 71 = .ok (.iload_n 2, 1) := by decide +kernel
theorem dX9_addReached_72 : decode cX9_addReached 72 = .ok (.invokestatic 56, 3) := by decide +kernel
theorem dX9_addReached_75 : decode cX9_addReached 75 = .ok (.aload_n 0, 1) := by decide +kernel
theorem dX9_addReached_76 : decode cX9_addReached 76 = .ok (.dup, 1) := by decide +kernel
theorem dX9_addReached_77 : decode cX9_addReached 77 = .ok (.getfield 42, 3) := by decide +kernel
theorem dX9_addReached_80 : decode cX9_addReached 80 = .ok (.iconst 1, 1) := by decide +kernel
theorem dX9_addReached_81 : decode cX9_addReached 81 = .ok (.iadd, 1) := by decide +kernel
theorem dX9_addReached_82 : decode cX9_addReached 82 = .ok (.putfield 42, 3) := by decide +kernel
theorem dX9_addReached_85 : decode cX9_addReached 85 = .ok (.return_, 1) := by decide +kernel
theorem dX9_bestFor_0 : decode cX9_bestFor 0 = .ok (.iload_n 2, 1) := by decide +kernel
theorem dX9_bestFor_1 : decode cX9_bestFor 1 = .ok (.ifCond .le 9, 3) := by decide +kernel
theorem dX9_bestFor_4 : decode cX9_bestFor 4 = .ok (.iload_n 2, 1) := by decide +kernel
theorem dX9_bestFor_5 : decode cX9_bestFor 5 = .ok (.bipush 8, 2) := by decide +kernel
theorem dX9_bestFor_7 : decode cX9_bestFor 7 = .ok (.if_icmp .le 5, 3) := by decide +kernel
theorem dX9_bestFor_10 : decode cX9_bestFor 10 = .ok (.iconst 0, 1) := by decide +kernel
theorem dX9_bestFor_11 : decode cX9_bestFor 11 = .ok (.ireturn, 1) := by decide +kernel
theorem dX9_bestFor_12 : decode cX9_bestFor 12 = .ok (.bipush (-2), 2) := by decide +kernel
theorem dX9_bestFor_14 : decode cX9_bestFor 14 = .ok (.istore_n 3, 1) := by decide +kernel
theorem dX9_bestFor_15 : decode cX9_bestFor 15 = .ok (.iconst 0, 1) := by decide +kernel
theorem dX9_bestFor_16 : decode cX9_bestFor 16 = .ok (.istore 4, 2) := by decide +kernel
theorem dX9_bestFor_18 : decode cX9_bestFor 18 = .ok (.iload 4, 2) := by decide +kernel
theorem dX9_bestFor_20 : decode cX9_bestFor 20 = .ok (.iconst 2, 1) := by decide +kernel
theorem dX9_bestFor_21 : decode cX9_bestFor 21 = .ok (.if_icmp .gt 27, 3) := by decide +kernel
theorem dX9_bestFor_24 : decode cX9_bestFor 24 = .ok (.iload_n 3, 1) := by decide +kernel
theorem dX9_bestFor_25 : decode cX9_bestFor 25 = .ok (.iconst 1, 1) := by decide +kernel
theorem dX9_bestFor_26 : decode cX9_bestFor 26 = .ok (.if_icmp .ge 22, 3) := by decide +kernel
theorem dX9_bestFor_29 : decode cX9_bestFor 29 = .ok (.iload_n 3, 1) := by decide +kernel
theorem dX9_bestFor_30 : decode cX9_bestFor 30 = .ok (.iload 4, 2) := by decide +kernel
theorem dX9_bestFor_32 : decode cX9_bestFor 32 = .ok (.iload_n 0, 1) := by decide +kernel
theorem dX9_bestFor_33 : decode cX9_bestFor 33 = .ok (.iload_n 1, 1) := by decide +kernel
theorem dX9_bestFor_34 : decode cX9_bestFor 34 = .ok (.iload_n 2, 1) := by decide +kernel
theorem dX9_bestFor_35 : decode cX9_bestFor 35 = .ok (.invokestatic 60, 3) := by decide +kernel
theorem dX9_bestFor_38 : decode cX9_bestFor 38 = .ok (.invokestatic 64, 3) := by decide +kernel
theorem dX9_bestFor_41 : decode cX9_bestFor 41 = .ok (.istore_n 3, 1) := by decide +kernel
theorem dX9_bestFor_42 : decode cX9_bestFor 42 = .ok (.iinc 4 1, 3) := by decide +kernel
theorem dX9_bestFor_45 : decode cX9_bestFor 45 = .ok (.goto (-27), 3) := by decide +kernel
theorem dX9_bestFor_48 : decode cX9_bestFor 48 = .ok (.iload_n 3, 1) := by decide +kernel
theorem dX9_bestFor_49 : decode cX9_bestFor 49 = .ok (.ireturn, 1) := by decide +kernel
theorem dX9_bestBy_0 : decode cX9_bestBy 0 = .ok (.iload_n 0, 1) := by decide +kernel
theorem dX9_bestBy_1 : decode cX9_bestBy 1 = .ok (.iload_n 1, 1) := by decide +kernel
theorem dX9_bestBy_2 : decode cX9_bestBy 2 = .ok (.iload_n 2, 1) := by decide +kernel
theorem dX9_bestBy_3 : decode cX9_bestBy 3 = .ok (.invokestatic 31, 3) := by decide +kernel
theorem dX9_bestBy_6 : decode cX9_bestBy 6 = .ok (.istore 4, 2) := by decide +kernel
theorem dX9_bestBy_8 : decode cX9_bestBy 8 = .ok (.iload_n 0, 1) := by decide +kernel
theorem dX9_bestBy_9 : decode cX9_bestBy 9 = .ok (.iload_n 1, 1) := by decide +kernel
theorem dX9_bestBy_10 : decode cX9_bestBy 10 = .ok (.iload_n 2, 1) := by decide +kernel
theorem dX9_bestBy_11 : decode cX9_bestBy 11 = .ok (.invokestatic 35, 3) := by decide +kernel
theorem dX9_bestBy_14 : decode cX9_bestBy 14 = .ok (.istore 5, 2) := by decide +kernel
theorem dX9_bestBy_16 : decode cX9_bestBy 16 = .ok (.iload 4, 2) := by decide +kernel
theorem dX9_bestBy_18 : decode cX9_bestBy 18 = .ok (.iload 5, 2) := by decide +kernel
theorem dX9_bestBy_20 : decode cX9_bestBy 20 = .ok (.invokestatic 38, 3) := by decide +kernel
theorem dX9_bestBy_23 : decode cX9_bestBy 23 = .ok (.ifCond .eq 6, 3) := by decide +kernel
theorem dX9_bestBy_26 : decode cX9_bestBy 26 = .ok (.bipush (-2), 2) := by decide +kernel
theorem dX9_bestBy_28 : decode cX9_bestBy 28 = .ok (.ireturn, 1) := by decide +kernel
theorem dX9_bestBy_29 : decode cX9_bestBy 29 = .ok (.iload 4, 2) := by decide +kernel
theorem dX9_bestBy_31 : decode cX9_bestBy 31 = .ok (.ifCond .ne 7, 3) := by decide +kernel
theorem dX9_bestBy_34 : decode cX9_bestBy 34 = .ok (.iconst 1, 1) := by decide +kernel
theorem dX9_bestBy_35 : decode cX9_bestBy 35 = .ok (.goto 14, 3) := by decide +kernel
theorem dX9_bestBy_38 : decode cX9_bestBy 38 = .ok (.iload 4, 2) := by decide +kernel
theorem dX9_bestBy_40 : decode cX9_bestBy 40 = .ok (.iload 5, 2) := by decide +kernel
theorem dX9_bestBy_42 : decode cX9_bestBy 42 = .ok (.iload_n 3, 1) := by decide +kernel
theorem dX9_bestBy_43 : decode cX9_bestBy 43 = .ok (.iconst 1, 1) := by decide +kernel
theorem dX9_bestBy_44 : decode cX9_bestBy 44 = .ok (.isub, 1) := by decide +kernel
theorem dX9_bestBy_45 : decode cX9_bestBy 45 = .ok (.invokestatic 70, 3) := by decide +kernel
theorem dX9_bestBy_48 : decode cX9_bestBy 48 = .ok (.ineg, 1) := by decide +kernel
theorem dX9_bestBy_49 : decode cX9_bestBy 49 = .ok (.ireturn, 1) := by decide +kernel
theorem dX10_feed_0 : decode cX10_feed 0 = .ok (.aload_n 0, 1) := by decide +kernel
theorem dX10_feed_1 : decode cX10_feed 1 = .ok (.getfield 10, 3) := by decide +kernel
theorem dX10_feed_4 : decode cX10_feed 4 = .ok (.invokevirtual 71, 3) := by decide +kernel
theorem dX10_feed_7 : decode cX10_feed 7 = .ok (.ifCond .ne 5, 3) := by decide +kernel
theorem dX10_feed_10 : decode cX10_feed 10 = .ok (.iconst (-1), 1) := by decide +kernel
theorem dX10_feed_11 : decode cX10_feed 11 = .ok (.ireturn, 1) := by decide +kernel
theorem dX10_feed_12 : decode cX10_feed 12 = .ok (.aload_n 0, 1) := by decide +kernel
theorem dX10_feed_13 : decode cX10_feed 13 = .ok (.getfield 10, 3) := by decide +kernel
theorem dX10_feed_16 : decode cX10_feed 16 = .ok (.iload_n 1, 1) := by decide +kernel
theorem dX10_feed_17 : decode cX10_feed 17 = .ok (.invokevirtual 75, 3) := by decide +kernel
theorem dX10_feed_20 : decode cX10_feed 20 = .ok (.aload_n 0, 1) := by decide +kernel
theorem dX10_feed_21 : decode cX10_feed 21 = .ok (.getfield 10, 3) := by decide +kernel
theorem dX10_feed_24 : decode cX10_feed 24 = .ok (.iload_n 2, 1) := by decide +kernel
theorem dX10_feed_25 : decode cX10_feed 25 = .ok (.invokevirtual 75, 3) := by decide +kernel
theorem dX10_feed_28 : decode cX10_feed 28 = .ok (.aload_n 0, 1) := by decide +kernel
theorem dX10_feed_29 : decode cX10_feed 29 = .ok (.getfield 10, 3) := by decide +kernel
theorem dX10_feed_32 : decode cX10_feed 32 = .ok (.iload_n 3, 1) := by decide +kernel
theorem dX10_feed_33 : decode cX10_feed 33 = .ok (.invokevirtual 75, 3) := by decide +kernel
theorem dX10_feed_36 : decode cX10_feed 36 = .ok (.aload_n 0, 1) := by decide +kernel
theorem dX10_feed_37 : decode cX10_feed 37 = .ok (.getfield 10, 3) := by decide +kernel
theorem dX10_feed_40 : decode cX10_feed 40 = .ok (.iload 4, 2) := by decide +kernel
theorem dX10_feed_42 : decode cX10_feed 42 = .ok (.invokevirtual 75, 3) := by decide +kernel
theorem dX10_feed_45 : decode cX10_feed 45 = .ok (.aload_n 0, 1) := by decide +kernel
theorem dX10_feed_46 : decode cX10_feed 46 = .ok (.getfield 10, 3) := by decide +kernel
theorem dX10_feed_49 : decode cX10_feed 49 = .ok (.iload 5, 2) := by decide +kernel
theorem dX10_feed_51 : decode cX10_feed 51 = .ok (.invokevirtual 75, 3) := by decide +kernel
theorem dX10_feed_54 : decode cX10_feed 54 = .ok (.aload_n 0, 1) := by decide +kernel
theorem dX10_feed_55 : decode cX10_feed 55 = .ok (.getfield 10, 3) := by decide +kernel
theorem dX10_feed_58 : decode cX10_feed 58 = .ok (.getfield 79, 3) := by decide +kernel
theorem dX10_feed_61 : decode cX10_feed 61 = .ok (.ireturn, 1) := by decide +kernel
theorem dX10_hall_0 : decode cX10_hall 0 = .ok (.iload_n 1, 1) := by decide +kernel
theorem dX10_hall_1 : decode cX10_hall 1 = .ok (.ifCond .lt 14, 3) := by decide +kernel
theorem dX10_hall_4 : decode cX10_hall 4 = .ok (.iload_n 1, 1) := by decide +kernel
theorem dX10_hall_5 : decode cX10_hall 5 = .ok (.aload_n 0, 1) := by decide +kernel
theorem dX10_hall_6 : decode cX10_hall 6 = .ok (.getfield 10, 3) := by decide +kernel
theorem dX10_hall_9 : decode cX10_hall 9 = .ok (.getfield 79, 3) := by decide +kernel
theorem dX10_hall_12 : decode cX10_hall 12 = .ok (.if_icmp .le 10, 3) := by decide +kernel
theorem dX10_hall_15 : decode cX10_hall 15 = .ok (.aload_n 0, 1) := by decide +kernel
theorem dX10_hall_16 : decode cX10_hall 16 = .ok (.iconst 2, 1) := by decide +kernel
theorem dX10_hall_17 : decode cX10_hall 17 = .ok (.iconst (-1), 1) := by decide +kernel
theorem dX10_hall_18 : decode cX10_hall 18 = .ok (.invokevirtual 83, 3) := by decide +kernel
theorem dX10_hall_21 : decode cX10_hall 21 = .ok (.ireturn, 1) := by decide +kernel
theorem dX10_hall_22 : decode cX10_hall 22 = .ok (.aload_n 0, 1) := by decide +kernel
theorem dX10_hall_23 : decode cX10_hall 23 = .ok (.getfield 10, 3) := by decide +kernel
theorem dX10_hall_26 : decode cX10_hall 26 = .ok (.aload_n 0, 1) := by decide +kernel
theorem dX10_hall_27 : decode cX10_hall 27 = .ok (.getfield 23, 3) := by decide +kernel
theorem dX10_hall_30 : decode cX10_hall 30 = .ok (.iload_n 1, 1) := by decide +kernel
theorem dX10_hall_31 : decode cX10_hall 31 = .ok (.invokevirtual 87, 3) := by decide +kernel
theorem dX10_hall_34 : decode cX10_hall 34 = .ok (.ifCond .ne 10, 3) := by decide +kernel
theorem dX10_hall_37 : decode cX10_hall 37 = .ok (.aload_n 0, 1) := by decide +kernel
theorem dX10_hall_38 : decode cX10_hall 38 = .ok (.iconst 4, 1) := by decide +kernel
theorem dX10_hall_39 : decode cX10_hall 39 = .ok (.iconst (-1), 1) := by decide +kernel
theorem dX10_hall_40 : decode cX10_hall 40 = .ok (.invokevirtual 83, 3) := by decide +kernel
theorem dX10_hall_43 : decode cX10_hall 43 = .ok (.ireturn, 1) := by decide +kernel
theorem dX10_hall_44 : decode cX10_hall 44 = .ok (.aload_n 0, 1) := by decide +kernel
theorem dX10_hall_45 : decode cX10_hall 45 = .ok (.getfield 19, 3) := by decide +kernel
theorem dX10_hall_48 : decode cX10_hall 48 = .ok (.astore_n 2, 1) := by decide +kernel
theorem dX10_hall_49 : decode cX10_hall 49 = .ok (.aload_n 0, 1) := by decide +kernel
theorem dX10_hall_50 : decode cX10_hall 50 = .ok (.aload_n 0, 1) := by decide +kernel
theorem dX10_hall_51 : decode cX10_hall 51 = .ok (.getfield 23, 3) := by decide +kernel
theorem dX10_hall_54 : decode cX10_hall 54 = .ok (.putfield 19, 3) := by decide +kernel
theorem dX10_hall_57 : decode cX10_hall 57 = .ok (.aload_n 0, 1) := by decide +kernel
theorem dX10_hall_58 : decode cX10_hall 58 = .ok (.aload_n 2, 1) := by decide +kernel
theorem dX10_hall_59 : decode cX10_hall 59 = .ok (.putfield 23, 3) := by decide +kernel
theorem dX10_hall_62 : decode cX10_hall 62 = .ok (.aload_n 0, 1) := by decide +kernel
theorem dX10_hall_63 : decode cX10_hall 63 = .ok (.getfield 19, 3) := by decide +kernel
theorem dX10_hall_66 : decode cX10_hall 66 = .ok (.invokevirtual 91, 3) := by decide +kernel
theorem dX10_hall_69 : decode cX10_hall 69 = .ok (.aload_n 0, 1) := by decide +kernel
theorem dX10_hall_70 : decode cX10_hall 70 = .ok (.getfield 29, 3) := by decide +kernel
theorem dX10_hall_73 : decode cX10_hall 73 = .ok (.invokevirtual 94, 3) := by decide +kernel
theorem dX10_hall_76 : decode cX10_hall 76 = .ok (.aload_n 0, 1) := by decide +kernel
theorem dX10_hall_77 : decode cX10_hall 77 = .ok (.aload_n 0, 1) := by decide +kernel
theorem dX10_hall_78 : decode cX10_hall 78 = .ok (.getfield 19, 3) := by decide +kernel
theorem dX10_hall_81 : decode cX10_hall 81 = .ok (.getfield 97, 3) := by decide +kernel
theorem dX10_hall_84 : decode cX10_hall 84 = .ok (.invokevirtual 100, 3) := by decide +kernel
theorem dX10_hall_87 : decode cX10_hall 87 = .ok (.ireturn, 1) := by decide +kernel
theorem dX10_fault_0 : decode cX10_fault 0 = .ok (.aload_n 0, 1) := by decide +kernel
theorem dX10_fault_1 : decode cX10_fault 1 = .ok (.getfield 10, 3) := by decide +kernel
theorem dX10_fault_4 : decode cX10_fault 4 = .ok (.getfield 104, 3) := by decide +kernel
theorem dX10_fault_7 : decode cX10_fault 7 = .ok (.ireturn, 1) := by decide +kernel
theorem dX10_where_0 : decode cX10_where 0 = .ok (.aload_n 0, 1) := by decide +kernel
theorem dX10_where_1 : decode cX10_where 1 = .ok (.getfield 107, 3) := by decide +kernel
theorem dX10_where_4 : decode cX10_where 4 = .ok (.iconst 4, 1) := by decide +kernel
theorem dX10_where_5 : decode cX10_where 5 = .ok (.if_icmp .ne 13, 3) := by decide +kernel
theorem dX10_where_8 : decode cX10_where 8 = .ok (.aload_n 0, 1) := by decide +kernel
theorem dX10_where_9 : decode cX10_where 9 = .ok (.getfield 10, 3) := by decide +kernel
theorem dX10_where_12 : decode cX10_where 12 = .ok (.getfield 110, 3) := by decide +kernel
theorem dX10_where_15 : decode cX10_where 15 = .ok (.goto 4, 3) := by decide +kernel
theorem dX10_where_18 : decode cX10_where 18 = .ok (.iconst (-1), 1) := by decide +kernel
theorem dX10_where_19 : decode cX10_where 19 = .ok (.ireturn, 1) := by decide +kernel
theorem dX10_upper_0 : decode cX10_upper 0 = .ok (.aload_n 0, 1) := by decide +kernel
theorem dX10_upper_1 : decode cX10_upper 1 = .ok (.getfield 19, 3) := by decide +kernel
theorem dX10_upper_4 : decode cX10_upper 4 = .ok (.iload_n 1, 1) := by decide +kernel
theorem dX10_upper_5 : decode cX10_upper 5 = .ok (.invokevirtual 113, 3) := by decide +kernel
theorem dX10_upper_8 : decode cX10_upper 8 = .ok (.astore_n 2, 1) := by decide +kernel
theorem dX10_upper_9 : decode cX10_upper 9 = .ok (.aload_n 2, 1) := by decide +kernel
theorem dX10_upper_10 : decode cX10_upper 10 = .ok (.ifnonnull 11, 3) := by decide +kernel
theorem dX10_upper_13 : decode cX10_upper 13 = .ok (.aload_n 0, 1) := by decide +kernel
theorem dX10_upper_14 : decode cX10_upper 14 = .ok (.iconst 1, 1) := by decide +kernel
theorem dX10_upper_15 : decode cX10_upper 15 = .ok (.ldc 117, 2) := by decide +kernel
theorem dX10_upper_17 : decode cX10_upper 17 = .ok (.invokevirtual 83, 3) := by decide +kernel
theorem dX10_upper_20 : decode cX10_upper 20 = .ok (.ireturn, 1) := by decide +kernel
theorem dX10_upper_21 : decode cX10_upper 21 = .ok (.aload_n 0, 1) := by decide +kernel
theorem dX10_upper_22 : decode cX10_upper 22 = .ok (.aload_n 2, 1) := by decide +kernel
theorem dX10_upper_23 : decode cX10_upper 23 = .ok (.getfield 118, 3) := by decide +kernel
theorem dX10_upper_26 : decode cX10_upper 26 = .ok (.getfield 123, 3) := by decide +kernel
theorem dX10_upper_29 : decode cX10_upper 29 = .ok (.invokevirtual 100, 3) := by decide +kernel
theorem dX10_upper_32 : decode cX10_upper 32 = .ok (.ireturn, 1) := by decide +kernel
theorem dX10_lower_0 : decode cX10_lower 0 = .ok (.aload_n 0, 1) := by decide +kernel
theorem dX10_lower_1 : decode cX10_lower 1 = .ok (.getfield 19, 3) := by decide +kernel
theorem dX10_lower_4 : decode cX10_lower 4 = .ok (.iload_n 1, 1) := by decide +kernel
theorem dX10_lower_5 : decode cX10_lower 5 = .ok (.invokevirtual 113, 3) := by decide +kernel
theorem dX10_lower_8 : decode cX10_lower 8 = .ok (.astore_n 2, 1) := by decide +kernel
theorem dX10_lower_9 : decode cX10_lower 9 = .ok (.aload_n 2, 1) := by decide +kernel
theorem dX10_lower_10 : decode cX10_lower 10 = .ok (.ifnonnull 10, 3) := by decide +kernel
theorem dX10_lower_13 : decode cX10_lower 13 = .ok (.aload_n 0, 1) := by decide +kernel
theorem dX10_lower_14 : decode cX10_lower 14 = .ok (.iconst 1, 1) := by decide +kernel
theorem dX10_lower_15 : decode cX10_lower 15 = .ok (.iconst (-1), 1) := by decide +kernel
theorem dX10_lower_16 : decode cX10_lower 16 = .ok (.invokevirtual 83, 3) := by decide +kernel
theorem dX10_lower_19 : decode cX10_lower 19 = .ok (.ireturn, 1) := by decide +kernel
theorem dX10_lower_20 : decode cX10_lower 20 = .ok (.aload_n 0, 1) := by decide +kernel
theorem dX10_lower_21 : decode cX10_lower 21 = .ok (.aload_n 2, 1) := by decide +kernel
theorem dX10_lower_22 : decode cX10_lower 22 = .ok (.getfield 118, 3) := by decide +kernel
theorem dX10_lower_25 : decode cX10_lower 25 = .ok (.getfield 126, 3) := by decide +kernel
theorem dX10_lower_28 : decode cX10_lower 28 = .ok (.invokevirtual 100, 3) := by decide +kernel
theorem dX10_lower_31 : decode cX10_lower 31 = .ok (.ireturn, 1) := by decide +kernel
theorem dX10_end_0 : decode cX10_end 0 = .ok (.aload_n 0, 1) := by decide +kernel
theorem dX10_end_1 : decode cX10_end 1 = .ok (.getfield 19, 3) := by decide +kernel
theorem dX10_end_4 : decode cX10_end 4 = .ok (.iload_n 1, 1) := by decide +kernel
theorem dX10_end_5 : decode cX10_end 5 = .ok (.invokevirtual 113, 3) := by decide +kernel
theorem dX10_end_8 : decode cX10_end 8 = .ok (.astore_n 3, 1) := by decide +kernel
theorem dX10_end_9 : decode cX10_end 9 = .ok (.aload_n 3, 1) := by decide +kernel
theorem dX10_end_10 : decode cX10_end 10 = .ok (.ifnull 10, 3) := by decide +kernel
theorem dX10_end_13 : decode cX10_end 13 = .ok (.iload_n 2, 1) := by decide +kernel
theorem dX10_end_14 : decode cX10_end 14 = .ok (.invokestatic 129, 3) := by decide +kernel
theorem dX10_end_17 : decode cX10_end 17 = .ok (.ifCond .ne 10, 3) := by decide +kernel
theorem dX10_end_20 : decode cX10_end 20 = .ok (.aload_n 0, 1) := by decide +kernel
theorem dX10_end_21 : decode cX10_end 21 = .ok (.iconst 1, 1) := by decide +kernel
theorem dX10_end_22 : decode cX10_end 22 = .ok (.iconst (-1), 1) := by decide +kernel
theorem dX10_end_23 : decode cX10_end 23 = .ok (.invokevirtual 83, 3) := by decide +kernel
theorem dX10_end_26 : decode cX10_end 26 = .ok (.ireturn, 1) := by decide +kernel
theorem dX10_end_27 : decode cX10_end 27 = .ok (.aload_n 0, 1) := by decide +kernel
theorem dX10_end_28 : decode cX10_end 28 = .ok (.aload_n 3, 1) := by decide +kernel
theorem dX10_end_29 : decode cX10_end 29 = .ok (.getfield 118, 3) := by decide +kernel
theorem dX10_end_32 : decode cX10_end 32 = .ok (.iload_n 2, 1) := by decide +kernel
theorem dX10_end_33 : decode cX10_end 33 = .ok (.invokevirtual 133, 3) := by decide +kernel
theorem dX10_end_36 : decode cX10_end 36 = .ok (.invokevirtual 100, 3) := by decide +kernel
theorem dX10_end_39 : decode cX10_end 39 = .ok (.ireturn, 1) := by decide +kernel
theorem dX10_parts_0 : decode cX10_parts 0 = .ok (.aload_n 0, 1) := by decide +kernel
theorem dX10_parts_1 : decode cX10_parts 1 = .ok (.getfield 19, 3) := by decide +kernel
theorem dX10_parts_4 : decode cX10_parts 4 = .ok (.iload_n 1, 1) := by decide +kernel
theorem dX10_parts_5 : decode cX10_parts 5 = .ok (.invokevirtual 113, 3) := by decide +kernel
theorem dX10_parts_8 : decode cX10_parts 8 = .ok (.astore_n 2, 1) := by decide +kernel
theorem dX10_parts_9 : decode cX10_parts 9 = .ok (.aload_n 2, 1) := by decide +kernel
theorem dX10_parts_10 : decode cX10_parts 10 = .ok (.ifnonnull 10, 3) := by decide +kernel
theorem dX10_parts_13 : decode cX10_parts 13 = .ok (.aload_n 0, 1) := by decide +kernel
theorem dX10_parts_14 : decode cX10_parts 14 = .ok (.iconst 1, 1) := by decide +kernel
theorem dX10_parts_15 : decode cX10_parts 15 = .ok (.iconst (-1), 1) := by decide +kernel
theorem dX10_parts_16 : decode cX10_parts 16 = .ok (.invokevirtual 83, 3) := by decide +kernel
theorem dX10_parts_19 : decode cX10_parts 19 = .ok (.ireturn, 1) := by decide +kernel
theorem dX10_parts_20 : decode cX10_parts 20 = .ok (.aload_n 0, 1) := by decide +kernel
theorem dX10_parts_21 : decode cX10_parts 21 = .ok (.aload_n 2, 1) := by decide +kernel
theorem dX10_parts_22 : decode cX10_parts 22 = .ok (.getfield 118, 3) := by decide +kernel
theorem dX10_parts_25 : decode cX10_parts 25 = .ok (.invokevirtual 136, 3) := by decide +kernel
theorem dX10_parts_28 : decode cX10_parts 28 = .ok (.invokevirtual 100, 3) := by decide +kernel
theorem dX10_parts_31 : decode cX10_parts 31 = .ok (.ireturn, 1) := by decide +kernel
theorem dX10_part_0 : decode cX10_part 0 = .ok (.aload_n 0, 1) := by decide +kernel
theorem dX10_part_1 : decode cX10_part 1 = .ok (.getfield 19, 3) := by decide +kernel
theorem dX10_part_4 : decode cX10_part 4 = .ok (.iload_n 1, 1) := by decide +kernel
theorem dX10_part_5 : decode cX10_part 5 = .ok (.invokevirtual 113, 3) := by decide +kernel
theorem dX10_part_8 : decode cX10_part 8 = .ok (.astore_n 3, 1) := by decide +kernel
theorem dX10_part_9 : decode cX10_part 9 = .ok (.aload_n 3, 1) := by decide +kernel
theorem dX10_part_10 : decode cX10_part 10 = .ok (.ifnull 18, 3) := by decide +kernel
theorem dX10_part_13 : decode cX10_part 13 = .ok (.iload_n 2, 1) := by decide +kernel
theorem dX10_part_14 : decode cX10_part 14 = .ok (.ifCond .lt 14, 3) := by decide +kernel
theorem dX10_part_17 : decode cX10_part 17 = .ok (.iload_n 2, 1) := by decide +kernel
theorem dX10_part_18 : decode cX10_part 18 = .ok (.aload_n 3, 1) := by decide +kernel
theorem dX10_part_19 : decode cX10_part 19 = .ok (.getfield 118, 3) := by decide +kernel
theorem dX10_part_22 : decode cX10_part 22 = .ok (.invokevirtual 136, 3) := by decide +kernel
theorem dX10_part_25 : decode cX10_part 25 = .ok (.if_icmp .lt 10, 3) := by decide +kernel
theorem dX10_part_28 : decode cX10_part 28 = .ok (.aload_n 0, 1) := by decide +kernel
theorem dX10_part_29 : decode cX10_part 29 = .ok (.iconst 1, 1) := by decide +kernel
theorem dX10_part_30 : decode cX10_part 30 = .ok (.iconst (-1), 1) := by decide +kernel
theorem dX10_part_31 : decode cX10_part 31 = .ok (.invokevirtual 83, 3) := by decide +kernel
theorem dX10_part_34 : decode cX10_part 34 = .ok (.ireturn, 1) := by decide +kernel
theorem dX10_part_35 : decode cX10_part 35 = .ok (.aload_n 0, 1) := by decide +kernel
theorem dX10_part_36 : decode cX10_part 36 = .ok (.aload_n 3, 1) := by decide +kernel
theorem dX10_part_37 : decode cX10_part 37 = .ok (.getfield 118, 3) := by decide +kernel
theorem dX10_part_40 : decode cX10_part 40 = .ok (.iload_n 2, 1) := by decide +kernel
theorem dX10_part_41 : decode cX10_part 41 = .ok (.invokevirtual 140, 3) := by decide +kernel
theorem dX10_part_44 : decode cX10_part 44 = .ok (.invokevirtual 100, 3) := by decide +kernel
theorem dX10_part_47 : decode cX10_part 47 = .ok (.ireturn, 1) := by decide +kernel
theorem dX10_crossings_0 : decode cX10_crossings 0 = .ok (.aload_n 0, 1) := by decide +kernel
theorem dX10_crossings_1 : decode cX10_crossings 1 = .ok (.getfield 19, 3) := by decide +kernel
theorem dX10_crossings_4 : decode cX10_crossings 4 = .ok (.iload_n 1, 1) := by decide +kernel
theorem dX10_crossings_5 : decode cX10_crossings 5 = .ok (.invokevirtual 113, 3) := by decide +kernel
theorem dX10_crossings_8 : decode cX10_crossings 8 = .ok (.astore_n 2, 1) := by decide +kernel
theorem dX10_crossings_9 : decode cX10_crossings 9 = .ok (.aload_n 2, 1) := by decide +kernel
theorem dX10_crossings_10 : decode cX10_crossings 10 = .ok (.ifnonnull 10, 3) := by decide +kernel
theorem dX10_crossings_13 : decode cX10_crossings 13 = .ok (.aload_n 0, 1) := by decide +kernel
theorem dX10_crossings_14 : decode cX10_crossings 14 = .ok (.iconst 1, 1) := by decide +kernel
theorem dX10_crossings_15 : decode cX10_crossings 15 = .ok (.iconst (-1), 1) := by decide +kernel
theorem dX10_crossings_16 : decode cX10_crossings 16 = .ok (.invokevirtual 83, 3) := by decide +kernel
theorem dX10_crossings_19 : decode cX10_crossings 19 = .ok (.ireturn, 1) := by decide +kernel
theorem dX10_crossings_20 : decode cX10_crossings 20 = .ok (.aload_n 0, 1) := by decide +kernel
theorem dX10_crossings_21 : decode cX10_crossings 21 = .ok (.aload_n 2, 1) := by decide +kernel
theorem dX10_crossings_22 : decode cX10_crossings 22 = .ok (.getfield 118, 3) := by decide +kernel
theorem dX10_crossings_25 : decode cX10_crossings 25 = .ok (.invokevirtual 143, 3) := by decide +kernel
theorem dX10_crossings_28 : decode cX10_crossings 28 = .ok (.invokevirtual 100, 3) := by decide +kernel
theorem dX10_crossings_31 : decode cX10_crossings 31 = .ok (.ireturn, 1) := by decide +kernel
theorem dX10_figures_0 : decode cX10_figures 0 = .ok (.aload_n 0, 1) := by decide +kernel
theorem dX10_figures_1 : decode cX10_figures 1 = .ok (.getfield 19, 3) := by decide +kernel
theorem dX10_figures_4 : decode cX10_figures 4 = .ok (.iload_n 1, 1) := by decide +kernel
theorem dX10_figures_5 : decode cX10_figures 5 = .ok (.invokevirtual 113, 3) := by decide +kernel
theorem dX10_figures_8 : decode cX10_figures 8 = .ok (.astore_n 2, 1) := by decide +kernel
theorem dX10_figures_9 : decode cX10_figures 9 = .ok (.aload_n 2, 1) := by decide +kernel
theorem dX10_figures_10 : decode cX10_figures 10 = .ok (.ifnonnull 10, 3) := by decide +kernel
theorem dX10_figures_13 : decode cX10_figures 13 = .ok (.aload_n 0, 1) := by decide +kernel
theorem dX10_figures_14 : decode cX10_figures 14 = .ok (.iconst 1, 1) := by decide +kernel
theorem dX10_figures_15 : decode cX10_figures 15 = .ok (.iconst (-1), 1) := by decide +kernel
theorem dX10_figures_16 : decode cX10_figures 16 = .ok (.invokevirtual 83, 3) := by decide +kernel
theorem dX10_figures_19 : decode cX10_figures 19 = .ok (.ireturn, 1) := by decide +kernel
theorem dX10_figures_20 : decode cX10_figures 20 = .ok (.aload_n 0, 1) := by decide +kernel
theorem dX10_figures_21 : decode cX10_figures 21 = .ok (.aload_n 2, 1) := by decide +kernel
theorem dX10_figures_22 : decode cX10_figures 22 = .ok (.getfield 146, 3) := by decide +kernel
theorem dX10_figures_25 : decode cX10_figures 25 = .ok (.invokevirtual 100, 3) := by decide +kernel
theorem dX10_figures_28 : decode cX10_figures 28 = .ok (.ireturn, 1) := by decide +kernel
theorem dX10_figure_0 : decode cX10_figure 0 = .ok (.aload_n 0, 1) := by decide +kernel
theorem dX10_figure_1 : decode cX10_figure 1 = .ok (.getfield 19, 3) := by decide +kernel
theorem dX10_figure_4 : decode cX10_figure 4 = .ok (.iload_n 1, 1) := by decide +kernel
theorem dX10_figure_5 : decode cX10_figure 5 = .ok (.invokevirtual 113, 3) := by decide +kernel
theorem dX10_figure_8 : decode cX10_figure 8 = .ok (.astore_n 3, 1) := by decide +kernel
theorem dX10_figure_9 : decode cX10_figure 9 = .ok (.aload_n 3, 1) := by decide +kernel
theorem dX10_figure_10 : decode cX10_figure 10 = .ok (.ifnull 15, 3) := by decide +kernel
theorem dX10_figure_13 : decode cX10_figure 13 = .ok (.iload_n 2, 1) := by decide +kernel
theorem dX10_figure_14 : decode cX10_figure 14 = .ok (.ifCond .lt 11, 3) := by decide +kernel
theorem dX10_figure_17 : decode cX10_figure 17 = .ok (.iload_n 2, 1) := by decide +kernel
theorem dX10_figure_18 : decode cX10_figure 18 = .ok (.aload_n 3, 1) := by decide +kernel
theorem dX10_figure_19 : decode cX10_figure 19 = .ok (.getfield 146, 3) := by decide +kernel
theorem dX10_figure_22 : decode cX10_figure 22 = .ok (.if_icmp .lt 10, 3) := by decide +kernel
theorem dX10_figure_25 : decode cX10_figure 25 = .ok (.aload_n 0, 1) := by decide +kernel
theorem dX10_figure_26 : decode cX10_figure 26 = .ok (.iconst 1, 1) := by decide +kernel
theorem dX10_figure_27 : decode cX10_figure 27 = .ok (.iconst (-1), 1) := by decide +kernel
theorem dX10_figure_28 : decode cX10_figure 28 = .ok (.invokevirtual 83, 3) := by decide +kernel
theorem dX10_figure_31 : decode cX10_figure 31 = .ok (.ireturn, 1) := by decide +kernel
theorem dX10_figure_32 : decode cX10_figure 32 = .ok (.aload_n 0, 1) := by decide +kernel
theorem dX10_figure_33 : decode cX10_figure 33 = .ok (.aload_n 3, 1) := by decide +kernel
theorem dX10_figure_34 : decode cX10_figure 34 = .ok (.iload_n 2, 1) := by decide +kernel
theorem dX10_figure_35 : decode cX10_figure 35 = .ok (.invokevirtual 149, 3) := by decide +kernel
theorem dX10_figure_38 : decode cX10_figure 38 = .ok (.invokevirtual 100, 3) := by decide +kernel
theorem dX10_figure_41 : decode cX10_figure 41 = .ok (.ireturn, 1) := by decide +kernel
theorem dX10_upperAfter_0 : decode cX10_upperAfter 0 = .ok (.aload_n 0, 1) := by decide +kernel
theorem dX10_upperAfter_1 : decode cX10_upperAfter 1 = .ok (.iload_n 1, 1) := by decide +kernel
theorem dX10_upperAfter_2 : decode cX10_upperAfter 2 = .ok (.iload_n 2, 1) := by decide +kernel
theorem dX10_upperAfter_3 : decode cX10_upperAfter 3 = .ok (.invokevirtual 152, 3) := by decide +kernel
theorem dX10_upperAfter_6 : decode cX10_upperAfter 6 = .ok (.istore_n 3, 1) := by decide +kernel
theorem dX10_upperAfter_7 : decode cX10_upperAfter 7 = .ok (.iload_n 3, 1) := by decide +kernel
theorem dX10_upperAfter_8 : decode cX10_upperAfter 8 = .ok (.ifCond .ne 17, 3) := by decide +kernel
theorem dX10_upperAfter_11 : decode cX10_upperAfter 11 = .ok (.aload_n 0, 1) := by decide +kernel
theorem dX10_upperAfter_12 : decode cX10_upperAfter 12 = .ok (.aload_n 0, 1) := by decide +kernel
theorem dX10_upperAfter_13 : decode cX10_upperAfter 13 = .ok (.getfield 36, 3) := by decide +kernel
theorem dX10_upperAfter_16 : decode cX10_upperAfter 16 = .ok (.getfield 123, 3) := by decide +kernel
theorem dX10_upperAfter_19 : decode cX10_upperAfter 19 = .ok (.invokevirtual 100, 3) := by decide +kernel
theorem dX10_upperAfter_22 : decode cX10_upperAfter 22 = .ok (.goto 10, 3) := by decide +kernel
theorem dX10_upperAfter_25 : decode cX10_upperAfter 25 = .ok (.aload_n 0, 1) := by decide +kernel
theorem dX10_upperAfter_26 : decode cX10_upperAfter 26 = .ok (.iload_n 3, 1) := by decide +kernel
theorem dX10_upperAfter_27 : decode cX10_upperAfter 27 = .ok (.ldc 117, 2) := by decide +kernel
theorem dX10_upperAfter_29 : decode cX10_upperAfter 29 = .ok (.invokevirtual 83, 3) := by decide +kernel
theorem dX10_upperAfter_32 : decode cX10_upperAfter 32 = .ok (.ireturn, 1) := by decide +kernel
theorem dX10_lowerAfter_0 : decode cX10_lowerAfter 0 = .ok (.aload_n 0, 1) := by decide +kernel
theorem dX10_lowerAfter_1 : decode cX10_lowerAfter 1 = .ok (.iload_n 1, 1) := by decide +kernel
theorem dX10_lowerAfter_2 : decode cX10_lowerAfter 2 = .ok (.iload_n 2, 1) := by decide +kernel
theorem dX10_lowerAfter_3 : decode cX10_lowerAfter 3 = .ok (.invokevirtual 152, 3) := by decide +kernel
theorem dX10_lowerAfter_6 : decode cX10_lowerAfter 6 = .ok (.istore_n 3, 1) := by decide +kernel
theorem dX10_lowerAfter_7 : decode cX10_lowerAfter 7 = .ok (.iload_n 3, 1) := by decide +kernel
theorem dX10_lowerAfter_8 : decode cX10_lowerAfter 8 = .ok (.ifCond .ne 17, 3) := by decide +kernel
theorem dX10_lowerAfter_11 : decode cX10_lowerAfter 11 = .ok (.aload_n 0, 1) := by decide +kernel
theorem dX10_lowerAfter_12 : decode cX10_lowerAfter 12 = .ok (.aload_n 0, 1) := by decide +kernel
theorem dX10_lowerAfter_13 : decode cX10_lowerAfter 13 = .ok (.getfield 36, 3) := by decide +kernel
theorem dX10_lowerAfter_16 : decode cX10_lowerAfter 16 = .ok (.getfield 126, 3) := by decide +kernel
theorem dX10_lowerAfter_19 : decode cX10_lowerAfter 19 = .ok (.invokevirtual 100, 3) := by decide +kernel
theorem dX10_lowerAfter_22 : decode cX10_lowerAfter 22 = .ok (.goto 9, 3) := by decide +kernel
theorem dX10_lowerAfter_25 : decode cX10_lowerAfter 25 = .ok (.aload_n 0, 1) := by decide +kernel
theorem dX10_lowerAfter_26 : decode cX10_lowerAfter 26 = .ok (.iload_n 3, 1) := by decide +kernel
theorem dX10_lowerAfter_27 : decode cX10_lowerAfter 27 = .ok (.iconst (-1), 1) := by decide +kernel
theorem dX10_lowerAfter_28 : decode cX10_lowerAfter 28 = .ok (.invokevirtual 83, 3) := by decide +kernel
theorem dX10_lowerAfter_31 : decode cX10_lowerAfter 31 = .ok (.ireturn, 1) := by decide +kernel
theorem dX10_mostAt_0 : decode cX10_mostAt 0 = .ok (.aload_n 0, 1) := by decide +kernel
theorem dX10_mostAt_1 : decode cX10_mostAt 1 = .ok (.getfield 19, 3) := by decide +kernel
theorem dX10_mostAt_4 : decode cX10_mostAt 4 = .ok (.iload_n 1, 1) := by decide +kernel
theorem dX10_mostAt_5 : decode cX10_mostAt 5 = .ok (.invokevirtual 113, 3) := by decide +kernel
theorem dX10_mostAt_8 : decode cX10_mostAt 8 = .ok (.astore_n 2, 1) := by decide +kernel
theorem dX10_mostAt_9 : decode cX10_mostAt 9 = .ok (.aload_n 2, 1) := by decide +kernel
theorem dX10_mostAt_10 : decode cX10_mostAt 10 = .ok (.ifnonnull 10, 3) := by decide +kernel
theorem dX10_mostAt_13 : decode cX10_mostAt 13 = .ok (.aload_n 0, 1) := by decide +kernel
theorem dX10_mostAt_14 : decode cX10_mostAt 14 = .ok (.iconst 1, 1) := by decide +kernel
theorem dX10_mostAt_15 : decode cX10_mostAt 15 = .ok (.iconst (-1), 1) := by decide +kernel
theorem dX10_mostAt_16 : decode cX10_mostAt 16 = .ok (.invokevirtual 83, 3) := by decide +kernel
theorem dX10_mostAt_19 : decode cX10_mostAt 19 = .ok (.ireturn, 1) := by decide +kernel
theorem dX10_mostAt_20 : decode cX10_mostAt 20 = .ok (.iconst 0, 1) := by decide +kernel
theorem dX10_mostAt_21 : decode cX10_mostAt 21 = .ok (.istore_n 3, 1) := by decide +kernel
theorem dX10_mostAt_22 : decode cX10_mostAt 22 = .ok (.iconst (-1), 1) := by decide +kernel
theorem dX10_mostAt_23 : decode cX10_mostAt 23 = .ok (.istore 4, 2) := by decide +kernel
theorem dX10_mostAt_25 : decode cX10_mostAt 25 = .ok (.iconst 0, 1) := by decide +kernel
theorem dX10_mostAt_26 : decode cX10_mostAt 26 = .ok (.istore 5, 2) := by decide +kernel
theorem dX10_mostAt_28 : decode cX10_mostAt 28 = .ok (.iload 5, 2) := by decide +kernel
theorem dX10_mostAt_30 : decode cX10_mostAt 30 = .ok (.aload_n 2, 1) := by decide +kernel
theorem dX10_mostAt_31 : decode cX10_mostAt 31 = .ok (.getfield 146, 3) := by decide +kernel
theorem dX10_mostAt_34 : decode cX10_mostAt 34 = .ok (.if_icmp .gt 43, 3) := by decide +kernel
theorem dX10_mostAt_37 : decode cX10_mostAt 37 = .ok (.aload_n 2, 1) := by decide +kernel
theorem dX10_mostAt_38 : decode cX10_mostAt 38 = .ok (.iload 5, 2) := by decide +kernel
theorem dX10_mostAt_40 : decode cX10_mostAt 40 = .ok (.iconst 0, 1) := by decide +kernel
theorem dX10_mostAt_41 : decode cX10_mostAt 41 = .ok (.aload_n 0, 1) := by decide +kernel
theorem dX10_mostAt_42 : decode cX10_mostAt 42 = .ok (.getfield 36, 3) := by decide +kernel
theorem dX10_mostAt_45 : decode cX10_mostAt 45 = .ok (.invokevirtual 155, 3) := by decide +kernel
theorem dX10_mostAt_48 : decode cX10_mostAt 48 = .ok (.aload_n 0, 1) := by decide +kernel
theorem dX10_mostAt_49 : decode cX10_mostAt 49 = .ok (.getfield 36, 3) := by decide +kernel
theorem dX10_mostAt_52 : decode cX10_mostAt 52 = .ok (.invokevirtual 143, 3) := by decide +kernel
theorem dX10_mostAt_55 : decode cX10_mostAt 55 = .ok (.istore 6, 2) := by decide +kernel
theorem dX10_mostAt_57 : decode cX10_mostAt 57 = .ok (.iload 6, 2) := by decide +kernel
theorem dX10_mostAt_59 : decode cX10_mostAt 59 = .ok (.iload 4, 2) := by decide +kernel
theorem dX10_mostAt_61 : decode cX10_mostAt 61 = .ok (.if_icmp .le 10, 3) := by decide +kernel
theorem dX10_mostAt_64 : decode cX10_mostAt 64 = .ok (.iload 6, 2) := by decide +kernel
theorem dX10_mostAt_66 : decode cX10_mostAt 66 = .ok (.istore 4, 2) := by decide +kernel
theorem dX10_mostAt_68 : decode cX10_mostAt 68 = .ok (.iload 5, 2) := by decide +kernel
theorem dX10_mostAt_70 : decode cX10_mostAt 70 = .ok (.istore_n 3, 1) := by decide +kernel
theorem dX10_mostAt_71 : decode cX10_mostAt 71 = .ok (.iinc 5 1, 3) := by decide +kernel
theorem dX10_mostAt_74 : decode cX10_mostAt 74 = .ok (.goto (-46), 3) := by decide +kernel
theorem dX10_mostAt_77 : decode cX10_mostAt 77 = .ok (.aload_n 0, 1) := by decide +kernel
theorem dX10_mostAt_78 : decode cX10_mostAt 78 = .ok (.iload_n 3, 1) := by decide +kernel
theorem dX10_mostAt_79 : decode cX10_mostAt 79 = .ok (.invokevirtual 100, 3) := by decide +kernel
theorem dX10_mostAt_82 : decode cX10_mostAt 82 = .ok (.ireturn, 1) := by decide +kernel
theorem dX10_goesFirst_0 : decode cX10_goesFirst 0 = .ok (.aload_n 0, 1) := by decide +kernel
theorem dX10_goesFirst_1 : decode cX10_goesFirst 1 = .ok (.getfield 19, 3) := by decide +kernel
theorem dX10_goesFirst_4 : decode cX10_goesFirst 4 = .ok (.iload_n 1, 1) := by decide +kernel
theorem dX10_goesFirst_5 : decode cX10_goesFirst 5 = .ok (.invokevirtual 113, 3) := by decide +kernel
theorem dX10_goesFirst_8 : decode cX10_goesFirst 8 = .ok (.astore 4, 2) := by decide +kernel
theorem dX10_goesFirst_10 : decode cX10_goesFirst 10 = .ok (.aload 4, 2) := by decide +kernel
theorem dX10_goesFirst_12 : decode cX10_goesFirst 12 = .ok (.ifnull 11, 3) := by decide +kernel
theorem dX10_goesFirst_15 : decode cX10_goesFirst 15 = .ok (.iload_n 2, 1) := by decide +kernel
theorem dX10_goesFirst_16 : decode cX10_goesFirst 16 = .ok (.iload_n 3, 1) := by decide +kernel
theorem dX10_goesFirst_17 : decode cX10_goesFirst 17 = .ok (.invokestatic 159, 3) := by decide +kernel
theorem dX10_goesFirst_20 : decode cX10_goesFirst 20 = .ok (.ifCond .ne 10, 3) := by decide +kernel
theorem dX10_goesFirst_23 : decode cX10_goesFirst 23 = .ok (.aload_n 0, 1) := by decide +kernel
theorem dX10_goesFirst_24 : decode cX10_goesFirst 24 = .ok (.iconst 1, 1) := by decide +kernel
theorem dX10_goesFirst_25 : decode cX10_goesFirst 25 = .ok (.iconst (-1), 1) := by decide +kernel
theorem dX10_goesFirst_26 : decode cX10_goesFirst 26 = .ok (.invokevirtual 83, 3) := by decide +kernel
theorem dX10_goesFirst_29 : decode cX10_goesFirst 29 = .ok (.ireturn, 1) := by decide +kernel
theorem dX10_goesFirst_30 : decode cX10_goesFirst 30 = .ok (.iconst 0, 1) := by decide +kernel
theorem dX10_goesFirst_31 : decode cX10_goesFirst 31 = .ok (.istore 5, 2) := by decide +kernel
theorem dX10_goesFirst_33 : decode cX10_goesFirst 33 = .ok (.iload 5, 2) := by decide +kernel
theorem dX10_goesFirst_35 : decode cX10_goesFirst 35 = .ok (.aload 4, 2) := by decide +kernel
theorem dX10_goesFirst_37 : decode cX10_goesFirst 37 = .ok (.getfield 146, 3) := by decide +kernel
theorem dX10_goesFirst_40 : decode cX10_goesFirst 40 = .ok (.if_icmp .gt 40, 3) := by decide +kernel
theorem dX10_goesFirst_43 : decode cX10_goesFirst 43 = .ok (.aload 4, 2) := by decide +kernel
theorem dX10_goesFirst_45 : decode cX10_goesFirst 45 = .ok (.iload 5, 2) := by decide +kernel
theorem dX10_goesFirst_47 : decode cX10_goesFirst 47 = .ok (.iconst 0, 1) := by decide +kernel
theorem dX10_goesFirst_48 : decode cX10_goesFirst 48 = .ok (.aload_n 0, 1) := by decide +kernel
theorem dX10_goesFirst_49 : decode cX10_goesFirst 49 = .ok (.getfield 36, 3) := by decide +kernel
theorem dX10_goesFirst_52 : decode cX10_goesFirst 52 = .ok (.invokevirtual 155, 3) := by decide +kernel
theorem dX10_goesFirst_55 : decode cX10_goesFirst 55 = .ok (.aload_n 0, 1) := by decide +kernel
theorem dX10_goesFirst_56 : decode cX10_goesFirst 56 = .ok (.getfield 36, 3) := by decide +kernel
theorem dX10_goesFirst_59 : decode cX10_goesFirst 59 = .ok (.iload_n 2, 1) := by decide +kernel
theorem dX10_goesFirst_60 : decode cX10_goesFirst 60 = .ok (.invokevirtual 133, 3) := by decide +kernel
theorem dX10_goesFirst_63 : decode cX10_goesFirst 63 = .ok (.iload_n 3, 1) := by decide +kernel
theorem dX10_goesFirst_64 : decode cX10_goesFirst 64 = .ok (.if_icmp .ne 10, 3) := by decide +kernel
theorem dX10_goesFirst_67 : decode cX10_goesFirst 67 = .ok (.aload_n 0, 1) := by decide +kernel
theorem dX10_goesFirst_68 : decode cX10_goesFirst 68 = .ok (.iload 5, 2) := by decide +kernel
theorem dX10_goesFirst_70 : decode cX10_goesFirst 70 = .ok (.invokevirtual 100, 3) := by decide +kernel
theorem dX10_goesFirst_73 : decode cX10_goesFirst 73 = .ok (.ireturn, 1) := by decide +kernel
theorem dX10_goesFirst_74 : decode cX10_goesFirst 74 = .ok (.iinc 5 1, 3) := by decide +kernel
theorem dX10_goesFirst_77 : decode cX10_goesFirst 77 = .ok (.goto (-44), 3) := by decide +kernel
theorem dX10_goesFirst_80 : decode cX10_goesFirst 80 = .ok (.aload_n 0, 1) := by decide +kernel
theorem dX10_goesFirst_81 : decode cX10_goesFirst 81 = .ok (.bipush (-2), 2) := by decide +kernel
theorem dX10_goesFirst_83 : decode cX10_goesFirst 83 = .ok (.invokevirtual 100, 3) := by decide +kernel
theorem dX10_goesFirst_86 : decode cX10_goesFirst 86 = .ok (.ireturn, 1) := by decide +kernel
theorem dX10_again_0 : decode cX10_again 0 = .ok (.aload_n 0, 1) := by decide +kernel
theorem dX10_again_1 : decode cX10_again 1 = .ok (.getfield 19, 3) := by decide +kernel
theorem dX10_again_4 : decode cX10_again 4 = .ok (.iload_n 1, 1) := by decide +kernel
theorem dX10_again_5 : decode cX10_again 5 = .ok (.invokevirtual 113, 3) := by decide +kernel
theorem dX10_again_8 : decode cX10_again 8 = .ok (.astore_n 2, 1) := by decide +kernel
theorem dX10_again_9 : decode cX10_again 9 = .ok (.aload_n 2, 1) := by decide +kernel
theorem dX10_again_10 : decode cX10_again 10 = .ok (.ifnonnull 10, 3) := by decide +kernel
theorem dX10_again_13 : decode cX10_again 13 = .ok (.aload_n 0, 1) := by decide +kernel
theorem dX10_again_14 : decode cX10_again 14 = .ok (.iconst 1, 1) := by decide +kernel
theorem dX10_again_15 : decode cX10_again 15 = .ok (.iconst (-1), 1) := by decide +kernel
theorem dX10_again_16 : decode cX10_again 16 = .ok (.invokevirtual 83, 3) := by decide +kernel
theorem dX10_again_19 : decode cX10_again 19 = .ok (.ireturn, 1) := by decide +kernel
theorem dX10_again_20 : decode cX10_again 20 = .ok (.aload_n 0, 1) := by decide +kernel
theorem dX10_again_21 : decode cX10_again 21 = .ok (.getfield 36, 3) := by decide +kernel
theorem dX10_again_24 : decode cX10_again 24 = .ok (.iconst 0, 1) := by decide +kernel
theorem dX10_again_25 : decode cX10_again 25 = .ok (.iconst 1, 1) := by decide +kernel
theorem dX10_again_26 : decode cX10_again 26 = .ok (.invokevirtual 163, 3) := by decide +kernel
theorem dX10_again_29 : decode cX10_again 29 = .ok (.iconst 1, 1) := by decide +kernel
theorem dX10_again_30 : decode cX10_again 30 = .ok (.istore_n 3, 1) := by decide +kernel
theorem dX10_again_31 : decode cX10_again 31 = .ok (.iload_n 3, 1) := by decide +kernel
theorem dX10_again_32 : decode cX10_again 32 = .ok (.bipush 60, 2) := by decide +kernel
theorem dX10_again_34 : decode cX10_again 34 = .ok (.if_icmp .gt 43, 3) := by decide +kernel
theorem dX10_again_37 : decode cX10_again 37 = .ok (.aload_n 2, 1) := by decide +kernel
theorem dX10_again_38 : decode cX10_again 38 = .ok (.aload_n 0, 1) := by decide +kernel
theorem dX10_again_39 : decode cX10_again 39 = .ok (.getfield 36, 3) := by decide +kernel
theorem dX10_again_42 : decode cX10_again 42 = .ok (.invokevirtual 167, 3) := by decide +kernel
theorem dX10_again_45 : decode cX10_again 45 = .ok (.ifCond .ne 10, 3) := by decide +kernel
theorem dX10_again_48 : decode cX10_again 48 = .ok (.aload_n 0, 1) := by decide +kernel
theorem dX10_again_49 : decode cX10_again 49 = .ok (.bipush (-2), 2) := by decide +kernel
theorem dX10_again_51 : decode cX10_again 51 = .ok (.invokevirtual 100, 3) := by decide +kernel
theorem dX10_again_54 : decode cX10_again 54 = .ok (.ireturn, 1) := by decide +kernel
theorem dX10_again_55 : decode cX10_again 55 = .ok (.aload_n 0, 1) := by decide +kernel
theorem dX10_again_56 : decode cX10_again 56 = .ok (.getfield 36, 3) := by decide +kernel
theorem dX10_again_59 : decode cX10_again 59 = .ok (.invokevirtual 171, 3) := by decide +kernel
theorem dX10_again_62 : decode cX10_again 62 = .ok (.ifCond .eq 9, 3) := by decide +kernel
theorem dX10_again_65 : decode cX10_again 65 = .ok (.aload_n 0, 1) := by decide +kernel
theorem dX10_again_66 : decode cX10_again 66 = .ok (.iload_n 3, 1) := by decide +kernel
theorem dX10_again_67 : decode cX10_again 67 = .ok (.invokevirtual 100, 3) := by decide +kernel
theorem dX10_again_70 : decode cX10_again 70 = .ok (.ireturn, 1) := by decide +kernel
theorem dX10_again_71 : decode cX10_again 71 = .ok (.iinc 3 1, 3) := by decide +kernel
theorem dX10_again_74 : decode cX10_again 74 = .ok (.goto (-43), 3) := by decide +kernel
theorem dX10_again_77 : decode cX10_again 77 = .ok (.aload_n 0, 1) := by decide +kernel
theorem dX10_again_78 : decode cX10_again 78 = .ok (.bipush (-2), 2) := by decide +kernel
theorem dX10_again_80 : decode cX10_again 80 = .ok (.invokevirtual 100, 3) := by decide +kernel
theorem dX10_again_83 : decode cX10_again 83 = .ok (.ireturn, 1) := by decide +kernel
theorem dX10_trace_0 : decode cX10_trace 0 = .ok (.aload_n 0, 1) := by decide +kernel
theorem dX10_trace_1 : decode cX10_trace 1 = .ok (.getfield 19, 3) := by decide +kernel
theorem dX10_trace_4 : decode cX10_trace 4 = .ok (.iload_n 1, 1) := by decide +kernel
theorem dX10_trace_5 : decode cX10_trace 5 = .ok (.invokevirtual 113, 3) := by decide +kernel
theorem dX10_trace_8 : decode cX10_trace 8 = .ok (.astore_n 2, 1) := by decide +kernel
theorem dX10_trace_9 : decode cX10_trace 9 = .ok (.aload_n 2, 1) := by decide +kernel
theorem dX10_trace_10 : decode cX10_trace 10 = .ok (.ifnonnull 10, 3) := by decide +kernel
theorem dX10_trace_13 : decode cX10_trace 13 = .ok (.aload_n 0, 1) := by decide +kernel
theorem dX10_trace_14 : decode cX10_trace 14 = .ok (.iconst 1, 1) := by decide +kernel
theorem dX10_trace_15 : decode cX10_trace 15 = .ok (.iconst (-1), 1) := by decide +kernel
theorem dX10_trace_16 : decode cX10_trace 16 = .ok (.invokevirtual 83, 3) := by decide +kernel
theorem dX10_trace_19 : decode cX10_trace 19 = .ok (.ireturn, 1) := by decide +kernel
theorem dX10_trace_20 : decode cX10_trace 20 = .ok (.aload_n 0, 1) := by decide +kernel
theorem dX10_trace_21 : decode cX10_trace 21 = .ok (.getfield 43, 3) := by decide +kernel
theorem dX10_trace_24 : decode cX10_trace 24 = .ok (.aload_n 2, 1) := by decide +kernel
theorem dX10_trace_25 : decode cX10_trace 25 = .ok (.invokevirtual 174, 3) := by decide +kernel
theorem dX10_trace_28 : decode cX10_trace 28 = .ok (.aload_n 0, 1) := by decide +kernel
theorem dX10_trace_29 : decode cX10_trace 29 = .ok (.aload_n 0, 1) := by decide +kernel
theorem dX10_trace_30 : decode cX10_trace 30 = .ok (.getfield 43, 3) := by decide +kernel
theorem dX10_trace_33 : decode cX10_trace 33 = .ok (.getfield 178, 3) := by decide +kernel
theorem dX10_trace_36 : decode cX10_trace 36 = .ok (.aload_n 0, 1) := by decide +kernel
theorem dX10_trace_37 : decode cX10_trace 37 = .ok (.getfield 43, 3) := by decide +kernel
theorem dX10_trace_40 : decode cX10_trace 40 = .ok (.getfield 181, 3) := by decide +kernel
theorem dX10_trace_43 : decode cX10_trace 43 = .ok (.iadd, 1) := by decide +kernel
theorem dX10_trace_44 : decode cX10_trace 44 = .ok (.invokestatic 184, 3) := by decide +kernel
theorem dX10_trace_47 : decode cX10_trace 47 = .ok (.invokevirtual 100, 3) := by decide +kernel
theorem dX10_trace_50 : decode cX10_trace 50 = .ok (.ireturn, 1) := by decide +kernel
theorem dX10_sameDance_0 : decode cX10_sameDance 0 = .ok (.aload_n 0, 1) := by decide +kernel
theorem dX10_sameDance_1 : decode cX10_sameDance 1 = .ok (.getfield 19, 3) := by decide +kernel
theorem dX10_sameDance_4 : decode cX10_sameDance 4 = .ok (.iload_n 1, 1) := by decide +kernel
theorem dX10_sameDance_5 : decode cX10_sameDance 5 = .ok (.invokevirtual 113, 3) := by decide +kernel
theorem dX10_sameDance_8 : decode cX10_sameDance 8 = .ok (.astore_n 3, 1) := by decide +kernel
theorem dX10_sameDance_9 : decode cX10_sameDance 9 = .ok (.aload_n 0, 1) := by decide +kernel
theorem dX10_sameDance_10 : decode cX10_sameDance 10 = .ok (.getfield 19, 3) := by decide +kernel
theorem dX10_sameDance_13 : decode cX10_sameDance 13 = .ok (.iload_n 2, 1) := by decide +kernel
theorem dX10_sameDance_14 : decode cX10_sameDance 14 = .ok (.invokevirtual 113, 3) := by decide +kernel
theorem dX10_sameDance_17 : decode cX10_sameDance 17 = .ok (.astore 4, 2) := by decide +kernel
theorem dX10_sameDance_19 : decode cX10_sameDance 19 = .ok (.aload_n 3, 1) := by decide +kernel
theorem dX10_sameDance_20 : decode cX10_sameDance 20 = .ok (.ifnull 8, 3) := by decide +kernel
theorem dX10_sameDance_23 : decode cX10_sameDance 23 = .ok (.aload 4, 2) := by decide +kernel
theorem dX10_sameDance_25 : decode cX10_sameDance 25 = .ok (.ifnonnull 10, 3) := by decide +kernel
theorem dX10_sameDance_28 : decode cX10_sameDance 28 = .ok (.aload_n 0, 1) := by decide +kernel
theorem dX10_sameDance_29 : decode cX10_sameDance 29 = .ok (.iconst 1, 1) := by decide +kernel
theorem dX10_sameDance_30 : decode cX10_sameDance 30 = .ok (.iconst (-1), 1) := by decide +kernel
theorem dX10_sameDance_31 : decode cX10_sameDance 31 = .ok (.invokevirtual 83, 3) := by decide +kernel
theorem dX10_sameDance_34 : decode cX10_sameDance 34 = .ok (.ireturn, 1) := by decide +kernel
theorem dX10_sameDance_35 : decode cX10_sameDance 35 = .ok (.aload_n 0, 1) := by decide +kernel
theorem dX10_sameDance_36 : decode cX10_sameDance 36 = .ok (.getfield 43, 3) := by decide +kernel
theorem dX10_sameDance_39 : decode cX10_sameDance 39 = .ok (.aload_n 3, 1) := by decide +kernel
theorem dX10_sameDance_40 : decode cX10_sameDance 40 = .ok (.invokevirtual 174, 3) := by decide +kernel
theorem dX10_sameDance_43 : decode cX10_sameDance 43 = .ok (.aload_n 0, 1) := by decide +kernel
theorem dX10_sameDance_44 : decode cX10_sameDance 44 = .ok (.getfield 47, 3) := by decide +kernel
theorem dX10_sameDance_47 : decode cX10_sameDance 47 = .ok (.aload 4, 2) := by decide +kernel
theorem dX10_sameDance_49 : decode cX10_sameDance 49 = .ok (.invokevirtual 174, 3) := by decide +kernel
theorem dX10_sameDance_52 : decode cX10_sameDance 52 = .ok (.aload_n 0, 1) := by decide +kernel
theorem dX10_sameDance_53 : decode cX10_sameDance 53 = .ok (.aload_n 0, 1) := by decide +kernel
theorem dX10_sameDance_54 : decode cX10_sameDance 54 = .ok (.getfield 43, 3) := by decide +kernel
theorem dX10_sameDance_57 : decode cX10_sameDance 57 = .ok (.aload_n 0, 1) := by decide +kernel
theorem dX10_sameDance_58 : decode cX10_sameDance 58 = .ok (.getfield 47, 3) := by decide +kernel
theorem dX10_sameDance_61 : decode cX10_sameDance 61 = .ok (.invokevirtual 189, 3) := by decide +kernel
theorem dX10_sameDance_64 : decode cX10_sameDance 64 = .ok (.ifCond .eq 7, 3) := by decide +kernel
theorem dX10_sameDance_67 : decode cX10_sameDance 67 = .ok (.iconst 1, 1) := by decide +kernel
theorem dX10_sameDance_68 : decode cX10_sameDance 68 = .ok (.goto 4, 3) := by decide +kernel
theorem dX10_sameDance_71 : decode cX10_sameDance 71 = .ok (.iconst 0, 1) := by decide +kernel
theorem dX10_sameDance_72 : decode cX10_sameDance 72 = .ok (.invokevirtual 100, 3) := by decide +kernel
theorem dX10_sameDance_75 : decode cX10_sameDance 75 = .ok (.ireturn, 1) := by decide +kernel
theorem dX10_untie_0 : decode cX10_untie 0 = .ok (.aload_n 0, 1) := by decide +kernel
theorem dX10_untie_1 : decode cX10_untie 1 = .ok (.getfield 19, 3) := by decide +kernel
theorem dX10_untie_4 : decode cX10_untie 4 = .ok (.iload_n 1, 1) := by decide +kernel
theorem dX10_untie_5 : decode cX10_untie 5 = .ok (.invokevirtual 113, 3) := by decide +kernel
theorem dX10_untie_8 : decode cX10_untie 8 = .ok (.astore_n 2, 1) := by decide +kernel
theorem dX10_untie_9 : decode cX10_untie 9 = .ok (.aload_n 2, 1) := by decide +kernel
theorem dX10_untie_10 : decode cX10_untie 10 = .ok (.ifnonnull 10, 3) := by decide +kernel
theorem dX10_untie_13 : decode cX10_untie 13 = .ok (.aload_n 0, 1) := by decide +kernel
theorem dX10_untie_14 : decode cX10_untie 14 = .ok (.iconst 1, 1) := by decide +kernel
theorem dX10_untie_15 : decode cX10_untie 15 = .ok (.iconst (-1), 1) := by decide +kernel
theorem dX10_untie_16 : decode cX10_untie 16 = .ok (.invokevirtual 83, 3) := by decide +kernel
theorem dX10_untie_19 : decode cX10_untie 19 = .ok (.ireturn, 1) := by decide +kernel
theorem dX10_untie_20 : decode cX10_untie 20 = .ok (.aload_n 0, 1) := by decide +kernel
theorem dX10_untie_21 : decode cX10_untie 21 = .ok (.aload_n 0, 1) := by decide +kernel
theorem dX10_untie_22 : decode cX10_untie 22 = .ok (.aload_n 2, 1) := by decide +kernel
theorem dX10_untie_23 : decode cX10_untie 23 = .ok (.ldc 193, 2) := by decide +kernel
theorem dX10_untie_25 : decode cX10_untie 25 = .ok (.invokevirtual 194, 3) := by decide +kernel
theorem dX10_untie_28 : decode cX10_untie 28 = .ok (.invokevirtual 100, 3) := by decide +kernel
theorem dX10_untie_31 : decode cX10_untie 31 = .ok (.ireturn, 1) := by decide +kernel
theorem dX10_turnsOf_0 : decode cX10_turnsOf 0 = .ok (.aload_n 0, 1) := by decide +kernel
theorem dX10_turnsOf_1 : decode cX10_turnsOf 1 = .ok (.getfield 19, 3) := by decide +kernel
theorem dX10_turnsOf_4 : decode cX10_turnsOf 4 = .ok (.iload_n 1, 1) := by decide +kernel
theorem dX10_turnsOf_5 : decode cX10_turnsOf 5 = .ok (.invokevirtual 113, 3) := by decide +kernel
theorem dX10_turnsOf_8 : decode cX10_turnsOf 8 = .ok (.astore_n 2, 1) := by decide +kernel
theorem dX10_turnsOf_9 : decode cX10_turnsOf 9 = .ok (.aload_n 2, 1) := by decide +kernel
theorem dX10_turnsOf_10 : decode cX10_turnsOf 10 = .ok (.ifnonnull 10, 3) := by decide +kernel
theorem dX10_turnsOf_13 : decode cX10_turnsOf 13 = .ok (.aload_n 0, 1) := by decide +kernel
theorem dX10_turnsOf_14 : decode cX10_turnsOf 14 = .ok (.iconst 1, 1) := by decide +kernel
theorem dX10_turnsOf_15 : decode cX10_turnsOf 15 = .ok (.iconst (-1), 1) := by decide +kernel
theorem dX10_turnsOf_16 : decode cX10_turnsOf 16 = .ok (.invokevirtual 83, 3) := by decide +kernel
theorem dX10_turnsOf_19 : decode cX10_turnsOf 19 = .ok (.ireturn, 1) := by decide +kernel
theorem dX10_turnsOf_20 : decode cX10_turnsOf 20 = .ok (.aload_n 0, 1) := by decide +kernel
theorem dX10_turnsOf_21 : decode cX10_turnsOf 21 = .ok (.getfield 36, 3) := by decide +kernel
theorem dX10_turnsOf_24 : decode cX10_turnsOf 24 = .ok (.aload_n 2, 1) := by decide +kernel
theorem dX10_turnsOf_25 : decode cX10_turnsOf 25 = .ok (.getfield 118, 3) := by decide +kernel
theorem dX10_turnsOf_28 : decode cX10_turnsOf 28 = .ok (.invokevirtual 198, 3) := by decide +kernel
theorem dX10_turnsOf_31 : decode cX10_turnsOf 31 = .ok (.iconst 0, 1) := by decide +kernel
theorem dX10_turnsOf_32 : decode cX10_turnsOf 32 = .ok (.istore_n 3, 1) := by decide +kernel
theorem dX10_turnsOf_33 : decode cX10_turnsOf 33 = .ok (.iconst 0, 1) := by decide +kernel
theorem dX10_turnsOf_34 : decode cX10_turnsOf 34 = .ok (.istore 4, 2) := by decide +kernel
theorem dX10_turnsOf_36 : decode cX10_turnsOf 36 = .ok (.iload 4, 2) := by decide +kernel
theorem dX10_turnsOf_38 : decode cX10_turnsOf 38 = .ok (.ldc 193, 2) := by decide +kernel
theorem dX10_turnsOf_40 : decode cX10_turnsOf 40 = .ok (.if_icmp .ge 46, 3) := by decide +kernel
theorem dX10_turnsOf_43 : decode cX10_turnsOf 43 = .ok (.aload_n 0, 1) := by decide +kernel
theorem dX10_turnsOf_44 : decode cX10_turnsOf 44 = .ok (.getfield 36, 3) := by decide +kernel
theorem dX10_turnsOf_47 : decode cX10_turnsOf 47 = .ok (.invokevirtual 171, 3) := by decide +kernel
theorem dX10_turnsOf_50 : decode cX10_turnsOf 50 = .ok (.ifCond .ne 36, 3) := by decide +kernel
theorem dX10_turnsOf_53 : decode cX10_turnsOf 53 = .ok (.aload_n 0, 1) := by decide +kernel
theorem dX10_turnsOf_54 : decode cX10_turnsOf 54 = .ok (.getfield 36, 3) := by decide +kernel
theorem dX10_turnsOf_57 : decode cX10_turnsOf 57 = .ok (.invokevirtual 202, 3) := by decide +kernel
theorem dX10_turnsOf_60 : decode cX10_turnsOf 60 = .ok (.istore 5, 2) := by decide +kernel
theorem dX10_turnsOf_62 : decode cX10_turnsOf 62 = .ok (.iload 5, 2) := by decide +kernel
theorem dX10_turnsOf_64 : decode cX10_turnsOf 64 = .ok (.iconst 2, 1) := by decide +kernel
theorem dX10_turnsOf_65 : decode cX10_turnsOf 65 = .ok (.if_icmp .ne 6, 3) := by decide +kernel
theorem dX10_turnsOf_68 : decode cX10_turnsOf 68 = .ok (.iinc 3 1, 3) := by decide +kernel
theorem dX10_turnsOf_71 : decode cX10_turnsOf 71 = .ok (.aload_n 0, 1) := by decide +kernel
theorem dX10_turnsOf_72 : decode cX10_turnsOf 72 = .ok (.getfield 36, 3) := by decide +kernel
theorem dX10_turnsOf_75 : decode cX10_turnsOf 75 = .ok (.iload 5, 2) := by decide +kernel
theorem dX10_turnsOf_77 : decode cX10_turnsOf 77 = .ok (.invokevirtual 205, 3) := by decide +kernel
theorem dX10_turnsOf_80 : decode cX10_turnsOf 80 = .ok (.iinc 4 1, 3) := by decide +kernel
theorem dX10_turnsOf_83 : decode cX10_turnsOf 83 = .ok (.goto (-47), 3) := by decide +kernel
theorem dX10_turnsOf_86 : decode cX10_turnsOf 86 = .ok (.aload_n 0, 1) := by decide +kernel
theorem dX10_turnsOf_87 : decode cX10_turnsOf 87 = .ok (.iload_n 3, 1) := by decide +kernel
theorem dX10_turnsOf_88 : decode cX10_turnsOf 88 = .ok (.invokevirtual 100, 3) := by decide +kernel
theorem dX10_turnsOf_91 : decode cX10_turnsOf 91 = .ok (.ireturn, 1) := by decide +kernel
theorem dX10_untieAt_0 : decode cX10_untieAt 0 = .ok (.aload_n 0, 1) := by decide +kernel
theorem dX10_untieAt_1 : decode cX10_untieAt 1 = .ok (.getfield 19, 3) := by decide +kernel
theorem dX10_untieAt_4 : decode cX10_untieAt 4 = .ok (.iload_n 1, 1) := by decide +kernel
theorem dX10_untieAt_5 : decode cX10_untieAt 5 = .ok (.invokevirtual 113, 3) := by decide +kernel
theorem dX10_untieAt_8 : decode cX10_untieAt 8 = .ok (.astore_n 3, 1) := by decide +kernel
theorem dX10_untieAt_9 : decode cX10_untieAt 9 = .ok (.aload_n 3, 1) := by decide +kernel
theorem dX10_untieAt_10 : decode cX10_untieAt 10 = .ok (.ifnull 27, 3) := by decide +kernel
theorem dX10_untieAt_13 : decode cX10_untieAt 13 = .ok (.iload_n 2, 1) := by decide +kernel
theorem dX10_untieAt_14 : decode cX10_untieAt 14 = .ok (.ifCond .lt 23, 3) := by decide +kernel
theorem dX10_untieAt_17 : decode cX10_untieAt 17 = .ok (.aload_n 0, 1) := by decide +kernel
theorem dX10_untieAt_18 : decode cX10_untieAt 18 = .ok (.aload_n 3, 1) := by decide +kernel
theorem dX10_untieAt_19 : decode cX10_untieAt 19 = .ok (.iload_n 2, 1) := by decide +kernel
theorem dX10_untieAt_20 : decode cX10_untieAt 20 = .ok (.invokevirtual 194, 3) := by decide +kernel
theorem dX10_untieAt_23 : decode cX10_untieAt 23 = .ok (.iload_n 2, 1) := by decide +kernel
theorem dX10_untieAt_24 : decode cX10_untieAt 24 = .ok (.if_icmp .lt 13, 3) := by decide +kernel
theorem dX10_untieAt_27 : decode cX10_untieAt 27 = .ok (.aload_n 0, 1) := by decide +kernel
theorem dX10_untieAt_28 : decode cX10_untieAt 28 = .ok (.getfield 36, 3) := by decide +kernel
theorem dX10_untieAt_31 : decode cX10_untieAt 31 = .ok (.invokevirtual 171, 3) := by decide +kernel
theorem dX10_untieAt_34 : decode cX10_untieAt 34 = .ok (.ifCond .eq 10, 3) := by decide +kernel
theorem dX10_untieAt_37 : decode cX10_untieAt 37 = .ok (.aload_n 0, 1) := by decide +kernel
theorem dX10_untieAt_38 : decode cX10_untieAt 38 = .ok (.iconst 1, 1) := by decide +kernel
theorem dX10_untieAt_39 : decode cX10_untieAt 39 = .ok (.iconst (-1), 1) := by decide +kernel
theorem dX10_untieAt_40 : decode cX10_untieAt 40 = .ok (.invokevirtual 83, 3) := by decide +kernel
theorem dX10_untieAt_43 : decode cX10_untieAt 43 = .ok (.ireturn, 1) := by decide +kernel
theorem dX10_untieAt_44 : decode cX10_untieAt 44 = .ok (.aload_n 0, 1) := by decide +kernel
theorem dX10_untieAt_45 : decode cX10_untieAt 45 = .ok (.aload_n 0, 1) := by decide +kernel
theorem dX10_untieAt_46 : decode cX10_untieAt 46 = .ok (.getfield 36, 3) := by decide +kernel
theorem dX10_untieAt_49 : decode cX10_untieAt 49 = .ok (.invokevirtual 202, 3) := by decide +kernel
theorem dX10_untieAt_52 : decode cX10_untieAt 52 = .ok (.invokevirtual 100, 3) := by decide +kernel
theorem dX10_untieAt_55 : decode cX10_untieAt 55 = .ok (.ireturn, 1) := by decide +kernel
theorem dX10_widest_0 : decode cX10_widest 0 = .ok (.aload_n 0, 1) := by decide +kernel
theorem dX10_widest_1 : decode cX10_widest 1 = .ok (.getfield 19, 3) := by decide +kernel
theorem dX10_widest_4 : decode cX10_widest 4 = .ok (.iload_n 1, 1) := by decide +kernel
theorem dX10_widest_5 : decode cX10_widest 5 = .ok (.invokevirtual 113, 3) := by decide +kernel
theorem dX10_widest_8 : decode cX10_widest 8 = .ok (.astore_n 2, 1) := by decide +kernel
theorem dX10_widest_9 : decode cX10_widest 9 = .ok (.aload_n 2, 1) := by decide +kernel
theorem dX10_widest_10 : decode cX10_widest 10 = .ok (.ifnonnull 10, 3) := by decide +kernel
theorem dX10_widest_13 : decode cX10_widest 13 = .ok (.aload_n 0, 1) := by decide +kernel
theorem dX10_widest_14 : decode cX10_widest 14 = .ok (.iconst 1, 1) := by decide +kernel
theorem dX10_widest_15 : decode cX10_widest 15 = .ok (.iconst (-1), 1) := by decide +kernel
theorem dX10_widest_16 : decode cX10_widest 16 = .ok (.invokevirtual 83, 3) := by decide +kernel
theorem dX10_widest_19 : decode cX10_widest 19 = .ok (.ireturn, 1) := by decide +kernel
theorem dX10_widest_20 : decode cX10_widest 20 = .ok (.aload_n 0, 1) := by decide +kernel
theorem dX10_widest_21 : decode cX10_widest 21 = .ok (.getfield 36, 3) := by decide +kernel
theorem dX10_widest_24 : decode cX10_widest 24 = .ok (.aload_n 2, 1) := by decide +kernel
theorem dX10_widest_25 : decode cX10_widest 25 = .ok (.getfield 118, 3) := by decide +kernel
theorem dX10_widest_28 : decode cX10_widest 28 = .ok (.invokevirtual 198, 3) := by decide +kernel
theorem dX10_widest_31 : decode cX10_widest 31 = .ok (.aload_n 0, 1) := by decide +kernel
theorem dX10_widest_32 : decode cX10_widest 32 = .ok (.getfield 36, 3) := by decide +kernel
theorem dX10_widest_35 : decode cX10_widest 35 = .ok (.getfield 126, 3) := by decide +kernel
theorem dX10_widest_38 : decode cX10_widest 38 = .ok (.istore_n 3, 1) := by decide +kernel
theorem dX10_widest_39 : decode cX10_widest 39 = .ok (.iconst 0, 1) := by decide +kernel
theorem dX10_widest_40 : decode cX10_widest 40 = .ok (.istore 4, 2) := by decide +kernel
theorem dX10_widest_42 : decode cX10_widest 42 = .ok (.iload 4, 2) := by decide +kernel
theorem dX10_widest_44 : decode cX10_widest 44 = .ok (.ldc 193, 2) := by decide +kernel
theorem dX10_widest_46 : decode cX10_widest 46 = .ok (.if_icmp .ge 45, 3) := by decide +kernel
theorem dX10_widest_49 : decode cX10_widest 49 = .ok (.aload_n 0, 1) := by decide +kernel
theorem dX10_widest_50 : decode cX10_widest 50 = .ok (.getfield 36, 3) := by decide +kernel
theorem dX10_widest_53 : decode cX10_widest 53 = .ok (.invokevirtual 171, 3) := by decide +kernel
theorem dX10_widest_56 : decode cX10_widest 56 = .ok (.ifCond .ne 35, 3) := by decide +kernel
theorem dX10_widest_59 : decode cX10_widest 59 = .ok (.aload_n 0, 1) := by decide +kernel
theorem dX10_widest_60 : decode cX10_widest 60 = .ok (.getfield 36, 3) := by decide +kernel
theorem dX10_widest_63 : decode cX10_widest 63 = .ok (.aload_n 0, 1) := by decide +kernel
theorem dX10_widest_64 : decode cX10_widest 64 = .ok (.getfield 36, 3) := by decide +kernel
theorem dX10_widest_67 : decode cX10_widest 67 = .ok (.invokevirtual 202, 3) := by decide +kernel
theorem dX10_widest_70 : decode cX10_widest 70 = .ok (.invokevirtual 205, 3) := by decide +kernel
theorem dX10_widest_73 : decode cX10_widest 73 = .ok (.iload_n 3, 1) := by decide +kernel
theorem dX10_widest_74 : decode cX10_widest 74 = .ok (.aload_n 0, 1) := by decide +kernel
theorem dX10_widest_75 : decode cX10_widest 75 = .ok (.getfield 36, 3) := by decide +kernel
theorem dX10_widest_78 : decode cX10_widest 78 = .ok (.getfield 126, 3) := by decide +kernel
theorem dX10_widest_81 : decode cX10_widest 81 = .ok (.invokestatic 208, 3) := by decide +kernel
theorem dX10_widest_84 : decode cX10_widest 84 = .ok (.istore_n 3, 1) := by decide +kernel
theorem dX10_widest_85 : decode cX10_widest 85 = .ok (.iinc 4 1, 3) := by decide +kernel
theorem dX10_widest_88 : decode cX10_widest 88 = .ok (.goto (-46), 3) := by decide +kernel
theorem dX10_widest_91 : decode cX10_widest 91 = .ok (.aload_n 0, 1) := by decide +kernel
theorem dX10_widest_92 : decode cX10_widest 92 = .ok (.iload_n 3, 1) := by decide +kernel
theorem dX10_widest_93 : decode cX10_widest 93 = .ok (.invokevirtual 100, 3) := by decide +kernel
theorem dX10_widest_96 : decode cX10_widest 96 = .ok (.ireturn, 1) := by decide +kernel
theorem dX10_come_0 : decode cX10_come 0 = .ok (.aload_n 0, 1) := by decide +kernel
theorem dX10_come_1 : decode cX10_come 1 = .ok (.iload_n 1, 1) := by decide +kernel
theorem dX10_come_2 : decode cX10_come 2 = .ok (.iload_n 2, 1) := by decide +kernel
theorem dX10_come_3 : decode cX10_come 3 = .ok (.iload_n 3, 1) := by decide +kernel
theorem dX10_come_4 : decode cX10_come 4 = .ok (.invokevirtual 211, 3) := by decide +kernel
theorem dX10_come_7 : decode cX10_come 7 = .ok (.istore 4, 2) := by decide +kernel
theorem dX10_come_9 : decode cX10_come 9 = .ok (.iload 4, 2) := by decide +kernel
theorem dX10_come_11 : decode cX10_come 11 = .ok (.ifCond .eq 11, 3) := by decide +kernel
theorem dX10_come_14 : decode cX10_come 14 = .ok (.aload_n 0, 1) := by decide +kernel
theorem dX10_come_15 : decode cX10_come 15 = .ok (.iload 4, 2) := by decide +kernel
theorem dX10_come_17 : decode cX10_come 17 = .ok (.iconst (-1), 1) := by decide +kernel
theorem dX10_come_18 : decode cX10_come 18 = .ok (.invokevirtual 83, 3) := by decide +kernel
theorem dX10_come_21 : decode cX10_come 21 = .ok (.ireturn, 1) := by decide +kernel
theorem dX10_come_22 : decode cX10_come 22 = .ok (.aload_n 0, 1) := by decide +kernel
theorem dX10_come_23 : decode cX10_come 23 = .ok (.iload_n 1, 1) := by decide +kernel
theorem dX10_come_24 : decode cX10_come 24 = .ok (.iload_n 2, 1) := by decide +kernel
theorem dX10_come_25 : decode cX10_come 25 = .ok (.iload_n 3, 1) := by decide +kernel
theorem dX10_come_26 : decode cX10_come 26 = .ok (.invokevirtual 215, 3) := by decide +kernel
theorem dX10_come_29 : decode cX10_come 29 = .ok (.istore 5, 2) := by decide +kernel
theorem dX10_come_31 : decode cX10_come 31 = .ok (.aload_n 0, 1) := by decide +kernel
theorem dX10_come_32 : decode cX10_come 32 = .ok (.iload 5, 2) := by decide +kernel
theorem dX10_come_34 : decode cX10_come 34 = .ok (.bipush (-2), 2) := by decide +kernel
theorem dX10_come_36 : decode cX10_come 36 = .ok (.if_icmp .ne 8, 3) := by decide +kernel
theorem dX10_come_39 : decode cX10_come 39 = .ok (.bipush (-2), 2) := by decide +kernel
theorem dX10_come_41 : decode cX10_come 41 = .ok (.goto 8, 3) := by decide +kernel
theorem dX10_come_44 : decode cX10_come 44 = .ok (.iload 5, 2) := by decide +kernel
theorem dX10_come_46 : decode cX10_come 46 = .ok (.invokestatic 218, 3) := by decide +kernel
theorem dX10_come_49 : decode cX10_come 49 = .ok (.invokevirtual 100, 3) := by decide +kernel
theorem dX10_come_52 : decode cX10_come 52 = .ok (.ireturn, 1) := by decide +kernel
theorem dX10_comeRow_0 : decode cX10_comeRow 0 = .ok (.aload_n 0, 1) := by decide +kernel
theorem dX10_comeRow_1 : decode cX10_comeRow 1 = .ok (.iload_n 1, 1) := by decide +kernel
theorem dX10_comeRow_2 : decode cX10_comeRow 2 = .ok (.iload_n 2, 1) := by decide +kernel
theorem dX10_comeRow_3 : decode cX10_comeRow 3 = .ok (.iload_n 3, 1) := by decide +kernel
theorem dX10_comeRow_4 : decode cX10_comeRow 4 = .ok (.invokevirtual 211, 3) := by decide +kernel
theorem dX10_comeRow_7 : decode cX10_comeRow 7 = .ok (.istore 4, 2) := by decide +kernel
theorem dX10_comeRow_9 : decode cX10_comeRow 9 = .ok (.iload 4, 2) := by decide +kernel
theorem dX10_comeRow_11 : decode cX10_comeRow 11 = .ok (.ifCond .eq 11, 3) := by decide +kernel
theorem dX10_comeRow_14 : decode cX10_comeRow 14 = .ok (.aload_n 0, 1) := by decide +kernel
theorem dX10_comeRow_15 : decode cX10_comeRow 15 = .ok (.iload 4, 2) := by decide +kernel
theorem dX10_comeRow_17 : decode cX10_comeRow 17 = .ok (.iconst (-1), 1) := by decide +kernel
theorem dX10_comeRow_18 : decode cX10_comeRow 18 = .ok (.invokevirtual 83, 3) := by decide +kernel
theorem dX10_comeRow_21 : decode cX10_comeRow 21 = .ok (.ireturn, 1) := by decide +kernel
theorem dX10_comeRow_22 : decode cX10_comeRow 22 = .ok (.aload_n 0, 1) := by decide +kernel
theorem dX10_comeRow_23 : decode cX10_comeRow 23 = .ok (.aload_n 0, 1) := by decide +kernel
theorem dX10_comeRow_24 : decode cX10_comeRow 24 = .ok (.iload_n 1, 1) := by decide +kernel
theorem dX10_comeRow_25 : decode cX10_comeRow 25 = .ok (.iload_n 2, 1) := by decide +kernel
theorem dX10_comeRow_26 : decode cX10_comeRow 26 = .ok (.iload_n 3, 1) := by decide +kernel
theorem dX10_comeRow_27 : decode cX10_comeRow 27 = .ok (.invokevirtual 215, 3) := by decide +kernel
theorem dX10_comeRow_30 : decode cX10_comeRow 30 = .ok (.invokevirtual 100, 3) := by decide +kernel
theorem dX10_comeRow_33 : decode cX10_comeRow 33 = .ok (.ireturn, 1) := by decide +kernel
theorem dX10_reach_0 : decode cX10_reach 0 = .ok (.aload_n 0, 1) := by decide +kernel
theorem dX10_reach_1 : decode cX10_reach 1 = .ok (.iload_n 1, 1) := by decide +kernel
theorem dX10_reach_2 : decode cX10_reach 2 = .ok (.iconst 0, 1) := by decide +kernel
theorem dX10_reach_3 : decode cX10_reach 3 = .ok (.bipush 7, 2) := by decide +kernel
theorem dX10_reach_5 : decode cX10_reach 5 = .ok (.invokevirtual 221, 3) := by decide +kernel
theorem dX10_reach_8 : decode cX10_reach 8 = .ok (.istore_n 2, 1) := by decide +kernel
theorem dX10_reach_9 : decode cX10_reach 9 = .ok (.iload_n 2, 1) := by decide +kernel
theorem dX10_reach_10 : decode cX10_reach 10 = .ok (.ifCond .ne 18, 3) := by decide +kernel
theorem dX10_reach_13 : decode cX10_reach 13 = .ok (.aload_n 0, 1) := by decide +kernel
theorem dX10_reach_14 : decode cX10_reach 14 = .ok (.aload_n 0, 1) := by decide +kernel
theorem dX10_reach_15 : decode cX10_reach 15 = .ok (.getfield 53, 3) := by decide +kernel
theorem dX10_reach_18 : decode cX10_reach 18 = .ok (.iload_n 1, 1) := by decide +kernel
theorem dX10_reach_19 : decode cX10_reach 19 = .ok (.invokevirtual 224, 3) := by decide +kernel
theorem dX10_reach_22 : decode cX10_reach 22 = .ok (.invokevirtual 100, 3) := by decide +kernel
theorem dX10_reach_25 : decode cX10_reach 25 = .ok (.goto 9, 3) := by decide +kernel
theorem dX10_reach_28 : decode cX10_reach 28 = .ok (.aload_n 0, 1) := by decide +kernel
theorem dX10_reach_29 : decode cX10_reach 29 = .ok (.iload_n 2, 1) := by decide +kernel
theorem dX10_reach_30 : decode cX10_reach 30 = .ok (.iconst (-1), 1) := by decide +kernel
theorem dX10_reach_31 : decode cX10_reach 31 = .ok (.invokevirtual 83, 3) := by decide +kernel
theorem dX10_reach_34 : decode cX10_reach 34 = .ok (.ireturn, 1) := by decide +kernel
theorem dX10_apart_0 : decode cX10_apart 0 = .ok (.aload_n 0, 1) := by decide +kernel
theorem dX10_apart_1 : decode cX10_apart 1 = .ok (.getfield 19, 3) := by decide +kernel
theorem dX10_apart_4 : decode cX10_apart 4 = .ok (.iload_n 1, 1) := by decide +kernel
theorem dX10_apart_5 : decode cX10_apart 5 = .ok (.invokevirtual 113, 3) := by decide +kernel
theorem dX10_apart_8 : decode cX10_apart 8 = .ok (.astore_n 3, 1) := by decide +kernel
theorem dX10_apart_9 : decode cX10_apart 9 = .ok (.aload_n 0, 1) := by decide +kernel
theorem dX10_apart_10 : decode cX10_apart 10 = .ok (.getfield 19, 3) := by decide +kernel
theorem dX10_apart_13 : decode cX10_apart 13 = .ok (.iload_n 2, 1) := by decide +kernel
theorem dX10_apart_14 : decode cX10_apart 14 = .ok (.invokevirtual 113, 3) := by decide +kernel
theorem dX10_apart_17 : decode cX10_apart 17 = .ok (.astore 4, 2) := by decide +kernel
theorem dX10_apart_19 : decode cX10_apart 19 = .ok (.aload_n 3, 1) := by decide +kernel
theorem dX10_apart_20 : decode cX10_apart 20 = .ok (.ifnull 8, 3) := by decide +kernel
theorem dX10_apart_23 : decode cX10_apart 23 = .ok (.aload 4, 2) := by decide +kernel
theorem dX10_apart_25 : decode cX10_apart 25 = .ok (.ifnonnull 10, 3) := by decide +kernel
theorem dX10_apart_28 : decode cX10_apart 28 = .ok (.aload_n 0, 1) := by decide +kernel
theorem dX10_apart_29 : decode cX10_apart 29 = .ok (.iconst 1, 1) := by decide +kernel
theorem dX10_apart_30 : decode cX10_apart 30 = .ok (.iconst (-1), 1) := by decide +kernel
theorem dX10_apart_31 : decode cX10_apart 31 = .ok (.invokevirtual 83, 3) := by decide +kernel
theorem dX10_apart_34 : decode cX10_apart 34 = .ok (.ireturn, 1) := by decide +kernel
theorem dX10_apart_35 : decode cX10_apart 35 = .ok (.aload_n 3, 1) := by decide +kernel
theorem dX10_apart_36 : decode cX10_apart 36 = .ok (.getfield 118, 3) := by decide +kernel
theorem dX10_apart_39 : decode cX10_apart 39 = .ok (.getfield 123, 3) := by decide +kernel
theorem dX10_apart_42 : decode cX10_apart 42 = .ok (.aload 4, 2) := by decide +kernel
theorem dX10_apart_44 : decode cX10_apart 44 = .ok (.getfield 118, 3) := by decide +kernel
theorem dX10_apart_47 : decode cX10_apart 47 = .ok (.getfield 126, 3) := by decide +kernel
theorem dX10_apart_50 : decode cX10_apart 50 = .ok (.imul, 1) := by decide +kernel
theorem dX10_apart_51 : decode cX10_apart 51 = .ok (.istore 5, 2) := by decide +kernel
theorem dX10_apart_53 : decode cX10_apart 53 = .ok (.aload 4, 2) := by decide +kernel
theorem dX10_apart_55 : decode cX10_apart 55 = .ok (.getfield 118, 3) := by decide +kernel
theorem dX10_apart_58 : decode cX10_apart 58 = .ok (.getfield 123, 3) := by decide +kernel
theorem dX10_apart_61 : decode cX10_apart 61 = .ok (.aload_n 3, 1) := by decide +kernel
theorem dX10_apart_62 : decode cX10_apart 62 = .ok (.getfield 118, 3) := by decide +kernel
theorem dX10_apart_65 : decode cX10_apart 65 = .ok (.getfield 126, 3) := by decide +kernel
theorem dX10_apart_68 : decode cX10_apart 68 = .ok (.imul, 1) := by decide +kernel
theorem dX10_apart_69 : decode cX10_apart 69 = .ok (.istore 6, 2) := by decide +kernel
theorem dX10_apart_71 : decode cX10_apart 71 = .ok (.aload_n 0, 1) := by decide +kernel
theorem dX10_apart_72 : decode cX10_apart 72 = .ok (.iload 5, 2) := by decide +kernel
theorem dX10_apart_74 : decode cX10_apart 74 = .ok (.iload 6, 2) := by decide +kernel
theorem dX10_apart_76 : decode cX10_apart 76 = .ok (.isub, 1) := by decide +kernel
theorem dX10_apart_77 : decode cX10_apart 77 = .ok (.invokestatic 184, 3) := by decide +kernel
theorem dX10_apart_80 : decode cX10_apart 80 = .ok (.invokevirtual 100, 3) := by decide +kernel
theorem dX10_apart_83 : decode cX10_apart 83 = .ok (.ireturn, 1) := by decide +kernel
theorem dX10_upperBetween_0 : decode cX10_upperBetween 0 = .ok (.aload_n 0, 1) := by decide +kernel
theorem dX10_upperBetween_1 : decode cX10_upperBetween 1 = .ok (.iload_n 1, 1) := by decide +kernel
theorem dX10_upperBetween_2 : decode cX10_upperBetween 2 = .ok (.iload_n 2, 1) := by decide +kernel
theorem dX10_upperBetween_3 : decode cX10_upperBetween 3 = .ok (.invokevirtual 227, 3) := by decide +kernel
theorem dX10_upperBetween_6 : decode cX10_upperBetween 6 = .ok (.istore_n 3, 1) := by decide +kernel
theorem dX10_upperBetween_7 : decode cX10_upperBetween 7 = .ok (.iload_n 3, 1) := by decide +kernel
theorem dX10_upperBetween_8 : decode cX10_upperBetween 8 = .ok (.ifCond .ne 17, 3) := by decide +kernel
theorem dX10_upperBetween_11 : decode cX10_upperBetween 11 = .ok (.aload_n 0, 1) := by decide +kernel
theorem dX10_upperBetween_12 : decode cX10_upperBetween 12 = .ok (.aload_n 0, 1) := by decide +kernel
theorem dX10_upperBetween_13 : decode cX10_upperBetween 13 = .ok (.getfield 36, 3) := by decide +kernel
theorem dX10_upperBetween_16 : decode cX10_upperBetween 16 = .ok (.getfield 123, 3) := by decide +kernel
theorem dX10_upperBetween_19 : decode cX10_upperBetween 19 = .ok (.invokevirtual 100, 3) := by decide +kernel
theorem dX10_upperBetween_22 : decode cX10_upperBetween 22 = .ok (.goto 10, 3) := by decide +kernel
theorem dX10_upperBetween_25 : decode cX10_upperBetween 25 = .ok (.aload_n 0, 1) := by decide +kernel
theorem dX10_upperBetween_26 : decode cX10_upperBetween 26 = .ok (.iload_n 3, 1) := by decide +kernel
theorem dX10_upperBetween_27 : decode cX10_upperBetween 27 = .ok (.ldc 117, 2) := by decide +kernel
theorem dX10_upperBetween_29 : decode cX10_upperBetween 29 = .ok (.invokevirtual 83, 3) := by decide +kernel
theorem dX10_upperBetween_32 : decode cX10_upperBetween 32 = .ok (.ireturn, 1) := by decide +kernel
theorem dX10_lowerBetween_0 : decode cX10_lowerBetween 0 = .ok (.aload_n 0, 1) := by decide +kernel
theorem dX10_lowerBetween_1 : decode cX10_lowerBetween 1 = .ok (.iload_n 1, 1) := by decide +kernel
theorem dX10_lowerBetween_2 : decode cX10_lowerBetween 2 = .ok (.iload_n 2, 1) := by decide +kernel
theorem dX10_lowerBetween_3 : decode cX10_lowerBetween 3 = .ok (.invokevirtual 227, 3) := by decide +kernel
theorem dX10_lowerBetween_6 : decode cX10_lowerBetween 6 = .ok (.istore_n 3, 1) := by decide +kernel
theorem dX10_lowerBetween_7 : decode cX10_lowerBetween 7 = .ok (.iload_n 3, 1) := by decide +kernel
theorem dX10_lowerBetween_8 : decode cX10_lowerBetween 8 = .ok (.ifCond .ne 17, 3) := by decide +kernel
theorem dX10_lowerBetween_11 : decode cX10_lowerBetween 11 = .ok (.aload_n 0, 1) := by decide +kernel
theorem dX10_lowerBetween_12 : decode cX10_lowerBetween 12 = .ok (.aload_n 0, 1) := by decide +kernel
theorem dX10_lowerBetween_13 : decode cX10_lowerBetween 13 = .ok (.getfield 36, 3) := by decide +kernel
theorem dX10_lowerBetween_16 : decode cX10_lowerBetween 16 = .ok (.getfield 126, 3) := by decide +kernel
theorem dX10_lowerBetween_19 : decode cX10_lowerBetween 19 = .ok (.invokevirtual 100, 3) := by decide +kernel
theorem dX10_lowerBetween_22 : decode cX10_lowerBetween 22 = .ok (.goto 9, 3) := by decide +kernel
theorem dX10_lowerBetween_25 : decode cX10_lowerBetween 25 = .ok (.aload_n 0, 1) := by decide +kernel
theorem dX10_lowerBetween_26 : decode cX10_lowerBetween 26 = .ok (.iload_n 3, 1) := by decide +kernel
theorem dX10_lowerBetween_27 : decode cX10_lowerBetween 27 = .ok (.iconst (-1), 1) := by decide +kernel
theorem dX10_lowerBetween_28 : decode cX10_lowerBetween 28 = .ok (.invokevirtual 83, 3) := by decide +kernel
theorem dX10_lowerBetween_31 : decode cX10_lowerBetween 31 = .ok (.ireturn, 1) := by decide +kernel
theorem dX10_rungs_0 : decode cX10_rungs 0 = .ok (.aload_n 0, 1) := by decide +kernel
theorem dX10_rungs_1 : decode cX10_rungs 1 = .ok (.iload_n 1, 1) := by decide +kernel
theorem dX10_rungs_2 : decode cX10_rungs 2 = .ok (.iconst 1, 1) := by decide +kernel
theorem dX10_rungs_3 : decode cX10_rungs 3 = .ok (.sipush 200, 3) := by decide +kernel
theorem dX10_rungs_6 : decode cX10_rungs 6 = .ok (.invokevirtual 221, 3) := by decide +kernel
theorem dX10_rungs_9 : decode cX10_rungs 9 = .ok (.istore_n 2, 1) := by decide +kernel
theorem dX10_rungs_10 : decode cX10_rungs 10 = .ok (.iload_n 2, 1) := by decide +kernel
theorem dX10_rungs_11 : decode cX10_rungs 11 = .ok (.ifCond .eq 10, 3) := by decide +kernel
theorem dX10_rungs_14 : decode cX10_rungs 14 = .ok (.aload_n 0, 1) := by decide +kernel
theorem dX10_rungs_15 : decode cX10_rungs 15 = .ok (.iload_n 2, 1) := by decide +kernel
theorem dX10_rungs_16 : decode cX10_rungs 16 = .ok (.iconst (-1), 1) := by decide +kernel
theorem dX10_rungs_17 : decode cX10_rungs 17 = .ok (.invokevirtual 83, 3) := by decide +kernel
theorem dX10_rungs_20 : decode cX10_rungs 20 = .ok (.ireturn, 1) := by decide +kernel
theorem dX10_rungs_21 : decode cX10_rungs 21 = .ok (.aload_n 0, 1) := by decide +kernel
theorem dX10_rungs_22 : decode cX10_rungs 22 = .ok (.aload_n 0, 1) := by decide +kernel
theorem dX10_rungs_23 : decode cX10_rungs 23 = .ok (.getfield 60, 3) := by decide +kernel
theorem dX10_rungs_26 : decode cX10_rungs 26 = .ok (.iload_n 1, 1) := by decide +kernel
theorem dX10_rungs_27 : decode cX10_rungs 27 = .ok (.ldc 193, 2) := by decide +kernel
theorem dX10_rungs_29 : decode cX10_rungs 29 = .ok (.invokevirtual 230, 3) := by decide +kernel
theorem dX10_rungs_32 : decode cX10_rungs 32 = .ok (.iconst 1, 1) := by decide +kernel
theorem dX10_rungs_33 : decode cX10_rungs 33 = .ok (.iadd, 1) := by decide +kernel
theorem dX10_rungs_34 : decode cX10_rungs 34 = .ok (.invokevirtual 100, 3) := by decide +kernel
theorem dX10_rungs_37 : decode cX10_rungs 37 = .ok (.ireturn, 1) := by decide +kernel
theorem dX10_rungUpper_0 : decode cX10_rungUpper 0 = .ok (.aload_n 0, 1) := by decide +kernel
theorem dX10_rungUpper_1 : decode cX10_rungUpper 1 = .ok (.iload_n 1, 1) := by decide +kernel
theorem dX10_rungUpper_2 : decode cX10_rungUpper 2 = .ok (.iload_n 2, 1) := by decide +kernel
theorem dX10_rungUpper_3 : decode cX10_rungUpper 3 = .ok (.invokevirtual 233, 3) := by decide +kernel
theorem dX10_rungUpper_6 : decode cX10_rungUpper 6 = .ok (.istore_n 3, 1) := by decide +kernel
theorem dX10_rungUpper_7 : decode cX10_rungUpper 7 = .ok (.iload_n 3, 1) := by decide +kernel
theorem dX10_rungUpper_8 : decode cX10_rungUpper 8 = .ok (.ifCond .ne 17, 3) := by decide +kernel
theorem dX10_rungUpper_11 : decode cX10_rungUpper 11 = .ok (.aload_n 0, 1) := by decide +kernel
theorem dX10_rungUpper_12 : decode cX10_rungUpper 12 = .ok (.aload_n 0, 1) := by decide +kernel
theorem dX10_rungUpper_13 : decode cX10_rungUpper 13 = .ok (.getfield 60, 3) := by decide +kernel
theorem dX10_rungUpper_16 : decode cX10_rungUpper 16 = .ok (.getfield 236, 3) := by decide +kernel
theorem dX10_rungUpper_19 : decode cX10_rungUpper 19 = .ok (.invokevirtual 100, 3) := by decide +kernel
theorem dX10_rungUpper_22 : decode cX10_rungUpper 22 = .ok (.goto 9, 3) := by decide +kernel
theorem dX10_rungUpper_25 : decode cX10_rungUpper 25 = .ok (.aload_n 0, 1) := by decide +kernel
theorem dX10_rungUpper_26 : decode cX10_rungUpper 26 = .ok (.iload_n 3, 1) := by decide +kernel
