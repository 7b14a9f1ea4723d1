theorem dX11_part_17 : decode cX11_part 17 = .ok (.ireturn, 1) := by decide +kernel
theorem dX11_part_18 : decode cX11_part 18 = .ok (.aload_n 0, 1) := by decide +kernel
theorem dX11_part_19 : decode cX11_part 19 = .ok (.iload_n 1, 1) := by decide +kernel
theorem dX11_part_20 : decode cX11_part 20 = .ok (.invokevirtual 245, 3) := by decide +kernel
theorem dX11_part_23 : decode cX11_part 23 = .ok (.aload_n 0, 1) := by decide +kernel
theorem dX11_part_24 : decode cX11_part 24 = .ok (.invokevirtual 251, 3) := by decide +kernel
theorem dX11_part_27 : decode cX11_part 27 = .ok (.pop, 1) := by decide +kernel
theorem dX11_part_28 : decode cX11_part 28 = .ok (.iload_n 2, 1) := by decide +kernel
theorem dX11_part_29 : decode cX11_part 29 = .ok (.iconst 0, 1) := by decide +kernel
theorem dX11_part_30 : decode cX11_part 30 = .ok (.aload_n 0, 1) := by decide +kernel
theorem dX11_part_31 : decode cX11_part 31 = .ok (.getfield 236, 3) := by decide +kernel
theorem dX11_part_34 : decode cX11_part 34 = .ok (.iconst 1, 1) := by decide +kernel
theorem dX11_part_35 : decode cX11_part 35 = .ok (.isub, 1) := by decide +kernel
theorem dX11_part_36 : decode cX11_part 36 = .ok (.invokestatic 143, 3) := by decide +kernel
theorem dX11_part_39 : decode cX11_part 39 = .ok (.ifCond .eq 12, 3) := by decide +kernel
theorem dX11_part_42 : decode cX11_part 42 = .ok (.aload_n 0, 1) := by decide +kernel
theorem dX11_part_43 : decode cX11_part 43 = .ok (.getfield 35, 3) := by decide +kernel
theorem dX11_part_46 : decode cX11_part 46 = .ok (.iload_n 2, 1) := by decide +kernel
theorem dX11_part_47 : decode cX11_part 47 = .ok (.iaload, 1) := by decide +kernel
theorem dX11_part_48 : decode cX11_part 48 = .ok (.goto 8, 3) := by decide +kernel
theorem dX11_part_51 : decode cX11_part 51 = .ok (.aload_n 0, 1) := by decide +kernel
theorem dX11_part_52 : decode cX11_part 52 = .ok (.iconst 1, 1) := by decide +kernel
theorem dX11_part_53 : decode cX11_part 53 = .ok (.invokevirtual 150, 3) := by decide +kernel
theorem dX11_part_56 : decode cX11_part 56 = .ok (.ireturn, 1) := by decide +kernel
theorem dX11_crossings_0 : decode cX11_crossings 0 = .ok (.aload_n 0, 1) := by decide +kernel
theorem dX11_crossings_1 : decode cX11_crossings 1 = .ok (.invokevirtual 147, 3) := by decide +kernel
theorem dX11_crossings_4 : decode cX11_crossings 4 = .ok (.aload_n 0, 1) := by decide +kernel
theorem dX11_crossings_5 : decode cX11_crossings 5 = .ok (.iload_n 1, 1) := by decide +kernel
theorem dX11_crossings_6 : decode cX11_crossings 6 = .ok (.invokevirtual 239, 3) := by decide +kernel
theorem dX11_crossings_9 : decode cX11_crossings 9 = .ok (.ifCond .ne 9, 3) := by decide +kernel
theorem dX11_crossings_12 : decode cX11_crossings 12 = .ok (.aload_n 0, 1) := by decide +kernel
theorem dX11_crossings_13 : decode cX11_crossings 13 = .ok (.iconst 1, 1) := by decide +kernel
theorem dX11_crossings_14 : decode cX11_crossings 14 = .ok (.invokevirtual 150, 3) := by decide +kernel
theorem dX11_crossings_17 : decode cX11_crossings 17 = .ok (.ireturn, 1) := by decide +kernel
theorem dX11_crossings_18 : decode cX11_crossings 18 = .ok (.aload_n 0, 1) := by decide +kernel
theorem dX11_crossings_19 : decode cX11_crossings 19 = .ok (.iload_n 1, 1) := by decide +kernel
theorem dX11_crossings_20 : decode cX11_crossings 20 = .ok (.invokevirtual 245, 3) := by decide +kernel
theorem dX11_crossings_23 : decode cX11_crossings 23 = .ok (.aload_n 0, 1) := by decide +kernel
theorem dX11_crossings_24 : decode cX11_crossings 24 = .ok (.invokevirtual 251, 3) := by decide +kernel
theorem dX11_crossings_27 : decode cX11_crossings 27 = .ok (.ireturn, 1) := by decide +kernel
theorem dX11_figures_0 : decode cX11_figures 0 = .ok (.aload_n 0, 1) := by decide +kernel
theorem dX11_figures_1 : decode cX11_figures 1 = .ok (.invokevirtual 147, 3) := by decide +kernel
theorem dX11_figures_4 : decode cX11_figures 4 = .ok (.aload_n 0, 1) := by decide +kernel
theorem dX11_figures_5 : decode cX11_figures 5 = .ok (.iload_n 1, 1) := by decide +kernel
theorem dX11_figures_6 : decode cX11_figures 6 = .ok (.invokevirtual 239, 3) := by decide +kernel
theorem dX11_figures_9 : decode cX11_figures 9 = .ok (.ifCond .eq 14, 3) := by decide +kernel
theorem dX11_figures_12 : decode cX11_figures 12 = .ok (.aload_n 0, 1) := by decide +kernel
theorem dX11_figures_13 : decode cX11_figures 13 = .ok (.getfield 20, 3) := by decide +kernel
theorem dX11_figures_16 : decode cX11_figures 16 = .ok (.iconst 4, 1) := by decide +kernel
theorem dX11_figures_17 : decode cX11_figures 17 = .ok (.iload_n 1, 1) := by decide +kernel
theorem dX11_figures_18 : decode cX11_figures 18 = .ok (.iadd, 1) := by decide +kernel
theorem dX11_figures_19 : decode cX11_figures 19 = .ok (.iaload, 1) := by decide +kernel
theorem dX11_figures_20 : decode cX11_figures 20 = .ok (.goto 8, 3) := by decide +kernel
theorem dX11_figures_23 : decode cX11_figures 23 = .ok (.aload_n 0, 1) := by decide +kernel
theorem dX11_figures_24 : decode cX11_figures 24 = .ok (.iconst 1, 1) := by decide +kernel
theorem dX11_figures_25 : decode cX11_figures 25 = .ok (.invokevirtual 150, 3) := by decide +kernel
theorem dX11_figures_28 : decode cX11_figures 28 = .ok (.ireturn, 1) := by decide +kernel
theorem dX11_figure_0 : decode cX11_figure 0 = .ok (.aload_n 0, 1) := by decide +kernel
theorem dX11_figure_1 : decode cX11_figure 1 = .ok (.invokevirtual 147, 3) := by decide +kernel
theorem dX11_figure_4 : decode cX11_figure 4 = .ok (.aload_n 0, 1) := by decide +kernel
theorem dX11_figure_5 : decode cX11_figure 5 = .ok (.iload_n 1, 1) := by decide +kernel
theorem dX11_figure_6 : decode cX11_figure 6 = .ok (.invokevirtual 239, 3) := by decide +kernel
theorem dX11_figure_9 : decode cX11_figure 9 = .ok (.ifCond .eq 38, 3) := by decide +kernel
theorem dX11_figure_12 : decode cX11_figure 12 = .ok (.iload_n 2, 1) := by decide +kernel
theorem dX11_figure_13 : decode cX11_figure 13 = .ok (.iconst 0, 1) := by decide +kernel
theorem dX11_figure_14 : decode cX11_figure 14 = .ok (.aload_n 0, 1) := by decide +kernel
theorem dX11_figure_15 : decode cX11_figure 15 = .ok (.getfield 20, 3) := by decide +kernel
theorem dX11_figure_18 : decode cX11_figure 18 = .ok (.iconst 4, 1) := by decide +kernel
theorem dX11_figure_19 : decode cX11_figure 19 = .ok (.iload_n 1, 1) := by decide +kernel
theorem dX11_figure_20 : decode cX11_figure 20 = .ok (.iadd, 1) := by decide +kernel
theorem dX11_figure_21 : decode cX11_figure 21 = .ok (.iaload, 1) := by decide +kernel
theorem dX11_figure_22 : decode cX11_figure 22 = .ok (.iconst 1, 1) := by decide +kernel
theorem dX11_figure_23 : decode cX11_figure 23 = .ok (.isub, 1) := by decide +kernel
theorem dX11_figure_24 : decode cX11_figure 24 = .ok (.invokestatic 143, 3) := by decide +kernel
theorem dX11_figure_27 : decode cX11_figure 27 = .ok (.ifCond .eq 20, 3) := by decide +kernel
theorem dX11_figure_30 : decode cX11_figure 30 = .ok (.aload_n 0, 1) := by decide +kernel
theorem dX11_figure_31 : decode cX11_figure 31 = .ok (.getfield 20, 3) := by decide +kernel
theorem dX11_figure_34 : decode cX11_figure 34 = .ok (.bipush 9, 2) := by decide +kernel
theorem dX11_figure_36 : decode cX11_figure 36 = .ok (.bipush 12, 2) := by decide +kernel
theorem dX11_figure_38 : decode cX11_figure 38 = .ok (.iload_n 1, 1) := by decide +kernel
theorem dX11_figure_39 : decode cX11_figure 39 = .ok (.imul, 1) := by decide +kernel
theorem dX11_figure_40 : decode cX11_figure 40 = .ok (.iadd, 1) := by decide +kernel
theorem dX11_figure_41 : decode cX11_figure 41 = .ok (.iload_n 2, 1) := by decide +kernel
theorem dX11_figure_42 : decode cX11_figure 42 = .ok (.iadd, 1) := by decide +kernel
theorem dX11_figure_43 : decode cX11_figure 43 = .ok (.iaload, 1) := by decide +kernel
theorem dX11_figure_44 : decode cX11_figure 44 = .ok (.goto 8, 3) := by decide +kernel
theorem dX11_figure_47 : decode cX11_figure 47 = .ok (.aload_n 0, 1) := by decide +kernel
theorem dX11_figure_48 : decode cX11_figure 48 = .ok (.iconst 1, 1) := by decide +kernel
theorem dX11_figure_49 : decode cX11_figure 49 = .ok (.invokevirtual 150, 3) := by decide +kernel
theorem dX11_figure_52 : decode cX11_figure 52 = .ok (.ireturn, 1) := by decide +kernel
theorem dX11_rowWhy_0 : decode cX11_rowWhy 0 = .ok (.aload_n 0, 1) := by decide +kernel
theorem dX11_rowWhy_1 : decode cX11_rowWhy 1 = .ok (.iload_n 1, 1) := by decide +kernel
theorem dX11_rowWhy_2 : decode cX11_rowWhy 2 = .ok (.invokevirtual 239, 3) := by decide +kernel
theorem dX11_rowWhy_5 : decode cX11_rowWhy 5 = .ok (.ifCond .ne 7, 3) := by decide +kernel
theorem dX11_rowWhy_8 : decode cX11_rowWhy 8 = .ok (.iconst 1, 1) := by decide +kernel
theorem dX11_rowWhy_9 : decode cX11_rowWhy 9 = .ok (.goto 24, 3) := by decide +kernel
theorem dX11_rowWhy_12 : decode cX11_rowWhy 12 = .ok (.iload_n 2, 1) := by decide +kernel
theorem dX11_rowWhy_13 : decode cX11_rowWhy 13 = .ok (.iconst 0, 1) := by decide +kernel
theorem dX11_rowWhy_14 : decode cX11_rowWhy 14 = .ok (.aload_n 0, 1) := by decide +kernel
theorem dX11_rowWhy_15 : decode cX11_rowWhy 15 = .ok (.getfield 20, 3) := by decide +kernel
theorem dX11_rowWhy_18 : decode cX11_rowWhy 18 = .ok (.iconst 4, 1) := by decide +kernel
theorem dX11_rowWhy_19 : decode cX11_rowWhy 19 = .ok (.iload_n 1, 1) := by decide +kernel
theorem dX11_rowWhy_20 : decode cX11_rowWhy 20 = .ok (.iadd, 1) := by decide +kernel
theorem dX11_rowWhy_21 : decode cX11_rowWhy 21 = .ok (.iaload, 1) := by decide +kernel
theorem dX11_rowWhy_22 : decode cX11_rowWhy 22 = .ok (.invokestatic 143, 3) := by decide +kernel
theorem dX11_rowWhy_25 : decode cX11_rowWhy 25 = .ok (.ifCond .eq 7, 3) := by decide +kernel
theorem dX11_rowWhy_28 : decode cX11_rowWhy 28 = .ok (.iconst 0, 1) := by decide +kernel
theorem dX11_rowWhy_29 : decode cX11_rowWhy 29 = .ok (.goto 4, 3) := by decide +kernel
theorem dX11_rowWhy_32 : decode cX11_rowWhy 32 = .ok (.iconst 2, 1) := by decide +kernel
theorem dX11_rowWhy_33 : decode cX11_rowWhy 33 = .ok (.ireturn, 1) := by decide +kernel
theorem dX11_upperAfter_0 : decode cX11_upperAfter 0 = .ok (.aload_n 0, 1) := by decide +kernel
theorem dX11_upperAfter_1 : decode cX11_upperAfter 1 = .ok (.invokevirtual 147, 3) := by decide +kernel
theorem dX11_upperAfter_4 : decode cX11_upperAfter 4 = .ok (.aload_n 0, 1) := by decide +kernel
theorem dX11_upperAfter_5 : decode cX11_upperAfter 5 = .ok (.iload_n 1, 1) := by decide +kernel
theorem dX11_upperAfter_6 : decode cX11_upperAfter 6 = .ok (.iload_n 2, 1) := by decide +kernel
theorem dX11_upperAfter_7 : decode cX11_upperAfter 7 = .ok (.invokevirtual 254, 3) := by decide +kernel
theorem dX11_upperAfter_10 : decode cX11_upperAfter 10 = .ok (.ifCond .eq 14, 3) := by decide +kernel
theorem dX11_upperAfter_13 : decode cX11_upperAfter 13 = .ok (.aload_n 0, 1) := by decide +kernel
theorem dX11_upperAfter_14 : decode cX11_upperAfter 14 = .ok (.aload_n 0, 1) := by decide +kernel
theorem dX11_upperAfter_15 : decode cX11_upperAfter 15 = .ok (.iload_n 1, 1) := by decide +kernel
theorem dX11_upperAfter_16 : decode cX11_upperAfter 16 = .ok (.iload_n 2, 1) := by decide +kernel
theorem dX11_upperAfter_17 : decode cX11_upperAfter 17 = .ok (.invokevirtual 254, 3) := by decide +kernel
theorem dX11_upperAfter_20 : decode cX11_upperAfter 20 = .ok (.invokevirtual 242, 3) := by decide +kernel
theorem dX11_upperAfter_23 : decode cX11_upperAfter 23 = .ok (.ireturn, 1) := by decide +kernel
theorem dX11_upperAfter_24 : decode cX11_upperAfter 24 = .ok (.aload_n 0, 1) := by decide +kernel
theorem dX11_upperAfter_25 : decode cX11_upperAfter 25 = .ok (.iload_n 1, 1) := by decide +kernel
theorem dX11_upperAfter_26 : decode cX11_upperAfter 26 = .ok (.iload_n 2, 1) := by decide +kernel
theorem dX11_upperAfter_27 : decode cX11_upperAfter 27 = .ok (.iconst 0, 1) := by decide +kernel
theorem dX11_upperAfter_28 : decode cX11_upperAfter 28 = .ok (.iconst 0, 1) := by decide +kernel
theorem dX11_upperAfter_29 : decode cX11_upperAfter 29 = .ok (.invokevirtual 166, 3) := by decide +kernel
theorem dX11_upperAfter_32 : decode cX11_upperAfter 32 = .ok (.aload_n 0, 1) := by decide +kernel
theorem dX11_upperAfter_33 : decode cX11_upperAfter 33 = .ok (.getfield 169, 3) := by decide +kernel
theorem dX11_upperAfter_36 : decode cX11_upperAfter 36 = .ok (.ireturn, 1) := by decide +kernel
theorem dX11_lowerAfter_0 : decode cX11_lowerAfter 0 = .ok (.aload_n 0, 1) := by decide +kernel
theorem dX11_lowerAfter_1 : decode cX11_lowerAfter 1 = .ok (.invokevirtual 147, 3) := by decide +kernel
theorem dX11_lowerAfter_4 : decode cX11_lowerAfter 4 = .ok (.aload_n 0, 1) := by decide +kernel
theorem dX11_lowerAfter_5 : decode cX11_lowerAfter 5 = .ok (.iload_n 1, 1) := by decide +kernel
theorem dX11_lowerAfter_6 : decode cX11_lowerAfter 6 = .ok (.iload_n 2, 1) := by decide +kernel
theorem dX11_lowerAfter_7 : decode cX11_lowerAfter 7 = .ok (.invokevirtual 254, 3) := by decide +kernel
theorem dX11_lowerAfter_10 : decode cX11_lowerAfter 10 = .ok (.ifCond .eq 14, 3) := by decide +kernel
theorem dX11_lowerAfter_13 : decode cX11_lowerAfter 13 = .ok (.aload_n 0, 1) := by decide +kernel
theorem dX11_lowerAfter_14 : decode cX11_lowerAfter 14 = .ok (.aload_n 0, 1) := by decide +kernel
theorem dX11_lowerAfter_15 : decode cX11_lowerAfter 15 = .ok (.iload_n 1, 1) := by decide +kernel
theorem dX11_lowerAfter_16 : decode cX11_lowerAfter 16 = .ok (.iload_n 2, 1) := by decide +kernel
theorem dX11_lowerAfter_17 : decode cX11_lowerAfter 17 = .ok (.invokevirtual 254, 3) := by decide +kernel
theorem dX11_lowerAfter_20 : decode cX11_lowerAfter 20 = .ok (.invokevirtual 150, 3) := by decide +kernel
theorem dX11_lowerAfter_23 : decode cX11_lowerAfter 23 = .ok (.ireturn, 1) := by decide +kernel
theorem dX11_lowerAfter_24 : decode cX11_lowerAfter 24 = .ok (.aload_n 0, 1) := by decide +kernel
theorem dX11_lowerAfter_25 : decode cX11_lowerAfter 25 = .ok (.iload_n 1, 1) := by decide +kernel
theorem dX11_lowerAfter_26 : decode cX11_lowerAfter 26 = .ok (.iload_n 2, 1) := by decide +kernel
theorem dX11_lowerAfter_27 : decode cX11_lowerAfter 27 = .ok (.iconst 0, 1) := by decide +kernel
theorem dX11_lowerAfter_28 : decode cX11_lowerAfter 28 = .ok (.iconst 0, 1) := by decide +kernel
theorem dX11_lowerAfter_29 : decode cX11_lowerAfter 29 = .ok (.invokevirtual 166, 3) := by decide +kernel
theorem dX11_lowerAfter_32 : decode cX11_lowerAfter 32 = .ok (.aload_n 0, 1) := by decide +kernel
theorem dX11_lowerAfter_33 : decode cX11_lowerAfter 33 = .ok (.getfield 172, 3) := by decide +kernel
theorem dX11_lowerAfter_36 : decode cX11_lowerAfter 36 = .ok (.ireturn, 1) := by decide +kernel
theorem dX11_mostAt_0 : decode cX11_mostAt 0 = .ok (.aload_n 0, 1) := by decide +kernel
theorem dX11_mostAt_1 : decode cX11_mostAt 1 = .ok (.invokevirtual 147, 3) := by decide +kernel
theorem dX11_mostAt_4 : decode cX11_mostAt 4 = .ok (.aload_n 0, 1) := by decide +kernel
theorem dX11_mostAt_5 : decode cX11_mostAt 5 = .ok (.iload_n 1, 1) := by decide +kernel
theorem dX11_mostAt_6 : decode cX11_mostAt 6 = .ok (.invokevirtual 239, 3) := by decide +kernel
theorem dX11_mostAt_9 : decode cX11_mostAt 9 = .ok (.ifCond .ne 9, 3) := by decide +kernel
theorem dX11_mostAt_12 : decode cX11_mostAt 12 = .ok (.aload_n 0, 1) := by decide +kernel
theorem dX11_mostAt_13 : decode cX11_mostAt 13 = .ok (.iconst 1, 1) := by decide +kernel
theorem dX11_mostAt_14 : decode cX11_mostAt 14 = .ok (.invokevirtual 150, 3) := by decide +kernel
theorem dX11_mostAt_17 : decode cX11_mostAt 17 = .ok (.ireturn, 1) := by decide +kernel
theorem dX11_mostAt_18 : decode cX11_mostAt 18 = .ok (.iconst 0, 1) := by decide +kernel
theorem dX11_mostAt_19 : decode cX11_mostAt 19 = .ok (.istore_n 2, 1) := by decide +kernel
theorem dX11_mostAt_20 : decode cX11_mostAt 20 = .ok (.iconst (-1), 1) := by decide +kernel
theorem dX11_mostAt_21 : decode cX11_mostAt 21 = .ok (.istore_n 3, 1) := by decide +kernel
theorem dX11_mostAt_22 : decode cX11_mostAt 22 = .ok (.iconst 0, 1) := by decide +kernel
theorem dX11_mostAt_23 : decode cX11_mostAt 23 = .ok (.istore 4, 2) := by decide +kernel
theorem dX11_mostAt_25 : decode cX11_mostAt 25 = .ok (.iload 4, 2) := by decide +kernel
theorem dX11_mostAt_27 : decode cX11_mostAt 27 = .ok (.aload_n 0, 1) := by decide +kernel
theorem dX11_mostAt_28 : decode cX11_mostAt 28 = .ok (.getfield 20, 3) := by decide +kernel
theorem dX11_mostAt_31 : decode cX11_mostAt 31 = .ok (.iconst 4, 1) := by decide +kernel
theorem dX11_mostAt_32 : decode cX11_mostAt 32 = .ok (.iload_n 1, 1) := by decide +kernel
theorem dX11_mostAt_33 : decode cX11_mostAt 33 = .ok (.iadd, 1) := by decide +kernel
theorem dX11_mostAt_34 : decode cX11_mostAt 34 = .ok (.iaload, 1) := by decide +kernel
theorem dX11_mostAt_35 : decode cX11_mostAt 35 = .ok (.if_icmp .gt 39, 3) := by decide +kernel
theorem dX11_mostAt_38 : decode cX11_mostAt 38 = .ok (.aload_n 0, 1) := by decide +kernel
theorem dX11_mostAt_39 : decode cX11_mostAt 39 = .ok (.iload_n 1, 1) := by decide +kernel
theorem dX11_mostAt_40 : decode cX11_mostAt 40 = .ok (.iload 4, 2) := by decide +kernel
theorem dX11_mostAt_42 : decode cX11_mostAt 42 = .ok (.iconst 0, 1) := by decide +kernel
theorem dX11_mostAt_43 : decode cX11_mostAt 43 = .ok (.iconst 0, 1) := by decide +kernel
theorem dX11_mostAt_44 : decode cX11_mostAt 44 = .ok (.invokevirtual 166, 3) := by decide +kernel
theorem dX11_mostAt_47 : decode cX11_mostAt 47 = .ok (.aload_n 0, 1) := by decide +kernel
theorem dX11_mostAt_48 : decode cX11_mostAt 48 = .ok (.invokevirtual 251, 3) := by decide +kernel
theorem dX11_mostAt_51 : decode cX11_mostAt 51 = .ok (.istore 5, 2) := by decide +kernel
theorem dX11_mostAt_53 : decode cX11_mostAt 53 = .ok (.iload 5, 2) := by decide +kernel
theorem dX11_mostAt_55 : decode cX11_mostAt 55 = .ok (.iload_n 3, 1) := by decide +kernel
theorem dX11_mostAt_56 : decode cX11_mostAt 56 = .ok (.if_icmp .gt 6, 3) := by decide +kernel
theorem dX11_mostAt_59 : decode cX11_mostAt 59 = .ok (.goto 9, 3) := by decide +kernel
theorem dX11_mostAt_62 : decode cX11_mostAt 62 = .ok (.iload 4, 2) := by decide +kernel
theorem dX11_mostAt_64 : decode cX11_mostAt 64 = .ok (.istore_n 2, 1) := by decide +kernel
theorem dX11_mostAt_65 : decode cX11_mostAt 65 = .ok (.iload 5, 2) := by decide +kernel
theorem dX11_mostAt_67 : decode cX11_mostAt 67 = .ok (.istore_n 3, 1) := by decide +kernel
theorem dX11_mostAt_68 : decode cX11_mostAt 68 = .ok (.iinc 4 1, 3) := by decide +kernel
theorem dX11_mostAt_71 : decode cX11_mostAt 71 = .ok (.goto (-46), 3) := by decide +kernel
theorem dX11_mostAt_74 : decode cX11_mostAt 74 = .ok (.iload_n 2, 1) := by decide +kernel
theorem dX11_mostAt_75 : decode cX11_mostAt 75 = .ok (.ireturn, 1) := by decide +kernel
theorem dX11_areCorners_0 : decode cX11_areCorners 0 = .ok (.iload_n 1, 1) := by decide +kernel
theorem dX11_areCorners_1 : decode cX11_areCorners 1 = .ok (.iconst 0, 1) := by decide +kernel
theorem dX11_areCorners_2 : decode cX11_areCorners 2 = .ok (.iconst 3, 1) := by decide +kernel
theorem dX11_areCorners_3 : decode cX11_areCorners 3 = .ok (.invokestatic 143, 3) := by decide +kernel
theorem dX11_areCorners_6 : decode cX11_areCorners 6 = .ok (.ifCond .eq 21, 3) := by decide +kernel
theorem dX11_areCorners_9 : decode cX11_areCorners 9 = .ok (.iload_n 2, 1) := by decide +kernel
theorem dX11_areCorners_10 : decode cX11_areCorners 10 = .ok (.iconst 0, 1) := by decide +kernel
theorem dX11_areCorners_11 : decode cX11_areCorners 11 = .ok (.iconst 3, 1) := by decide +kernel
theorem dX11_areCorners_12 : decode cX11_areCorners 12 = .ok (.invokestatic 143, 3) := by decide +kernel
theorem dX11_areCorners_15 : decode cX11_areCorners 15 = .ok (.ifCond .eq 12, 3) := by decide +kernel
theorem dX11_areCorners_18 : decode cX11_areCorners 18 = .ok (.iload_n 1, 1) := by decide +kernel
theorem dX11_areCorners_19 : decode cX11_areCorners 19 = .ok (.iload_n 2, 1) := by decide +kernel
theorem dX11_areCorners_20 : decode cX11_areCorners 20 = .ok (.if_icmp .eq 7, 3) := by decide +kernel
theorem dX11_areCorners_23 : decode cX11_areCorners 23 = .ok (.iconst 1, 1) := by decide +kernel
theorem dX11_areCorners_24 : decode cX11_areCorners 24 = .ok (.goto 4, 3) := by decide +kernel
theorem dX11_areCorners_27 : decode cX11_areCorners 27 = .ok (.iconst 0, 1) := by decide +kernel
theorem dX11_areCorners_28 : decode cX11_areCorners 28 = .ok (.ireturn, 1) := by decide +kernel
theorem dX11_goesFirst_0 : decode cX11_goesFirst 0 = .ok (.aload_n 0, 1) := by decide +kernel
theorem dX11_goesFirst_1 : decode cX11_goesFirst 1 = .ok (.invokevirtual 147, 3) := by decide +kernel
theorem dX11_goesFirst_4 : decode cX11_goesFirst 4 = .ok (.aload_n 0, 1) := by decide +kernel
theorem dX11_goesFirst_5 : decode cX11_goesFirst 5 = .ok (.iload_n 1, 1) := by decide +kernel
theorem dX11_goesFirst_6 : decode cX11_goesFirst 6 = .ok (.invokevirtual 239, 3) := by decide +kernel
theorem dX11_goesFirst_9 : decode cX11_goesFirst 9 = .ok (.ifCond .eq 12, 3) := by decide +kernel
theorem dX11_goesFirst_12 : decode cX11_goesFirst 12 = .ok (.aload_n 0, 1) := by decide +kernel
theorem dX11_goesFirst_13 : decode cX11_goesFirst 13 = .ok (.iload_n 2, 1) := by decide +kernel
theorem dX11_goesFirst_14 : decode cX11_goesFirst 14 = .ok (.iload_n 3, 1) := by decide +kernel
theorem dX11_goesFirst_15 : decode cX11_goesFirst 15 = .ok (.invokevirtual 257, 3) := by decide +kernel
theorem dX11_goesFirst_18 : decode cX11_goesFirst 18 = .ok (.ifCond .ne 9, 3) := by decide +kernel
theorem dX11_goesFirst_21 : decode cX11_goesFirst 21 = .ok (.aload_n 0, 1) := by decide +kernel
theorem dX11_goesFirst_22 : decode cX11_goesFirst 22 = .ok (.iconst 1, 1) := by decide +kernel
theorem dX11_goesFirst_23 : decode cX11_goesFirst 23 = .ok (.invokevirtual 150, 3) := by decide +kernel
theorem dX11_goesFirst_26 : decode cX11_goesFirst 26 = .ok (.ireturn, 1) := by decide +kernel
theorem dX11_goesFirst_27 : decode cX11_goesFirst 27 = .ok (.iconst 0, 1) := by decide +kernel
theorem dX11_goesFirst_28 : decode cX11_goesFirst 28 = .ok (.istore 4, 2) := by decide +kernel
theorem dX11_goesFirst_30 : decode cX11_goesFirst 30 = .ok (.iload 4, 2) := by decide +kernel
theorem dX11_goesFirst_32 : decode cX11_goesFirst 32 = .ok (.aload_n 0, 1) := by decide +kernel
theorem dX11_goesFirst_33 : decode cX11_goesFirst 33 = .ok (.getfield 20, 3) := by decide +kernel
theorem dX11_goesFirst_36 : decode cX11_goesFirst 36 = .ok (.iconst 4, 1) := by decide +kernel
theorem dX11_goesFirst_37 : decode cX11_goesFirst 37 = .ok (.iload_n 1, 1) := by decide +kernel
theorem dX11_goesFirst_38 : decode cX11_goesFirst 38 = .ok (.iadd, 1) := by decide +kernel
theorem dX11_goesFirst_39 : decode cX11_goesFirst 39 = .ok (.iaload, 1) := by decide +kernel
theorem dX11_goesFirst_40 : decode cX11_goesFirst 40 = .ok (.if_icmp .gt 30, 3) := by decide +kernel
theorem dX11_goesFirst_43 : decode cX11_goesFirst 43 = .ok (.aload_n 0, 1) := by decide +kernel
theorem dX11_goesFirst_44 : decode cX11_goesFirst 44 = .ok (.iload_n 1, 1) := by decide +kernel
theorem dX11_goesFirst_45 : decode cX11_goesFirst 45 = .ok (.iload 4, 2) := by decide +kernel
theorem dX11_goesFirst_47 : decode cX11_goesFirst 47 = .ok (.iconst 0, 1) := by decide +kernel
theorem dX11_goesFirst_48 : decode cX11_goesFirst 48 = .ok (.iconst 0, 1) := by decide +kernel
theorem dX11_goesFirst_49 : decode cX11_goesFirst 49 = .ok (.invokevirtual 166, 3) := by decide +kernel
theorem dX11_goesFirst_52 : decode cX11_goesFirst 52 = .ok (.aload_n 0, 1) := by decide +kernel
theorem dX11_goesFirst_53 : decode cX11_goesFirst 53 = .ok (.iload_n 2, 1) := by decide +kernel
theorem dX11_goesFirst_54 : decode cX11_goesFirst 54 = .ok (.invokevirtual 248, 3) := by decide +kernel
theorem dX11_goesFirst_57 : decode cX11_goesFirst 57 = .ok (.iload_n 3, 1) := by decide +kernel
theorem dX11_goesFirst_58 : decode cX11_goesFirst 58 = .ok (.if_icmp .ne 6, 3) := by decide +kernel
theorem dX11_goesFirst_61 : decode cX11_goesFirst 61 = .ok (.iload 4, 2) := by decide +kernel
theorem dX11_goesFirst_63 : decode cX11_goesFirst 63 = .ok (.ireturn, 1) := by decide +kernel
theorem dX11_goesFirst_64 : decode cX11_goesFirst 64 = .ok (.iinc 4 1, 3) := by decide +kernel
theorem dX11_goesFirst_67 : decode cX11_goesFirst 67 = .ok (.goto (-37), 3) := by decide +kernel
theorem dX11_goesFirst_70 : decode cX11_goesFirst 70 = .ok (.bipush (-2), 2) := by decide +kernel
theorem dX11_goesFirst_72 : decode cX11_goesFirst 72 = .ok (.ireturn, 1) := by decide +kernel
theorem dX11_again_0 : decode cX11_again 0 = .ok (.aload_n 0, 1) := by decide +kernel
theorem dX11_again_1 : decode cX11_again 1 = .ok (.invokevirtual 147, 3) := by decide +kernel
theorem dX11_again_4 : decode cX11_again 4 = .ok (.aload_n 0, 1) := by decide +kernel
theorem dX11_again_5 : decode cX11_again 5 = .ok (.iload_n 1, 1) := by decide +kernel
theorem dX11_again_6 : decode cX11_again 6 = .ok (.invokevirtual 239, 3) := by decide +kernel
theorem dX11_again_9 : decode cX11_again 9 = .ok (.ifCond .ne 9, 3) := by decide +kernel
theorem dX11_again_12 : decode cX11_again 12 = .ok (.aload_n 0, 1) := by decide +kernel
theorem dX11_again_13 : decode cX11_again 13 = .ok (.iconst 1, 1) := by decide +kernel
theorem dX11_again_14 : decode cX11_again 14 = .ok (.invokevirtual 150, 3) := by decide +kernel
theorem dX11_again_17 : decode cX11_again 17 = .ok (.ireturn, 1) := by decide +kernel
theorem dX11_again_18 : decode cX11_again 18 = .ok (.aload_n 0, 1) := by decide +kernel
theorem dX11_again_19 : decode cX11_again 19 = .ok (.iconst 0, 1) := by decide +kernel
theorem dX11_again_20 : decode cX11_again 20 = .ok (.putfield 169, 3) := by decide +kernel
theorem dX11_again_23 : decode cX11_again 23 = .ok (.aload_n 0, 1) := by decide +kernel
theorem dX11_again_24 : decode cX11_again 24 = .ok (.iconst 1, 1) := by decide +kernel
theorem dX11_again_25 : decode cX11_again 25 = .ok (.putfield 172, 3) := by decide +kernel
theorem dX11_again_28 : decode cX11_again 28 = .ok (.iconst 1, 1) := by decide +kernel
theorem dX11_again_29 : decode cX11_again 29 = .ok (.istore_n 2, 1) := by decide +kernel
theorem dX11_again_30 : decode cX11_again 30 = .ok (.iload_n 2, 1) := by decide +kernel
theorem dX11_again_31 : decode cX11_again 31 = .ok (.bipush 60, 2) := by decide +kernel
theorem dX11_again_33 : decode cX11_again 33 = .ok (.if_icmp .gt 62, 3) := by decide +kernel
theorem dX11_again_36 : decode cX11_again 36 = .ok (.iconst 0, 1) := by decide +kernel
theorem dX11_again_37 : decode cX11_again 37 = .ok (.istore_n 3, 1) := by decide +kernel
theorem dX11_again_38 : decode cX11_again 38 = .ok (.iload_n 3, 1) := by decide +kernel
theorem dX11_again_39 : decode cX11_again 39 = .ok (.aload_n 0, 1) := by decide +kernel
theorem dX11_again_40 : decode cX11_again 40 = .ok (.getfield 20, 3) := by decide +kernel
theorem dX11_again_43 : decode cX11_again 43 = .ok (.iconst 4, 1) := by decide +kernel
theorem dX11_again_44 : decode cX11_again 44 = .ok (.iload_n 1, 1) := by decide +kernel
theorem dX11_again_45 : decode cX11_again 45 = .ok (.iadd, 1) := by decide +kernel
theorem dX11_again_46 : decode cX11_again 46 = .ok (.iaload, 1) := by decide +kernel
theorem dX11_again_47 : decode cX11_again 47 = .ok (.if_icmp .ge 33, 3) := by decide +kernel
theorem dX11_again_50 : decode cX11_again 50 = .ok (.aload_n 0, 1) := by decide +kernel
theorem dX11_again_51 : decode cX11_again 51 = .ok (.aload_n 0, 1) := by decide +kernel
theorem dX11_again_52 : decode cX11_again 52 = .ok (.getfield 20, 3) := by decide +kernel
theorem dX11_again_55 : decode cX11_again 55 = .ok (.bipush 9, 2) := by decide +kernel
theorem dX11_again_57 : decode cX11_again 57 = .ok (.bipush 12, 2) := by decide +kernel
theorem dX11_again_59 : decode cX11_again 59 = .ok (.iload_n 1, 1) := by decide +kernel
theorem dX11_again_60 : decode cX11_again 60 = .ok (.imul, 1) := by decide +kernel
theorem dX11_again_61 : decode cX11_again 61 = .ok (.iadd, 1) := by decide +kernel
theorem dX11_again_62 : decode cX11_again 62 = .ok (.iload_n 3, 1) := by decide +kernel
theorem dX11_again_63 : decode cX11_again 63 = .ok (.iadd, 1) := by decide +kernel
theorem dX11_again_64 : decode cX11_again 64 = .ok (.iaload, 1) := by decide +kernel
theorem dX11_again_65 : decode cX11_again 65 = .ok (.invokevirtual 260, 3) := by decide +kernel
theorem dX11_again_68 : decode cX11_again 68 = .ok (.ifCond .ne 6, 3) := by decide +kernel
theorem dX11_again_71 : decode cX11_again 71 = .ok (.bipush (-2), 2) := by decide +kernel
theorem dX11_again_73 : decode cX11_again 73 = .ok (.ireturn, 1) := by decide +kernel
theorem dX11_again_74 : decode cX11_again 74 = .ok (.iinc 3 1, 3) := by decide +kernel
theorem dX11_again_77 : decode cX11_again 77 = .ok (.goto (-39), 3) := by decide +kernel
theorem dX11_again_80 : decode cX11_again 80 = .ok (.aload_n 0, 1) := by decide +kernel
theorem dX11_again_81 : decode cX11_again 81 = .ok (.invokevirtual 263, 3) := by decide +kernel
theorem dX11_again_84 : decode cX11_again 84 = .ok (.ifCond .eq 5, 3) := by decide +kernel
theorem dX11_again_87 : decode cX11_again 87 = .ok (.iload_n 2, 1) := by decide +kernel
theorem dX11_again_88 : decode cX11_again 88 = .ok (.ireturn, 1) := by decide +kernel
theorem dX11_again_89 : decode cX11_again 89 = .ok (.iinc 2 1, 3) := by decide +kernel
theorem dX11_again_92 : decode cX11_again 92 = .ok (.goto (-62), 3) := by decide +kernel
theorem dX11_again_95 : decode cX11_again 95 = .ok (.bipush (-2), 2) := by decide +kernel
theorem dX11_again_97 : decode cX11_again 97 = .ok (.ireturn, 1) := by decide +kernel
theorem dX11_layRow_0 : decode cX11_layRow 0 = .ok (.aload_n 2, 1) := by decide +kernel
theorem dX11_layRow_1 : decode cX11_layRow 1 = .ok (.iconst 0, 1) := by decide +kernel
theorem dX11_layRow_2 : decode cX11_layRow 2 = .ok (.iconst 1, 1) := by decide +kernel
theorem dX11_layRow_3 : decode cX11_layRow 3 = .ok (.iastore, 1) := by decide +kernel
theorem dX11_layRow_4 : decode cX11_layRow 4 = .ok (.aload_n 2, 1) := by decide +kernel
theorem dX11_layRow_5 : decode cX11_layRow 5 = .ok (.iconst 1, 1) := by decide +kernel
theorem dX11_layRow_6 : decode cX11_layRow 6 = .ok (.iconst 0, 1) := by decide +kernel
theorem dX11_layRow_7 : decode cX11_layRow 7 = .ok (.iastore, 1) := by decide +kernel
theorem dX11_layRow_8 : decode cX11_layRow 8 = .ok (.aload_n 2, 1) := by decide +kernel
theorem dX11_layRow_9 : decode cX11_layRow 9 = .ok (.iconst 2, 1) := by decide +kernel
theorem dX11_layRow_10 : decode cX11_layRow 10 = .ok (.iconst 0, 1) := by decide +kernel
theorem dX11_layRow_11 : decode cX11_layRow 11 = .ok (.iastore, 1) := by decide +kernel
theorem dX11_layRow_12 : decode cX11_layRow 12 = .ok (.aload_n 2, 1) := by decide +kernel
theorem dX11_layRow_13 : decode cX11_layRow 13 = .ok (.iconst 3, 1) := by decide +kernel
theorem dX11_layRow_14 : decode cX11_layRow 14 = .ok (.iconst 1, 1) := by decide +kernel
theorem dX11_layRow_15 : decode cX11_layRow 15 = .ok (.iastore, 1) := by decide +kernel
theorem dX11_layRow_16 : decode cX11_layRow 16 = .ok (.iconst 0, 1) := by decide +kernel
theorem dX11_layRow_17 : decode cX11_layRow 17 = .ok (.istore_n 3, 1) := by decide +kernel
theorem dX11_layRow_18 : decode cX11_layRow 18 = .ok (.iload_n 3, 1) := by decide +kernel
theorem dX11_layRow_19 : decode cX11_layRow 19 = .ok (.aload_n 0, 1) := by decide +kernel
theorem dX11_layRow_20 : decode cX11_layRow 20 = .ok (.getfield 20, 3) := by decide +kernel
theorem dX11_layRow_23 : decode cX11_layRow 23 = .ok (.iconst 4, 1) := by decide +kernel
theorem dX11_layRow_24 : decode cX11_layRow 24 = .ok (.iload_n 1, 1) := by decide +kernel
theorem dX11_layRow_25 : decode cX11_layRow 25 = .ok (.iadd, 1) := by decide +kernel
theorem dX11_layRow_26 : decode cX11_layRow 26 = .ok (.iaload, 1) := by decide +kernel
theorem dX11_layRow_27 : decode cX11_layRow 27 = .ok (.if_icmp .ge 110, 3) := by decide +kernel
theorem dX11_layRow_30 : decode cX11_layRow 30 = .ok (.aload_n 0, 1) := by decide +kernel
theorem dX11_layRow_31 : decode cX11_layRow 31 = .ok (.getfield 20, 3) := by decide +kernel
theorem dX11_layRow_34 : decode cX11_layRow 34 = .ok (.bipush 9, 2) := by decide +kernel
theorem dX11_layRow_36 : decode cX11_layRow 36 = .ok (.bipush 12, 2) := by decide +kernel
theorem dX11_layRow_38 : decode cX11_layRow 38 = .ok (.iload_n 1, 1) := by decide +kernel
theorem dX11_layRow_39 : decode cX11_layRow 39 = .ok (.imul, 1) := by decide +kernel
theorem dX11_layRow_40 : decode cX11_layRow 40 = .ok (.iadd, 1) := by decide +kernel
theorem dX11_layRow_41 : decode cX11_layRow 41 = .ok (.iload_n 3, 1) := by decide +kernel
theorem dX11_layRow_42 : decode cX11_layRow 42 = .ok (.iadd, 1) := by decide +kernel
theorem dX11_layRow_43 : decode cX11_layRow 43 = .ok (.iaload, 1) := by decide +kernel
theorem dX11_layRow_44 : decode cX11_layRow 44 = .ok (.istore 4, 2) := by decide +kernel
theorem dX11_layRow_46 : decode cX11_layRow 46 = .ok (.aload_n 2, 1) := by decide +kernel
theorem dX11_layRow_47 : decode cX11_layRow 47 = .ok (.iconst 0, 1) := by decide +kernel
theorem dX11_layRow_48 : decode cX11_layRow 48 = .ok (.iaload, 1) := by decide +kernel
theorem dX11_layRow_49 : decode cX11_layRow 49 = .ok (.istore 5, 2) := by decide +kernel
theorem dX11_layRow_51 : decode cX11_layRow 51 = .ok (.aload_n 2, 1) := by decide +kernel
theorem dX11_layRow_52 : decode cX11_layRow 52 = .ok (.iconst 1, 1) := by decide +kernel
theorem dX11_layRow_53 : decode cX11_layRow 53 = .ok (.iaload, 1) := by decide +kernel
theorem dX11_layRow_54 : decode cX11_layRow 54 = .ok (.istore 6, 2) := by decide +kernel
theorem dX11_layRow_56 : decode cX11_layRow 56 = .ok (.iload 4, 2) := by decide +kernel
theorem dX11_layRow_58 : decode cX11_layRow 58 = .ok (.iconst 2, 1) := by decide +kernel
theorem dX11_layRow_59 : decode cX11_layRow 59 = .ok (.if_icmp .ne 30, 3) := by decide +kernel
theorem dX11_layRow_62 : decode cX11_layRow 62 = .ok (.aload_n 2, 1) := by decide +kernel
theorem dX11_layRow_63 : decode cX11_layRow 63 = .ok (.iconst 0, 1) := by decide +kernel
theorem dX11_layRow_64 : decode cX11_layRow 64 = .ok (.aload_n 2, 1) := by decide +kernel
theorem dX11_layRow_65 : decode cX11_layRow 65 = .ok (.iconst 2, 1) := by decide +kernel
theorem dX11_layRow_66 : decode cX11_layRow 66 = .ok (.iaload, 1) := by decide +kernel
theorem dX11_layRow_67 : decode cX11_layRow 67 = .ok (.ineg, 1) := by decide +kernel
theorem dX11_layRow_68 : decode cX11_layRow 68 = .ok (.iastore, 1) := by decide +kernel
theorem dX11_layRow_69 : decode cX11_layRow 69 = .ok (.aload_n 2, 1) := by decide +kernel
theorem dX11_layRow_70 : decode cX11_layRow 70 = .ok (.iconst 1, 1) := by decide +kernel
theorem dX11_layRow_71 : decode cX11_layRow 71 = .ok (.aload_n 2, 1) := by decide +kernel
theorem dX11_layRow_72 : decode cX11_layRow 72 = .ok (.iconst 3, 1) := by decide +kernel
theorem dX11_layRow_73 : decode cX11_layRow 73 = .ok (.iaload, 1) := by decide +kernel
theorem dX11_layRow_74 : decode cX11_layRow 74 = .ok (.ineg, 1) := by decide +kernel
theorem dX11_layRow_75 : decode cX11_layRow 75 = .ok (.iastore, 1) := by decide +kernel
theorem dX11_layRow_76 : decode cX11_layRow 76 = .ok (.aload_n 2, 1) := by decide +kernel
theorem dX11_layRow_77 : decode cX11_layRow 77 = .ok (.iconst 2, 1) := by decide +kernel
theorem dX11_layRow_78 : decode cX11_layRow 78 = .ok (.iload 5, 2) := by decide +kernel
theorem dX11_layRow_80 : decode cX11_layRow 80 = .ok (.iastore, 1) := by decide +kernel
theorem dX11_layRow_81 : decode cX11_layRow 81 = .ok (.aload_n 2, 1) := by decide +kernel
theorem dX11_layRow_82 : decode cX11_layRow 82 = .ok (.iconst 3, 1) := by decide +kernel
theorem dX11_layRow_83 : decode cX11_layRow 83 = .ok (.iload 6, 2) := by decide +kernel
theorem dX11_layRow_85 : decode cX11_layRow 85 = .ok (.iastore, 1) := by decide +kernel
theorem dX11_layRow_86 : decode cX11_layRow 86 = .ok (.goto 45, 3) := by decide +kernel
theorem dX11_layRow_89 : decode cX11_layRow 89 = .ok (.aload_n 2, 1) := by decide +kernel
theorem dX11_layRow_90 : decode cX11_layRow 90 = .ok (.iconst 0, 1) := by decide +kernel
theorem dX11_layRow_91 : decode cX11_layRow 91 = .ok (.dup2, 1) := by decide +kernel
theorem dX11_layRow_92 : decode cX11_layRow 92 = .ok (.iaload, 1) := by decide +kernel
theorem dX11_layRow_93 : decode cX11_layRow 93 = .ok (.iload 4, 2) := by decide +kernel
theorem dX11_layRow_95 : decode cX11_layRow 95 = .ok (.ifCond .ne 9, 3) := by decide +kernel
theorem dX11_layRow_98 : decode cX11_layRow 98 = .ok (.aload_n 2, 1) := by decide +kernel
theorem dX11_layRow_99 : decode cX11_layRow 99 = .ok (.iconst 2, 1) := by decide +kernel
theorem dX11_layRow_100 : decode cX11_layRow 100 = .ok (.iaload, 1) := by decide +kernel
theorem dX11_layRow_101 : decode cX11_layRow 101 = .ok (.goto 7, 3) := by decide +kernel
theorem dX11_layRow_104 : decode cX11_layRow 104 = .ok (.aload_n 2, 1) := by decide +kernel
theorem dX11_layRow_105 : decode cX11_layRow 105 = .ok (.iconst 2, 1) := by decide +kernel
theorem dX11_layRow_106 : decode cX11_layRow 106 = .ok (.iaload, 1) := by decide +kernel
theorem dX11_layRow_107 : decode cX11_layRow 107 = .ok (.ineg, 1) := by decide +kernel
theorem dX11_layRow_108 : decode cX11_layRow 108 = .ok (.iadd, 1) := by decide +kernel
theorem dX11_layRow_109 : decode cX11_layRow 109 = .ok (.iastore, 1) := by decide +kernel
theorem dX11_layRow_110 : decode cX11_layRow 110 = .ok (.aload_n 2, 1) := by decide +kernel
theorem dX11_layRow_111 : decode cX11_layRow 111 = .ok (.iconst 1, 1) := by decide +kernel
theorem dX11_layRow_112 : decode cX11_layRow 112 = .ok (.dup2, 1) := by decide +kernel
theorem dX11_layRow_113 : decode cX11_layRow 113 = .ok (.iaload, 1) := by decide +kernel
theorem dX11_layRow_114 : decode cX11_layRow 114 = .ok (.iload 4, 2) := by decide +kernel
theorem dX11_layRow_116 : decode cX11_layRow 116 = .ok (.ifCond .ne 9, 3) := by decide +kernel
theorem dX11_layRow_119 : decode cX11_layRow 119 = .ok (.aload_n 2, 1) := by decide +kernel
theorem dX11_layRow_120 : decode cX11_layRow 120 = .ok (.iconst 3, 1) := by decide +kernel
theorem dX11_layRow_121 : decode cX11_layRow 121 = .ok (.iaload, 1) := by decide +kernel
theorem dX11_layRow_122 : decode cX11_layRow 122 = .ok (.goto 7, 3) := by decide +kernel
theorem dX11_layRow_125 : decode cX11_layRow 125 = .ok (.aload_n 2, 1) := by decide +kernel
theorem dX11_layRow_126 : decode cX11_layRow 126 = .ok (.iconst 3, 1) := by decide +kernel
theorem dX11_layRow_127 : decode cX11_layRow 127 = .ok (.iaload, 1) := by decide +kernel
theorem dX11_layRow_128 : decode cX11_layRow 128 = .ok (.ineg, 1) := by decide +kernel
theorem dX11_layRow_129 : decode cX11_layRow 129 = .ok (.iadd, 1) := by decide +kernel
theorem dX11_layRow_130 : decode cX11_layRow 130 = .ok (.iastore, 1) := by decide +kernel
theorem dX11_layRow_131 : decode cX11_layRow 131 = .ok (.iinc 3 1, 3) := by decide +kernel
theorem dX11_layRow_134 : decode cX11_layRow 134 = .ok (.goto (-116), 3) := by decide +kernel
theorem dX11_layRow_137 : decode cX11_layRow 137 = .ok (.return_, 1) := by decide +kernel
theorem dX11_trace_0 : decode cX11_trace 0 = .ok (.aload_n 0, 1) := by decide +kernel
theorem dX11_trace_1 : decode cX11_trace 1 = .ok (.invokevirtual 147, 3) := by decide +kernel
theorem dX11_trace_4 : decode cX11_trace 4 = .ok (.aload_n 0, 1) := by decide +kernel
theorem dX11_trace_5 : decode cX11_trace 5 = .ok (.iload_n 1, 1) := by decide +kernel
theorem dX11_trace_6 : decode cX11_trace 6 = .ok (.invokevirtual 239, 3) := by decide +kernel
theorem dX11_trace_9 : decode cX11_trace 9 = .ok (.ifCond .ne 9, 3) := by decide +kernel
theorem dX11_trace_12 : decode cX11_trace 12 = .ok (.aload_n 0, 1) := by decide +kernel
theorem dX11_trace_13 : decode cX11_trace 13 = .ok (.iconst 1, 1) := by decide +kernel
theorem dX11_trace_14 : decode cX11_trace 14 = .ok (.invokevirtual 150, 3) := by decide +kernel
theorem dX11_trace_17 : decode cX11_trace 17 = .ok (.ireturn, 1) := by decide +kernel
theorem dX11_trace_18 : decode cX11_trace 18 = .ok (.aload_n 0, 1) := by decide +kernel
theorem dX11_trace_19 : decode cX11_trace 19 = .ok (.iload_n 1, 1) := by decide +kernel
theorem dX11_trace_20 : decode cX11_trace 20 = .ok (.aload_n 0, 1) := by decide +kernel
theorem dX11_trace_21 : decode cX11_trace 21 = .ok (.getfield 38, 3) := by decide +kernel
theorem dX11_trace_24 : decode cX11_trace 24 = .ok (.invokevirtual 266, 3) := by decide +kernel
theorem dX11_trace_27 : decode cX11_trace 27 = .ok (.aload_n 0, 1) := by decide +kernel
theorem dX11_trace_28 : decode cX11_trace 28 = .ok (.getfield 38, 3) := by decide +kernel
theorem dX11_trace_31 : decode cX11_trace 31 = .ok (.iconst 0, 1) := by decide +kernel
theorem dX11_trace_32 : decode cX11_trace 32 = .ok (.iaload, 1) := by decide +kernel
theorem dX11_trace_33 : decode cX11_trace 33 = .ok (.aload_n 0, 1) := by decide +kernel
theorem dX11_trace_34 : decode cX11_trace 34 = .ok (.getfield 38, 3) := by decide +kernel
theorem dX11_trace_37 : decode cX11_trace 37 = .ok (.iconst 3, 1) := by decide +kernel
theorem dX11_trace_38 : decode cX11_trace 38 = .ok (.iaload, 1) := by decide +kernel
theorem dX11_trace_39 : decode cX11_trace 39 = .ok (.iadd, 1) := by decide +kernel
theorem dX11_trace_40 : decode cX11_trace 40 = .ok (.invokestatic 60, 3) := by decide +kernel
theorem dX11_trace_43 : decode cX11_trace 43 = .ok (.ireturn, 1) := by decide +kernel
theorem dX11_sameDance_0 : decode cX11_sameDance 0 = .ok (.aload_n 0, 1) := by decide +kernel
theorem dX11_sameDance_1 : decode cX11_sameDance 1 = .ok (.invokevirtual 147, 3) := by decide +kernel
theorem dX11_sameDance_4 : decode cX11_sameDance 4 = .ok (.aload_n 0, 1) := by decide +kernel
theorem dX11_sameDance_5 : decode cX11_sameDance 5 = .ok (.iload_n 1, 1) := by decide +kernel
theorem dX11_sameDance_6 : decode cX11_sameDance 6 = .ok (.invokevirtual 239, 3) := by decide +kernel
theorem dX11_sameDance_9 : decode cX11_sameDance 9 = .ok (.ifCond .eq 11, 3) := by decide +kernel
theorem dX11_sameDance_12 : decode cX11_sameDance 12 = .ok (.aload_n 0, 1) := by decide +kernel
theorem dX11_sameDance_13 : decode cX11_sameDance 13 = .ok (.iload_n 2, 1) := by decide +kernel
theorem dX11_sameDance_14 : decode cX11_sameDance 14 = .ok (.invokevirtual 239, 3) := by decide +kernel
theorem dX11_sameDance_17 : decode cX11_sameDance 17 = .ok (.ifCond .ne 9, 3) := by decide +kernel
theorem dX11_sameDance_20 : decode cX11_sameDance 20 = .ok (.aload_n 0, 1) := by decide +kernel
theorem dX11_sameDance_21 : decode cX11_sameDance 21 = .ok (.iconst 1, 1) := by decide +kernel
theorem dX11_sameDance_22 : decode cX11_sameDance 22 = .ok (.invokevirtual 150, 3) := by decide +kernel
theorem dX11_sameDance_25 : decode cX11_sameDance 25 = .ok (.ireturn, 1) := by decide +kernel
theorem dX11_sameDance_26 : decode cX11_sameDance 26 = .ok (.aload_n 0, 1) := by decide +kernel
theorem dX11_sameDance_27 : decode cX11_sameDance 27 = .ok (.iload_n 1, 1) := by decide +kernel
theorem dX11_sameDance_28 : decode cX11_sameDance 28 = .ok (.aload_n 0, 1) := by decide +kernel
theorem dX11_sameDance_29 : decode cX11_sameDance 29 = .ok (.getfield 38, 3) := by decide +kernel
theorem dX11_sameDance_32 : decode cX11_sameDance 32 = .ok (.invokevirtual 266, 3) := by decide +kernel
theorem dX11_sameDance_35 : decode cX11_sameDance 35 = .ok (.aload_n 0, 1) := by decide +kernel
theorem dX11_sameDance_36 : decode cX11_sameDance 36 = .ok (.iload_n 2, 1) := by decide +kernel
theorem dX11_sameDance_37 : decode cX11_sameDance 37 = .ok (.aload_n 0, 1) := by decide +kernel
theorem dX11_sameDance_38 : decode cX11_sameDance 38 = .ok (.getfield 41, 3) := by decide +kernel
theorem dX11_sameDance_41 : decode cX11_sameDance 41 = .ok (.invokevirtual 266, 3) := by decide +kernel
theorem dX11_sameDance_44 : decode cX11_sameDance 44 = .ok (.iconst 1, 1) := by decide +kernel
theorem dX11_sameDance_45 : decode cX11_sameDance 45 = .ok (.istore_n 3, 1) := by decide +kernel
theorem dX11_sameDance_46 : decode cX11_sameDance 46 = .ok (.iconst 1, 1) := by decide +kernel
theorem dX11_sameDance_47 : decode cX11_sameDance 47 = .ok (.istore 4, 2) := by decide +kernel
theorem dX11_sameDance_49 : decode cX11_sameDance 49 = .ok (.iconst 0, 1) := by decide +kernel
theorem dX11_sameDance_50 : decode cX11_sameDance 50 = .ok (.istore 5, 2) := by decide +kernel
theorem dX11_sameDance_52 : decode cX11_sameDance 52 = .ok (.iload 5, 2) := by decide +kernel
theorem dX11_sameDance_54 : decode cX11_sameDance 54 = .ok (.iconst 4, 1) := by decide +kernel
theorem dX11_sameDance_55 : decode cX11_sameDance 55 = .ok (.if_icmp .ge 66, 3) := by decide +kernel
theorem dX11_sameDance_58 : decode cX11_sameDance 58 = .ok (.iload_n 3, 1) := by decide +kernel
theorem dX11_sameDance_59 : decode cX11_sameDance 59 = .ok (.ifCond .eq 24, 3) := by decide +kernel
theorem dX11_sameDance_62 : decode cX11_sameDance 62 = .ok (.aload_n 0, 1) := by decide +kernel
theorem dX11_sameDance_63 : decode cX11_sameDance 63 = .ok (.getfield 38, 3) := by decide +kernel
theorem dX11_sameDance_66 : decode cX11_sameDance 66 = .ok (.iload 5, 2) := by decide +kernel
theorem dX11_sameDance_68 : decode cX11_sameDance 68 = .ok (.iaload, 1) := by decide +kernel
theorem dX11_sameDance_69 : decode cX11_sameDance 69 = .ok (.aload_n 0, 1) := by decide +kernel
theorem dX11_sameDance_70 : decode cX11_sameDance 70 = .ok (.getfield 41, 3) := by decide +kernel
theorem dX11_sameDance_73 : decode cX11_sameDance 73 = .ok (.iload 5, 2) := by decide +kernel
theorem dX11_sameDance_75 : decode cX11_sameDance 75 = .ok (.iaload, 1) := by decide +kernel
theorem dX11_sameDance_76 : decode cX11_sameDance 76 = .ok (.if_icmp .ne 7, 3) := by decide +kernel
theorem dX11_sameDance_79 : decode cX11_sameDance 79 = .ok (.iconst 1, 1) := by decide +kernel
theorem dX11_sameDance_80 : decode cX11_sameDance 80 = .ok (.goto 4, 3) := by decide +kernel
theorem dX11_sameDance_83 : decode cX11_sameDance 83 = .ok (.iconst 0, 1) := by decide +kernel
theorem dX11_sameDance_84 : decode cX11_sameDance 84 = .ok (.istore_n 3, 1) := by decide +kernel
theorem dX11_sameDance_85 : decode cX11_sameDance 85 = .ok (.iload 4, 2) := by decide +kernel
theorem dX11_sameDance_87 : decode cX11_sameDance 87 = .ok (.ifCond .eq 25, 3) := by decide +kernel
theorem dX11_sameDance_90 : decode cX11_sameDance 90 = .ok (.aload_n 0, 1) := by decide +kernel
theorem dX11_sameDance_91 : decode cX11_sameDance 91 = .ok (.getfield 38, 3) := by decide +kernel
theorem dX11_sameDance_94 : decode cX11_sameDance 94 = .ok (.iload 5, 2) := by decide +kernel
theorem dX11_sameDance_96 : decode cX11_sameDance 96 = .ok (.iaload, 1) := by decide +kernel
theorem dX11_sameDance_97 : decode cX11_sameDance 97 = .ok (.aload_n 0, 1) := by decide +kernel
theorem dX11_sameDance_98 : decode cX11_sameDance 98 = .ok (.getfield 41, 3) := by decide +kernel
theorem dX11_sameDance_101 : decode cX11_sameDance 101 = .ok (.iload 5, 2) := by decide +kernel
theorem dX11_sameDance_103 : decode cX11_sameDance 103 = .ok (.iaload, 1) := by decide +kernel
theorem dX11_sameDance_104 : decode cX11_sameDance 104 = .ok (.ineg, 1) := by decide +kernel
theorem dX11_sameDance_105 : decode cX11_sameDance 105 = .ok (.if_icmp .ne 7, 3) := by decide +kernel
theorem dX11_sameDance_108 : decode cX11_sameDance 108 = .ok (.iconst 1, 1) := by decide +kernel
theorem dX11_sameDance_109 : decode cX11_sameDance 109 = .ok (.goto 4, 3) := by decide +kernel
theorem dX11_sameDance_112 : decode cX11_sameDance 112 = .ok (.iconst 0, 1) := by decide +kernel
theorem dX11_sameDance_113 : decode cX11_sameDance 113 = .ok (.istore 4, 2) := by decide +kernel
theorem dX11_sameDance_115 : decode cX11_sameDance 115 = .ok (.iinc 5 1, 3) := by decide +kernel
theorem dX11_sameDance_118 : decode cX11_sameDance 118 = .ok (.goto (-66), 3) := by decide +kernel
theorem dX11_sameDance_121 : decode cX11_sameDance 121 = .ok (.iload_n 3, 1) := by decide +kernel
theorem dX11_sameDance_122 : decode cX11_sameDance 122 = .ok (.ifCond .ne 8, 3) := by decide +kernel
theorem dX11_sameDance_125 : decode cX11_sameDance 125 = .ok (.iload 4, 2) := by decide +kernel
theorem dX11_sameDance_127 : decode cX11_sameDance 127 = .ok (.ifCond .eq 7, 3) := by decide +kernel
theorem dX11_sameDance_130 : decode cX11_sameDance 130 = .ok (.iconst 1, 1) := by decide +kernel
theorem dX11_sameDance_131 : decode cX11_sameDance 131 = .ok (.goto 4, 3) := by decide +kernel
theorem dX11_sameDance_134 : decode cX11_sameDance 134 = .ok (.iconst 0, 1) := by decide +kernel
theorem dX11_sameDance_135 : decode cX11_sameDance 135 = .ok (.ireturn, 1) := by decide +kernel
theorem dX11_seekUntied_0 : decode cX11_seekUntied 0 = .ok (.aload_n 0, 1) := by decide +kernel
theorem dX11_seekUntied_1 : decode cX11_seekUntied 1 = .ok (.iload_n 1, 1) := by decide +kernel
theorem dX11_seekUntied_2 : decode cX11_seekUntied 2 = .ok (.invokevirtual 245, 3) := by decide +kernel
theorem dX11_seekUntied_5 : decode cX11_seekUntied 5 = .ok (.aload_n 0, 1) := by decide +kernel
theorem dX11_seekUntied_6 : decode cX11_seekUntied 6 = .ok (.iconst 0, 1) := by decide +kernel
theorem dX11_seekUntied_7 : decode cX11_seekUntied 7 = .ok (.putfield 270, 3) := by decide +kernel
theorem dX11_seekUntied_10 : decode cX11_seekUntied 10 = .ok (.aload_n 0, 1) := by decide +kernel
theorem dX11_seekUntied_11 : decode cX11_seekUntied 11 = .ok (.iconst 0, 1) := by decide +kernel
theorem dX11_seekUntied_12 : decode cX11_seekUntied 12 = .ok (.putfield 273, 3) := by decide +kernel
theorem dX11_seekUntied_15 : decode cX11_seekUntied 15 = .ok (.aload_n 0, 1) := by decide +kernel
theorem dX11_seekUntied_16 : decode cX11_seekUntied 16 = .ok (.aload_n 0, 1) := by decide +kernel
theorem dX11_seekUntied_17 : decode cX11_seekUntied 17 = .ok (.getfield 172, 3) := by decide +kernel
theorem dX11_seekUntied_20 : decode cX11_seekUntied 20 = .ok (.putfield 276, 3) := by decide +kernel
theorem dX11_seekUntied_23 : decode cX11_seekUntied 23 = .ok (.aload_n 0, 1) := by decide +kernel
theorem dX11_seekUntied_24 : decode cX11_seekUntied 24 = .ok (.iconst (-1), 1) := by decide +kernel
theorem dX11_seekUntied_25 : decode cX11_seekUntied 25 = .ok (.putfield 279, 3) := by decide +kernel
theorem dX11_seekUntied_28 : decode cX11_seekUntied 28 = .ok (.aload_n 0, 1) := by decide +kernel
theorem dX11_seekUntied_29 : decode cX11_seekUntied 29 = .ok (.invokevirtual 263, 3) := by decide +kernel
theorem dX11_seekUntied_32 : decode cX11_seekUntied 32 = .ok (.ifCond .ne 92, 3) := by decide +kernel
theorem dX11_seekUntied_35 : decode cX11_seekUntied 35 = .ok (.aload_n 0, 1) := by decide +kernel
theorem dX11_seekUntied_36 : decode cX11_seekUntied 36 = .ok (.getfield 169, 3) := by decide +kernel
theorem dX11_seekUntied_39 : decode cX11_seekUntied 39 = .ok (.ifCond .ge 7, 3) := by decide +kernel
theorem dX11_seekUntied_42 : decode cX11_seekUntied 42 = .ok (.iconst 0, 1) := by decide +kernel
theorem dX11_seekUntied_43 : decode cX11_seekUntied 43 = .ok (.goto 4, 3) := by decide +kernel
theorem dX11_seekUntied_46 : decode cX11_seekUntied 46 = .ok (.iconst 2, 1) := by decide +kernel
theorem dX11_seekUntied_47 : decode cX11_seekUntied 47 = .ok (.istore_n 3, 1) := by decide +kernel
theorem dX11_seekUntied_48 : decode cX11_seekUntied 48 = .ok (.aload_n 0, 1) := by decide +kernel
theorem dX11_seekUntied_49 : decode cX11_seekUntied 49 = .ok (.getfield 270, 3) := by decide +kernel
theorem dX11_seekUntied_52 : decode cX11_seekUntied 52 = .ok (.iload_n 2, 1) := by decide +kernel
theorem dX11_seekUntied_53 : decode cX11_seekUntied 53 = .ok (.if_icmp .ne 8, 3) := by decide +kernel
theorem dX11_seekUntied_56 : decode cX11_seekUntied 56 = .ok (.aload_n 0, 1) := by decide +kernel
theorem dX11_seekUntied_57 : decode cX11_seekUntied 57 = .ok (.iload_n 3, 1) := by decide +kernel
theorem dX11_seekUntied_58 : decode cX11_seekUntied 58 = .ok (.putfield 279, 3) := by decide +kernel
theorem dX11_seekUntied_61 : decode cX11_seekUntied 61 = .ok (.aload_n 0, 1) := by decide +kernel
theorem dX11_seekUntied_62 : decode cX11_seekUntied 62 = .ok (.dup, 1) := by decide +kernel
theorem dX11_seekUntied_63 : decode cX11_seekUntied 63 = .ok (.getfield 273, 3) := by decide +kernel
theorem dX11_seekUntied_66 : decode cX11_seekUntied 66 = .ok (.iload_n 3, 1) := by decide +kernel
theorem dX11_seekUntied_67 : decode cX11_seekUntied 67 = .ok (.iconst 2, 1) := by decide +kernel
theorem dX11_seekUntied_68 : decode cX11_seekUntied 68 = .ok (.if_icmp .ne 7, 3) := by decide +kernel
theorem dX11_seekUntied_71 : decode cX11_seekUntied 71 = .ok (.iconst 1, 1) := by decide +kernel
theorem dX11_seekUntied_72 : decode cX11_seekUntied 72 = .ok (.goto 4, 3) := by decide +kernel
theorem dX11_seekUntied_75 : decode cX11_seekUntied 75 = .ok (.iconst 0, 1) := by decide +kernel
theorem dX11_seekUntied_76 : decode cX11_seekUntied 76 = .ok (.iadd, 1) := by decide +kernel
theorem dX11_seekUntied_77 : decode cX11_seekUntied 77 = .ok (.putfield 273, 3) := by decide +kernel
theorem dX11_seekUntied_80 : decode cX11_seekUntied 80 = .ok (.aload_n 0, 1) := by decide +kernel
theorem dX11_seekUntied_81 : decode cX11_seekUntied 81 = .ok (.dup, 1) := by decide +kernel
theorem dX11_seekUntied_82 : decode cX11_seekUntied 82 = .ok (.getfield 270, 3) := by decide +kernel
theorem dX11_seekUntied_85 : decode cX11_seekUntied 85 = .ok (.iconst 1, 1) := by decide +kernel
theorem dX11_seekUntied_86 : decode cX11_seekUntied 86 = .ok (.iadd, 1) := by decide +kernel
theorem dX11_seekUntied_87 : decode cX11_seekUntied 87 = .ok (.putfield 270, 3) := by decide +kernel
theorem dX11_seekUntied_90 : decode cX11_seekUntied 90 = .ok (.aload_n 0, 1) := by decide +kernel
theorem dX11_seekUntied_91 : decode cX11_seekUntied 91 = .ok (.iload_n 3, 1) := by decide +kernel
theorem dX11_seekUntied_92 : decode cX11_seekUntied 92 = .ok (.invokevirtual 225, 3) := by decide +kernel
theorem dX11_seekUntied_95 : decode cX11_seekUntied 95 = .ok (.aload_n 0, 1) := by decide +kernel
theorem dX11_seekUntied_96 : decode cX11_seekUntied 96 = .ok (.aload_n 0, 1) := by decide +kernel
theorem dX11_seekUntied_97 : decode cX11_seekUntied 97 = .ok (.getfield 172, 3) := by decide +kernel
theorem dX11_seekUntied_100 : decode cX11_seekUntied 100 = .ok (.aload_n 0, 1) := by decide +kernel
theorem dX11_seekUntied_101 : decode cX11_seekUntied 101 = .ok (.getfield 276, 3) := by decide +kernel
theorem dX11_seekUntied_104 : decode cX11_seekUntied 104 = .ok (.if_icmp .le 10, 3) := by decide +kernel
theorem dX11_seekUntied_107 : decode cX11_seekUntied 107 = .ok (.aload_n 0, 1) := by decide +kernel
theorem dX11_seekUntied_108 : decode cX11_seekUntied 108 = .ok (.getfield 172, 3) := by decide +kernel
theorem dX11_seekUntied_111 : decode cX11_seekUntied 111 = .ok (.goto 7, 3) := by decide +kernel
theorem dX11_seekUntied_114 : decode cX11_seekUntied 114 = .ok (.aload_n 0, 1) := by decide +kernel
theorem dX11_seekUntied_115 : decode cX11_seekUntied 115 = .ok (.getfield 276, 3) := by decide +kernel
theorem dX11_seekUntied_118 : decode cX11_seekUntied 118 = .ok (.putfield 276, 3) := by decide +kernel
theorem dX11_seekUntied_121 : decode cX11_seekUntied 121 = .ok (.goto (-93), 3) := by decide +kernel
theorem dX11_seekUntied_124 : decode cX11_seekUntied 124 = .ok (.return_, 1) := by decide +kernel
theorem dX11_untie_0 : decode cX11_untie 0 = .ok (.aload_n 0, 1) := by decide +kernel
theorem dX11_untie_1 : decode cX11_untie 1 = .ok (.invokevirtual 147, 3) := by decide +kernel
theorem dX11_untie_4 : decode cX11_untie 4 = .ok (.aload_n 0, 1) := by decide +kernel
theorem dX11_untie_5 : decode cX11_untie 5 = .ok (.iload_n 1, 1) := by decide +kernel
theorem dX11_untie_6 : decode cX11_untie 6 = .ok (.invokevirtual 239, 3) := by decide +kernel
theorem dX11_untie_9 : decode cX11_untie 9 = .ok (.ifCond .ne 9, 3) := by decide +kernel
theorem dX11_untie_12 : decode cX11_untie 12 = .ok (.aload_n 0, 1) := by decide +kernel
theorem dX11_untie_13 : decode cX11_untie 13 = .ok (.iconst 1, 1) := by decide +kernel
theorem dX11_untie_14 : decode cX11_untie 14 = .ok (.invokevirtual 150, 3) := by decide +kernel
theorem dX11_untie_17 : decode cX11_untie 17 = .ok (.ireturn, 1) := by decide +kernel
theorem dX11_untie_18 : decode cX11_untie 18 = .ok (.aload_n 0, 1) := by decide +kernel
theorem dX11_untie_19 : decode cX11_untie 19 = .ok (.iload_n 1, 1) := by decide +kernel
theorem dX11_untie_20 : decode cX11_untie 20 = .ok (.iconst (-1), 1) := by decide +kernel
theorem dX11_untie_21 : decode cX11_untie 21 = .ok (.invokevirtual 282, 3) := by decide +kernel
theorem dX11_untie_24 : decode cX11_untie 24 = .ok (.aload_n 0, 1) := by decide +kernel
theorem dX11_untie_25 : decode cX11_untie 25 = .ok (.getfield 270, 3) := by decide +kernel
theorem dX11_untie_28 : decode cX11_untie 28 = .ok (.ireturn, 1) := by decide +kernel
theorem dX11_turnsOf_0 : decode cX11_turnsOf 0 = .ok (.aload_n 0, 1) := by decide +kernel
theorem dX11_turnsOf_1 : decode cX11_turnsOf 1 = .ok (.invokevirtual 147, 3) := by decide +kernel
theorem dX11_turnsOf_4 : decode cX11_turnsOf 4 = .ok (.aload_n 0, 1) := by decide +kernel
theorem dX11_turnsOf_5 : decode cX11_turnsOf 5 = .ok (.iload_n 1, 1) := by decide +kernel
theorem dX11_turnsOf_6 : decode cX11_turnsOf 6 = .ok (.invokevirtual 239, 3) := by decide +kernel
theorem dX11_turnsOf_9 : decode cX11_turnsOf 9 = .ok (.ifCond .ne 9, 3) := by decide +kernel
theorem dX11_turnsOf_12 : decode cX11_turnsOf 12 = .ok (.aload_n 0, 1) := by decide +kernel
theorem dX11_turnsOf_13 : decode cX11_turnsOf 13 = .ok (.iconst 1, 1) := by decide +kernel
theorem dX11_turnsOf_14 : decode cX11_turnsOf 14 = .ok (.invokevirtual 150, 3) := by decide +kernel
theorem dX11_turnsOf_17 : decode cX11_turnsOf 17 = .ok (.ireturn, 1) := by decide +kernel
theorem dX11_turnsOf_18 : decode cX11_turnsOf 18 = .ok (.aload_n 0, 1) := by decide +kernel
theorem dX11_turnsOf_19 : decode cX11_turnsOf 19 = .ok (.iload_n 1, 1) := by decide +kernel
theorem dX11_turnsOf_20 : decode cX11_turnsOf 20 = .ok (.iconst (-1), 1) := by decide +kernel
theorem dX11_turnsOf_21 : decode cX11_turnsOf 21 = .ok (.invokevirtual 282, 3) := by decide +kernel
theorem dX11_turnsOf_24 : decode cX11_turnsOf 24 = .ok (.aload_n 0, 1) := by decide +kernel
theorem dX11_turnsOf_25 : decode cX11_turnsOf 25 = .ok (.getfield 273, 3) := by decide +kernel
theorem dX11_turnsOf_28 : decode cX11_turnsOf 28 = .ok (.ireturn, 1) := by decide +kernel
theorem dX11_untieAt_0 : decode cX11_untieAt 0 = .ok (.aload_n 0, 1) := by decide +kernel
theorem dX11_untieAt_1 : decode cX11_untieAt 1 = .ok (.invokevirtual 147, 3) := by decide +kernel
theorem dX11_untieAt_4 : decode cX11_untieAt 4 = .ok (.aload_n 0, 1) := by decide +kernel
theorem dX11_untieAt_5 : decode cX11_untieAt 5 = .ok (.iload_n 1, 1) := by decide +kernel
theorem dX11_untieAt_6 : decode cX11_untieAt 6 = .ok (.invokevirtual 239, 3) := by decide +kernel
theorem dX11_untieAt_9 : decode cX11_untieAt 9 = .ok (.ifCond .eq 7, 3) := by decide +kernel
theorem dX11_untieAt_12 : decode cX11_untieAt 12 = .ok (.iload_n 2, 1) := by decide +kernel
theorem dX11_untieAt_13 : decode cX11_untieAt 13 = .ok (.ifCond .ge 9, 3) := by decide +kernel
theorem dX11_untieAt_16 : decode cX11_untieAt 16 = .ok (.aload_n 0, 1) := by decide +kernel
theorem dX11_untieAt_17 : decode cX11_untieAt 17 = .ok (.iconst 1, 1) := by decide +kernel
theorem dX11_untieAt_18 : decode cX11_untieAt 18 = .ok (.invokevirtual 150, 3) := by decide +kernel
theorem dX11_untieAt_21 : decode cX11_untieAt 21 = .ok (.ireturn, 1) := by decide +kernel
theorem dX11_untieAt_22 : decode cX11_untieAt 22 = .ok (.aload_n 0, 1) := by decide +kernel
theorem dX11_untieAt_23 : decode cX11_untieAt 23 = .ok (.iload_n 1, 1) := by decide +kernel
theorem dX11_untieAt_24 : decode cX11_untieAt 24 = .ok (.iload_n 2, 1) := by decide +kernel
theorem dX11_untieAt_25 : decode cX11_untieAt 25 = .ok (.invokevirtual 282, 3) := by decide +kernel
theorem dX11_untieAt_28 : decode cX11_untieAt 28 = .ok (.aload_n 0, 1) := by decide +kernel
theorem dX11_untieAt_29 : decode cX11_untieAt 29 = .ok (.getfield 279, 3) := by decide +kernel
theorem dX11_untieAt_32 : decode cX11_untieAt 32 = .ok (.ifCond .ge 11, 3) := by decide +kernel
theorem dX11_untieAt_35 : decode cX11_untieAt 35 = .ok (.aload_n 0, 1) := by decide +kernel
theorem dX11_untieAt_36 : decode cX11_untieAt 36 = .ok (.iconst 1, 1) := by decide +kernel
theorem dX11_untieAt_37 : decode cX11_untieAt 37 = .ok (.invokevirtual 150, 3) := by decide +kernel
theorem dX11_untieAt_40 : decode cX11_untieAt 40 = .ok (.goto 7, 3) := by decide +kernel
theorem dX11_untieAt_43 : decode cX11_untieAt 43 = .ok (.aload_n 0, 1) := by decide +kernel
theorem dX11_untieAt_44 : decode cX11_untieAt 44 = .ok (.getfield 279, 3) := by decide +kernel
theorem dX11_untieAt_47 : decode cX11_untieAt 47 = .ok (.ireturn, 1) := by decide +kernel
theorem dX11_widest_0 : decode cX11_widest 0 = .ok (.aload_n 0, 1) := by decide +kernel
theorem dX11_widest_1 : decode cX11_widest 1 = .ok (.invokevirtual 147, 3) := by decide +kernel
theorem dX11_widest_4 : decode cX11_widest 4 = .ok (.aload_n 0, 1) := by decide +kernel
theorem dX11_widest_5 : decode cX11_widest 5 = .ok (.iload_n 1, 1) := by decide +kernel
theorem dX11_widest_6 : decode cX11_widest 6 = .ok (.invokevirtual 239, 3) := by decide +kernel
theorem dX11_widest_9 : decode cX11_widest 9 = .ok (.ifCond .ne 9, 3) := by decide +kernel
theorem dX11_widest_12 : decode cX11_widest 12 = .ok (.aload_n 0, 1) := by decide +kernel
theorem dX11_widest_13 : decode cX11_widest 13 = .ok (.iconst 1, 1) := by decide +kernel
theorem dX11_widest_14 : decode cX11_widest 14 = .ok (.invokevirtual 150, 3) := by decide +kernel
theorem dX11_widest_17 : decode cX11_widest 17 = .ok (.ireturn, 1) := by decide +kernel
theorem dX11_widest_18 : decode cX11_widest 18 = .ok (.aload_n 0, 1) := by decide +kernel
theorem dX11_widest_19 : decode cX11_widest 19 = .ok (.iload_n 1, 1) := by decide +kernel
theorem dX11_widest_20 : decode cX11_widest 20 = .ok (.iconst (-1), 1) := by decide +kernel
theorem dX11_widest_21 : decode cX11_widest 21 = .ok (.invokevirtual 282, 3) := by decide +kernel
theorem dX11_widest_24 : decode cX11_widest 24 = .ok (.aload_n 0, 1) := by decide +kernel
theorem dX11_widest_25 : decode cX11_widest 25 = .ok (.getfield 276, 3) := by decide +kernel
theorem dX11_widest_28 : decode cX11_widest 28 = .ok (.ireturn, 1) := by decide +kernel
theorem dX11_isFraction_0 : decode cX11_isFraction 0 = .ok (.iload_n 2, 1) := by decide +kernel
theorem dX11_isFraction_1 : decode cX11_isFraction 1 = .ok (.ifCond .lt 24, 3) := by decide +kernel
theorem dX11_isFraction_4 : decode cX11_isFraction 4 = .ok (.iload_n 2, 1) := by decide +kernel
theorem dX11_isFraction_5 : decode cX11_isFraction 5 = .ok (.sipush 9999, 3) := by decide +kernel
theorem dX11_isFraction_8 : decode cX11_isFraction 8 = .ok (.if_icmp .gt 17, 3) := by decide +kernel
theorem dX11_isFraction_11 : decode cX11_isFraction 11 = .ok (.iload_n 1, 1) := by decide +kernel
theorem dX11_isFraction_12 : decode cX11_isFraction 12 = .ok (.sipush (-9999), 3) := by decide +kernel
theorem dX11_isFraction_15 : decode cX11_isFraction 15 = .ok (.if_icmp .lt 10, 3) := by decide +kernel
theorem dX11_isFraction_18 : decode cX11_isFraction 18 = .ok (.iload_n 1, 1) := by decide +kernel
theorem dX11_isFraction_19 : decode cX11_isFraction 19 = .ok (.sipush 9999, 3) := by decide +kernel
theorem dX11_isFraction_22 : decode cX11_isFraction 22 = .ok (.if_icmp .le 5, 3) := by decide +kernel
theorem dX11_isFraction_25 : decode cX11_isFraction 25 = .ok (.iconst 0, 1) := by decide +kernel
theorem dX11_isFraction_26 : decode cX11_isFraction 26 = .ok (.ireturn, 1) := by decide +kernel
theorem dX11_isFraction_27 : decode cX11_isFraction 27 = .ok (.iload_n 2, 1) := by decide +kernel
theorem dX11_isFraction_28 : decode cX11_isFraction 28 = .ok (.ifCond .ne 16, 3) := by decide +kernel
theorem dX11_isFraction_31 : decode cX11_isFraction 31 = .ok (.iload_n 1, 1) := by decide +kernel
theorem dX11_isFraction_32 : decode cX11_isFraction 32 = .ok (.iconst 1, 1) := by decide +kernel
theorem dX11_isFraction_33 : decode cX11_isFraction 33 = .ok (.if_icmp .ne 7, 3) := by decide +kernel
theorem dX11_isFraction_36 : decode cX11_isFraction 36 = .ok (.iconst 1, 1) := by decide +kernel
theorem dX11_isFraction_37 : decode cX11_isFraction 37 = .ok (.goto 21, 3) := by decide +kernel
theorem dX11_isFraction_40 : decode cX11_isFraction 40 = .ok (.iconst 0, 1) := by decide +kernel
theorem dX11_isFraction_41 : decode cX11_isFraction 41 = .ok (.goto 17, 3) := by decide +kernel
theorem dX11_isFraction_44 : decode cX11_isFraction 44 = .ok (.iload_n 1, 1) := by decide +kernel
theorem dX11_isFraction_45 : decode cX11_isFraction 45 = .ok (.iload_n 2, 1) := by decide +kernel
theorem dX11_isFraction_46 : decode cX11_isFraction 46 = .ok (.invokestatic 285, 3) := by decide +kernel
theorem dX11_isFraction_49 : decode cX11_isFraction 49 = .ok (.iconst 1, 1) := by decide +kernel
theorem dX11_isFraction_50 : decode cX11_isFraction 50 = .ok (.if_icmp .ne 7, 3) := by decide +kernel
theorem dX11_isFraction_53 : decode cX11_isFraction 53 = .ok (.iconst 1, 1) := by decide +kernel
theorem dX11_isFraction_54 : decode cX11_isFraction 54 = .ok (.goto 4, 3) := by decide +kernel
theorem dX11_isFraction_57 : decode cX11_isFraction 57 = .ok (.iconst 0, 1) := by decide +kernel
theorem dX11_isFraction_58 : decode cX11_isFraction 58 = .ok (.ireturn, 1) := by decide +kernel
theorem dX11_makes_0 : decode cX11_makes 0 = .ok (.iconst 1, 1) := by decide +kernel
theorem dX11_makes_1 : decode cX11_makes 1 = .ok (.istore_n 3, 1) := by decide +kernel
theorem dX11_makes_2 : decode cX11_makes 2 = .ok (.iconst 1, 1) := by decide +kernel
theorem dX11_makes_3 : decode cX11_makes 3 = .ok (.istore 4, 2) := by decide +kernel
theorem dX11_makes_5 : decode cX11_makes 5 = .ok (.iload 4, 2) := by decide +kernel
theorem dX11_makes_7 : decode cX11_makes 7 = .ok (.iload_n 2, 1) := by decide +kernel
theorem dX11_makes_8 : decode cX11_makes 8 = .ok (.if_icmp .ge 13, 3) := by decide +kernel
theorem dX11_makes_11 : decode cX11_makes 11 = .ok (.iload_n 3, 1) := by decide +kernel
theorem dX11_makes_12 : decode cX11_makes 12 = .ok (.iconst 3, 1) := by decide +kernel
theorem dX11_makes_13 : decode cX11_makes 13 = .ok (.imul, 1) := by decide +kernel
theorem dX11_makes_14 : decode cX11_makes 14 = .ok (.istore_n 3, 1) := by decide +kernel
theorem dX11_makes_15 : decode cX11_makes 15 = .ok (.iinc 4 1, 3) := by decide +kernel
theorem dX11_makes_18 : decode cX11_makes 18 = .ok (.goto (-13), 3) := by decide +kernel
theorem dX11_makes_21 : decode cX11_makes 21 = .ok (.iconst 0, 1) := by decide +kernel
theorem dX11_makes_22 : decode cX11_makes 22 = .ok (.istore 4, 2) := by decide +kernel
theorem dX11_makes_24 : decode cX11_makes 24 = .ok (.iload 4, 2) := by decide +kernel
theorem dX11_makes_26 : decode cX11_makes 26 = .ok (.iload_n 2, 1) := by decide +kernel
theorem dX11_makes_27 : decode cX11_makes 27 = .ok (.if_icmp .ge 36, 3) := by decide +kernel
theorem dX11_makes_30 : decode cX11_makes 30 = .ok (.aload_n 0, 1) := by decide +kernel
theorem dX11_makes_31 : decode cX11_makes 31 = .ok (.iload_n 1, 1) := by decide +kernel
theorem dX11_makes_32 : decode cX11_makes 32 = .ok (.iload_n 3, 1) := by decide +kernel
theorem dX11_makes_33 : decode cX11_makes 33 = .ok (.idiv, 1) := by decide +kernel
theorem dX11_makes_34 : decode cX11_makes 34 = .ok (.iconst 3, 1) := by decide +kernel
theorem dX11_makes_35 : decode cX11_makes 35 = .ok (.irem, 1) := by decide +kernel
theorem dX11_makes_36 : decode cX11_makes 36 = .ok (.invokevirtual 260, 3) := by decide +kernel
theorem dX11_makes_39 : decode cX11_makes 39 = .ok (.ifCond .ne 5, 3) := by decide +kernel
theorem dX11_makes_42 : decode cX11_makes 42 = .ok (.iconst 0, 1) := by decide +kernel
theorem dX11_makes_43 : decode cX11_makes 43 = .ok (.ireturn, 1) := by decide +kernel
theorem dX11_makes_44 : decode cX11_makes 44 = .ok (.iload_n 3, 1) := by decide +kernel
theorem dX11_makes_45 : decode cX11_makes 45 = .ok (.iconst 1, 1) := by decide +kernel
theorem dX11_makes_46 : decode cX11_makes 46 = .ok (.if_icmp .le 9, 3) := by decide +kernel
theorem dX11_makes_49 : decode cX11_makes 49 = .ok (.iload_n 3, 1) := by decide +kernel
theorem dX11_makes_50 : decode cX11_makes 50 = .ok (.iconst 3, 1) := by decide +kernel
theorem dX11_makes_51 : decode cX11_makes 51 = .ok (.idiv, 1) := by decide +kernel
theorem dX11_makes_52 : decode cX11_makes 52 = .ok (.goto 4, 3) := by decide +kernel
theorem dX11_makes_55 : decode cX11_makes 55 = .ok (.iconst 1, 1) := by decide +kernel
theorem dX11_makes_56 : decode cX11_makes 56 = .ok (.istore_n 3, 1) := by decide +kernel
theorem dX11_makes_57 : decode cX11_makes 57 = .ok (.iinc 4 1, 3) := by decide +kernel
theorem dX11_makes_60 : decode cX11_makes 60 = .ok (.goto (-36), 3) := by decide +kernel
theorem dX11_makes_63 : decode cX11_makes 63 = .ok (.iconst 1, 1) := by decide +kernel
theorem dX11_makes_64 : decode cX11_makes 64 = .ok (.ireturn, 1) := by decide +kernel
theorem dX11_comeCode_0 : decode cX11_comeCode 0 = .ok (.iconst 1, 1) := by decide +kernel
theorem dX11_comeCode_1 : decode cX11_comeCode 1 = .ok (.istore 4, 2) := by decide +kernel
theorem dX11_comeCode_3 : decode cX11_comeCode 3 = .ok (.iconst 0, 1) := by decide +kernel
theorem dX11_comeCode_4 : decode cX11_comeCode 4 = .ok (.istore 5, 2) := by decide +kernel
theorem dX11_comeCode_6 : decode cX11_comeCode 6 = .ok (.iload 5, 2) := by decide +kernel
theorem dX11_comeCode_8 : decode cX11_comeCode 8 = .ok (.bipush 7, 2) := by decide +kernel
theorem dX11_comeCode_10 : decode cX11_comeCode 10 = .ok (.if_icmp .gt 75, 3) := by decide +kernel
theorem dX11_comeCode_13 : decode cX11_comeCode 13 = .ok (.iconst 0, 1) := by decide +kernel
theorem dX11_comeCode_14 : decode cX11_comeCode 14 = .ok (.istore 6, 2) := by decide +kernel
theorem dX11_comeCode_16 : decode cX11_comeCode 16 = .ok (.iload 6, 2) := by decide +kernel
theorem dX11_comeCode_18 : decode cX11_comeCode 18 = .ok (.iload 4, 2) := by decide +kernel
theorem dX11_comeCode_20 : decode cX11_comeCode 20 = .ok (.if_icmp .ge 53, 3) := by decide +kernel
theorem dX11_comeCode_23 : decode cX11_comeCode 23 = .ok (.aload_n 0, 1) := by decide +kernel
theorem dX11_comeCode_24 : decode cX11_comeCode 24 = .ok (.iload_n 1, 1) := by decide +kernel
theorem dX11_comeCode_25 : decode cX11_comeCode 25 = .ok (.invokevirtual 245, 3) := by decide +kernel
theorem dX11_comeCode_28 : decode cX11_comeCode 28 = .ok (.aload_n 0, 1) := by decide +kernel
theorem dX11_comeCode_29 : decode cX11_comeCode 29 = .ok (.iload 6, 2) := by decide +kernel
theorem dX11_comeCode_31 : decode cX11_comeCode 31 = .ok (.iload 5, 2) := by decide +kernel
theorem dX11_comeCode_33 : decode cX11_comeCode 33 = .ok (.invokevirtual 288, 3) := by decide +kernel
theorem dX11_comeCode_36 : decode cX11_comeCode 36 = .ok (.ifCond .eq 31, 3) := by decide +kernel
theorem dX11_comeCode_39 : decode cX11_comeCode 39 = .ok (.aload_n 0, 1) := by decide +kernel
theorem dX11_comeCode_40 : decode cX11_comeCode 40 = .ok (.getfield 169, 3) := by decide +kernel
theorem dX11_comeCode_43 : decode cX11_comeCode 43 = .ok (.iload_n 2, 1) := by decide +kernel
theorem dX11_comeCode_44 : decode cX11_comeCode 44 = .ok (.if_icmp .ne 23, 3) := by decide +kernel
theorem dX11_comeCode_47 : decode cX11_comeCode 47 = .ok (.aload_n 0, 1) := by decide +kernel
theorem dX11_comeCode_48 : decode cX11_comeCode 48 = .ok (.getfield 172, 3) := by decide +kernel
theorem dX11_comeCode_51 : decode cX11_comeCode 51 = .ok (.iload_n 3, 1) := by decide +kernel
theorem dX11_comeCode_52 : decode cX11_comeCode 52 = .ok (.if_icmp .eq 6, 3) := by decide +kernel
theorem dX11_comeCode_55 : decode cX11_comeCode 55 = .ok (.goto 12, 3) := by decide +kernel
theorem dX11_comeCode_58 : decode cX11_comeCode 58 = .ok (.aload_n 0, 1) := by decide +kernel
theorem dX11_comeCode_59 : decode cX11_comeCode 59 = .ok (.iload 5, 2) := by decide +kernel
theorem dX11_comeCode_61 : decode cX11_comeCode 61 = .ok (.putfield 291, 3) := by decide +kernel
theorem dX11_comeCode_64 : decode cX11_comeCode 64 = .ok (.iload 6, 2) := by decide +kernel
theorem dX11_comeCode_66 : decode cX11_comeCode 66 = .ok (.ireturn, 1) := by decide +kernel
theorem dX11_comeCode_67 : decode cX11_comeCode 67 = .ok (.iinc 6 1, 3) := by decide +kernel
theorem dX11_comeCode_70 : decode cX11_comeCode 70 = .ok (.goto (-54), 3) := by decide +kernel
theorem dX11_comeCode_73 : decode cX11_comeCode 73 = .ok (.iload 4, 2) := by decide +kernel
theorem dX11_comeCode_75 : decode cX11_comeCode 75 = .ok (.iconst 3, 1) := by decide +kernel
theorem dX11_comeCode_76 : decode cX11_comeCode 76 = .ok (.imul, 1) := by decide +kernel
theorem dX11_comeCode_77 : decode cX11_comeCode 77 = .ok (.istore 4, 2) := by decide +kernel
theorem dX11_comeCode_79 : decode cX11_comeCode 79 = .ok (.iinc 5 1, 3) := by decide +kernel
theorem dX11_comeCode_82 : decode cX11_comeCode 82 = .ok (.goto (-76), 3) := by decide +kernel
theorem dX11_comeCode_85 : decode cX11_comeCode 85 = .ok (.aload_n 0, 1) := by decide +kernel
theorem dX11_comeCode_86 : decode cX11_comeCode 86 = .ok (.bipush (-2), 2) := by decide +kernel
theorem dX11_comeCode_88 : decode cX11_comeCode 88 = .ok (.putfield 291, 3) := by decide +kernel
theorem dX11_comeCode_91 : decode cX11_comeCode 91 = .ok (.bipush (-2), 2) := by decide +kernel
theorem dX11_comeCode_93 : decode cX11_comeCode 93 = .ok (.ireturn, 1) := by decide +kernel
theorem dX11_comeWhy_0 : decode cX11_comeWhy 0 = .ok (.aload_n 0, 1) := by decide +kernel
theorem dX11_comeWhy_1 : decode cX11_comeWhy 1 = .ok (.aload_n 0, 1) := by decide +kernel
theorem dX11_comeWhy_2 : decode cX11_comeWhy 2 = .ok (.iload_n 1, 1) := by decide +kernel
theorem dX11_comeWhy_3 : decode cX11_comeWhy 3 = .ok (.invokevirtual 239, 3) := by decide +kernel
theorem dX11_comeWhy_6 : decode cX11_comeWhy 6 = .ok (.aload_n 0, 1) := by decide +kernel
theorem dX11_comeWhy_7 : decode cX11_comeWhy 7 = .ok (.iload_n 2, 1) := by decide +kernel
theorem dX11_comeWhy_8 : decode cX11_comeWhy 8 = .ok (.iload_n 3, 1) := by decide +kernel
theorem dX11_comeWhy_9 : decode cX11_comeWhy 9 = .ok (.invokevirtual 294, 3) := by decide +kernel
theorem dX11_comeWhy_12 : decode cX11_comeWhy 12 = .ok (.invokevirtual 297, 3) := by decide +kernel
theorem dX11_comeWhy_15 : decode cX11_comeWhy 15 = .ok (.ireturn, 1) := by decide +kernel
theorem dX11_come_0 : decode cX11_come 0 = .ok (.aload_n 0, 1) := by decide +kernel
theorem dX11_come_1 : decode cX11_come 1 = .ok (.invokevirtual 147, 3) := by decide +kernel
theorem dX11_come_4 : decode cX11_come 4 = .ok (.aload_n 0, 1) := by decide +kernel
theorem dX11_come_5 : decode cX11_come 5 = .ok (.iload_n 1, 1) := by decide +kernel
theorem dX11_come_6 : decode cX11_come 6 = .ok (.iload_n 2, 1) := by decide +kernel
theorem dX11_come_7 : decode cX11_come 7 = .ok (.iload_n 3, 1) := by decide +kernel
theorem dX11_come_8 : decode cX11_come 8 = .ok (.invokevirtual 301, 3) := by decide +kernel
theorem dX11_come_11 : decode cX11_come 11 = .ok (.istore 4, 2) := by decide +kernel
theorem dX11_come_13 : decode cX11_come 13 = .ok (.iload 4, 2) := by decide +kernel
theorem dX11_come_15 : decode cX11_come 15 = .ok (.ifCond .eq 10, 3) := by decide +kernel
theorem dX11_come_18 : decode cX11_come 18 = .ok (.aload_n 0, 1) := by decide +kernel
theorem dX11_come_19 : decode cX11_come 19 = .ok (.iload 4, 2) := by decide +kernel
theorem dX11_come_21 : decode cX11_come 21 = .ok (.invokevirtual 150, 3) := by decide +kernel
theorem dX11_come_24 : decode cX11_come 24 = .ok (.ireturn, 1) := by decide +kernel
theorem dX11_come_25 : decode cX11_come 25 = .ok (.aload_n 0, 1) := by decide +kernel
theorem dX11_come_26 : decode cX11_come 26 = .ok (.iload_n 1, 1) := by decide +kernel
theorem dX11_come_27 : decode cX11_come 27 = .ok (.iload_n 2, 1) := by decide +kernel
theorem dX11_come_28 : decode cX11_come 28 = .ok (.iload_n 3, 1) := by decide +kernel
theorem dX11_come_29 : decode cX11_come 29 = .ok (.invokevirtual 305, 3) := by decide +kernel
theorem dX11_come_32 : decode cX11_come 32 = .ok (.pop, 1) := by decide +kernel
theorem dX11_come_33 : decode cX11_come 33 = .ok (.aload_n 0, 1) := by decide +kernel
theorem dX11_come_34 : decode cX11_come 34 = .ok (.getfield 291, 3) := by decide +kernel
theorem dX11_come_37 : decode cX11_come 37 = .ok (.ireturn, 1) := by decide +kernel
theorem dX11_comeRow_0 : decode cX11_comeRow 0 = .ok (.aload_n 0, 1) := by decide +kernel
theorem dX11_comeRow_1 : decode cX11_comeRow 1 = .ok (.invokevirtual 147, 3) := by decide +kernel
theorem dX11_comeRow_4 : decode cX11_comeRow 4 = .ok (.aload_n 0, 1) := by decide +kernel
theorem dX11_comeRow_5 : decode cX11_comeRow 5 = .ok (.iload_n 1, 1) := by decide +kernel
theorem dX11_comeRow_6 : decode cX11_comeRow 6 = .ok (.iload_n 2, 1) := by decide +kernel
theorem dX11_comeRow_7 : decode cX11_comeRow 7 = .ok (.iload_n 3, 1) := by decide +kernel
theorem dX11_comeRow_8 : decode cX11_comeRow 8 = .ok (.invokevirtual 301, 3) := by decide +kernel
theorem dX11_comeRow_11 : decode cX11_comeRow 11 = .ok (.istore 4, 2) := by decide +kernel
theorem dX11_comeRow_13 : decode cX11_comeRow 13 = .ok (.iload 4, 2) := by decide +kernel
theorem dX11_comeRow_15 : decode cX11_comeRow 15 = .ok (.ifCond .eq 10, 3) := by decide +kernel
theorem dX11_comeRow_18 : decode cX11_comeRow 18 = .ok (.aload_n 0, 1) := by decide +kernel
theorem dX11_comeRow_19 : decode cX11_comeRow 19 = .ok (.iload 4, 2) := by decide +kernel
theorem dX11_comeRow_21 : decode cX11_comeRow 21 = .ok (.invokevirtual 150, 3) := by decide +kernel
theorem dX11_comeRow_24 : decode cX11_comeRow 24 = .ok (.ireturn, 1) := by decide +kernel
theorem dX11_comeRow_25 : decode cX11_comeRow 25 = .ok (.aload_n 0, 1) := by decide +kernel
theorem dX11_comeRow_26 : decode cX11_comeRow 26 = .ok (.iload_n 1, 1) := by decide +kernel
theorem dX11_comeRow_27 : decode cX11_comeRow 27 = .ok (.iload_n 2, 1) := by decide +kernel
theorem dX11_comeRow_28 : decode cX11_comeRow 28 = .ok (.iload_n 3, 1) := by decide +kernel
theorem dX11_comeRow_29 : decode cX11_comeRow 29 = .ok (.invokevirtual 305, 3) := by decide +kernel
theorem dX11_comeRow_32 : decode cX11_comeRow 32 = .ok (.istore 5, 2) := by decide +kernel
theorem dX11_comeRow_34 : decode cX11_comeRow 34 = .ok (.iload 5, 2) := by decide +kernel
theorem dX11_comeRow_36 : decode cX11_comeRow 36 = .ok (.ifCond .ge 6, 3) := by decide +kernel
theorem dX11_comeRow_39 : decode cX11_comeRow 39 = .ok (.bipush (-2), 2) := by decide +kernel
theorem dX11_comeRow_41 : decode cX11_comeRow 41 = .ok (.ireturn, 1) := by decide +kernel
theorem dX11_comeRow_42 : decode cX11_comeRow 42 = .ok (.iconst 0, 1) := by decide +kernel
theorem dX11_comeRow_43 : decode cX11_comeRow 43 = .ok (.istore 6, 2) := by decide +kernel
theorem dX11_comeRow_45 : decode cX11_comeRow 45 = .ok (.iconst 1, 1) := by decide +kernel
theorem dX11_comeRow_46 : decode cX11_comeRow 46 = .ok (.istore 7, 2) := by decide +kernel
theorem dX11_comeRow_48 : decode cX11_comeRow 48 = .ok (.iconst 0, 1) := by decide +kernel
theorem dX11_comeRow_49 : decode cX11_comeRow 49 = .ok (.istore 8, 2) := by decide +kernel
theorem dX11_comeRow_51 : decode cX11_comeRow 51 = .ok (.iload 8, 2) := by decide +kernel
theorem dX11_comeRow_53 : decode cX11_comeRow 53 = .ok (.aload_n 0, 1) := by decide +kernel
theorem dX11_comeRow_54 : decode cX11_comeRow 54 = .ok (.getfield 291, 3) := by decide +kernel
theorem dX11_comeRow_57 : decode cX11_comeRow 57 = .ok (.if_icmp .ge 36, 3) := by decide +kernel
theorem dX11_comeRow_60 : decode cX11_comeRow 60 = .ok (.iload 6, 2) := by decide +kernel
theorem dX11_comeRow_62 : decode cX11_comeRow 62 = .ok (.iload 7, 2) := by decide +kernel
theorem dX11_comeRow_64 : decode cX11_comeRow 64 = .ok (.iconst 1, 1) := by decide +kernel
theorem dX11_comeRow_65 : decode cX11_comeRow 65 = .ok (.iload 5, 2) := by decide +kernel
theorem dX11_comeRow_67 : decode cX11_comeRow 67 = .ok (.iconst 3, 1) := by decide +kernel
theorem dX11_comeRow_68 : decode cX11_comeRow 68 = .ok (.irem, 1) := by decide +kernel
theorem dX11_comeRow_69 : decode cX11_comeRow 69 = .ok (.iadd, 1) := by decide +kernel
theorem dX11_comeRow_70 : decode cX11_comeRow 70 = .ok (.imul, 1) := by decide +kernel
theorem dX11_comeRow_71 : decode cX11_comeRow 71 = .ok (.iadd, 1) := by decide +kernel
theorem dX11_comeRow_72 : decode cX11_comeRow 72 = .ok (.istore 6, 2) := by decide +kernel
theorem dX11_comeRow_74 : decode cX11_comeRow 74 = .ok (.iload 5, 2) := by decide +kernel
theorem dX11_comeRow_76 : decode cX11_comeRow 76 = .ok (.iconst 3, 1) := by decide +kernel
theorem dX11_comeRow_77 : decode cX11_comeRow 77 = .ok (.idiv, 1) := by decide +kernel
theorem dX11_comeRow_78 : decode cX11_comeRow 78 = .ok (.istore 5, 2) := by decide +kernel
theorem dX11_comeRow_80 : decode cX11_comeRow 80 = .ok (.iload 7, 2) := by decide +kernel
theorem dX11_comeRow_82 : decode cX11_comeRow 82 = .ok (.bipush 10, 2) := by decide +kernel
theorem dX11_comeRow_84 : decode cX11_comeRow 84 = .ok (.imul, 1) := by decide +kernel
theorem dX11_comeRow_85 : decode cX11_comeRow 85 = .ok (.istore 7, 2) := by decide +kernel
theorem dX11_comeRow_87 : decode cX11_comeRow 87 = .ok (.iinc 8 1, 3) := by decide +kernel
theorem dX11_comeRow_90 : decode cX11_comeRow 90 = .ok (.goto (-39), 3) := by decide +kernel
theorem dX11_comeRow_93 : decode cX11_comeRow 93 = .ok (.iload 6, 2) := by decide +kernel
theorem dX11_comeRow_95 : decode cX11_comeRow 95 = .ok (.ireturn, 1) := by decide +kernel
theorem dX11_reach_0 : decode cX11_reach 0 = .ok (.aload_n 0, 1) := by decide +kernel
theorem dX11_reach_1 : decode cX11_reach 1 = .ok (.invokevirtual 147, 3) := by decide +kernel
theorem dX11_reach_4 : decode cX11_reach 4 = .ok (.aload_n 0, 1) := by decide +kernel
theorem dX11_reach_5 : decode cX11_reach 5 = .ok (.aload_n 0, 1) := by decide +kernel
theorem dX11_reach_6 : decode cX11_reach 6 = .ok (.getfield 163, 3) := by decide +kernel
theorem dX11_reach_9 : decode cX11_reach 9 = .ok (.iload_n 1, 1) := by decide +kernel
theorem dX11_reach_10 : decode cX11_reach 10 = .ok (.iconst 0, 1) := by decide +kernel
theorem dX11_reach_11 : decode cX11_reach 11 = .ok (.bipush 7, 2) := by decide +kernel
theorem dX11_reach_13 : decode cX11_reach 13 = .ok (.invokestatic 143, 3) := by decide +kernel
theorem dX11_reach_16 : decode cX11_reach 16 = .ok (.invokevirtual 297, 3) := by decide +kernel
theorem dX11_reach_19 : decode cX11_reach 19 = .ok (.istore_n 2, 1) := by decide +kernel
theorem dX11_reach_20 : decode cX11_reach 20 = .ok (.iload_n 2, 1) := by decide +kernel
theorem dX11_reach_21 : decode cX11_reach 21 = .ok (.ifCond .eq 9, 3) := by decide +kernel
theorem dX11_reach_24 : decode cX11_reach 24 = .ok (.aload_n 0, 1) := by decide +kernel
theorem dX11_reach_25 : decode cX11_reach 25 = .ok (.iload_n 2, 1) := by decide +kernel
theorem dX11_reach_26 : decode cX11_reach 26 = .ok (.invokevirtual 150, 3) := by decide +kernel
theorem dX11_reach_29 : decode cX11_reach 29 = .ok (.ireturn, 1) := by decide +kernel
theorem dX11_reach_30 : decode cX11_reach 30 = .ok (.iconst 1, 1) := by decide +kernel
theorem dX11_reach_31 : decode cX11_reach 31 = .ok (.istore_n 3, 1) := by decide +kernel
theorem dX11_reach_32 : decode cX11_reach 32 = .ok (.aload_n 0, 1) := by decide +kernel
theorem dX11_reach_33 : decode cX11_reach 33 = .ok (.getfield 44, 3) := by decide +kernel
theorem dX11_reach_36 : decode cX11_reach 36 = .ok (.iconst 0, 1) := by decide +kernel
theorem dX11_reach_37 : decode cX11_reach 37 = .ok (.iconst 0, 1) := by decide +kernel
theorem dX11_reach_38 : decode cX11_reach 38 = .ok (.iastore, 1) := by decide +kernel
theorem dX11_reach_39 : decode cX11_reach 39 = .ok (.aload_n 0, 1) := by decide +kernel
theorem dX11_reach_40 : decode cX11_reach 40 = .ok (.getfield 47, 3) := by decide +kernel
theorem dX11_reach_43 : decode cX11_reach 43 = .ok (.iconst 0, 1) := by decide +kernel
theorem dX11_reach_44 : decode cX11_reach 44 = .ok (.iconst 1, 1) := by decide +kernel
theorem dX11_reach_45 : decode cX11_reach 45 = .ok (.iastore, 1) := by decide +kernel
theorem dX11_reach_46 : decode cX11_reach 46 = .ok (.iconst 0, 1) := by decide +kernel
theorem dX11_reach_47 : decode cX11_reach 47 = .ok (.istore 4, 2) := by decide +kernel
theorem dX11_reach_49 : decode cX11_reach 49 = .ok (.iconst 0, 1) := by decide +kernel
theorem dX11_reach_50 : decode cX11_reach 50 = .ok (.istore 5, 2) := by decide +kernel
theorem dX11_reach_52 : decode cX11_reach 52 = .ok (.iload 5, 2) := by decide +kernel
theorem dX11_reach_54 : decode cX11_reach 54 = .ok (.iload_n 1, 1) := by decide +kernel
theorem dX11_reach_55 : decode cX11_reach 55 = .ok (.if_icmp .ge 171, 3) := by decide +kernel
theorem dX11_reach_58 : decode cX11_reach 58 = .ok (.iload_n 3, 1) := by decide +kernel
theorem dX11_reach_59 : decode cX11_reach 59 = .ok (.istore 6, 2) := by decide +kernel
theorem dX11_reach_61 : decode cX11_reach 61 = .ok (.iload 4, 2) := by decide +kernel
theorem dX11_reach_63 : decode cX11_reach 63 = .ok (.istore 7, 2) := by decide +kernel
theorem dX11_reach_65 : decode cX11_reach 65 = .ok (.iload 7, 2) := by decide +kernel
theorem dX11_reach_67 : decode cX11_reach 67 = .ok (.iload 6, 2) := by decide +kernel
theorem dX11_reach_69 : decode cX11_reach 69 = .ok (.if_icmp .ge 147, 3) := by decide +kernel
theorem dX11_reach_72 : decode cX11_reach 72 = .ok (.iconst 0, 1) := by decide +kernel
theorem dX11_reach_73 : decode cX11_reach 73 = .ok (.istore 8, 2) := by decide +kernel
theorem dX11_reach_75 : decode cX11_reach 75 = .ok (.iload 8, 2) := by decide +kernel
theorem dX11_reach_77 : decode cX11_reach 77 = .ok (.iconst 3, 1) := by decide +kernel
theorem dX11_reach_78 : decode cX11_reach 78 = .ok (.if_icmp .ge 132, 3) := by decide +kernel
theorem dX11_reach_81 : decode cX11_reach 81 = .ok (.aload_n 0, 1) := by decide +kernel
theorem dX11_reach_82 : decode cX11_reach 82 = .ok (.aload_n 0, 1) := by decide +kernel
theorem dX11_reach_83 : decode cX11_reach 83 = .ok (.getfield 44, 3) := by decide +kernel
theorem dX11_reach_86 : decode cX11_reach 86 = .ok (.iload 7, 2) := by decide +kernel
theorem dX11_reach_88 : decode cX11_reach 88 = .ok (.iaload, 1) := by decide +kernel
theorem dX11_reach_89 : decode cX11_reach 89 = .ok (.putfield 169, 3) := by decide +kernel
theorem dX11_reach_92 : decode cX11_reach 92 = .ok (.aload_n 0, 1) := by decide +kernel
theorem dX11_reach_93 : decode cX11_reach 93 = .ok (.aload_n 0, 1) := by decide +kernel
theorem dX11_reach_94 : decode cX11_reach 94 = .ok (.getfield 47, 3) := by decide +kernel
theorem dX11_reach_97 : decode cX11_reach 97 = .ok (.iload 7, 2) := by decide +kernel
theorem dX11_reach_99 : decode cX11_reach 99 = .ok (.iaload, 1) := by decide +kernel
theorem dX11_reach_100 : decode cX11_reach 100 = .ok (.putfield 172, 3) := by decide +kernel
theorem dX11_reach_103 : decode cX11_reach 103 = .ok (.aload_n 0, 1) := by decide +kernel
theorem dX11_reach_104 : decode cX11_reach 104 = .ok (.iload 8, 2) := by decide +kernel
theorem dX11_reach_106 : decode cX11_reach 106 = .ok (.invokevirtual 260, 3) := by decide +kernel
theorem dX11_reach_109 : decode cX11_reach 109 = .ok (.ifCond .ne 6, 3) := by decide +kernel
theorem dX11_reach_112 : decode cX11_reach 112 = .ok (.goto 92, 3) := by decide +kernel
theorem dX11_reach_115 : decode cX11_reach 115 = .ok (.iconst 1, 1) := by decide +kernel
theorem dX11_reach_116 : decode cX11_reach 116 = .ok (.istore 9, 2) := by decide +kernel
theorem dX11_reach_118 : decode cX11_reach 118 = .ok (.iconst 0, 1) := by decide +kernel
theorem dX11_reach_119 : decode cX11_reach 119 = .ok (.istore 10, 2) := by decide +kernel
theorem dX11_reach_121 : decode cX11_reach 121 = .ok (.iload 10, 2) := by decide +kernel
theorem dX11_reach_123 : decode cX11_reach 123 = .ok (.iload_n 3, 1) := by decide +kernel
theorem dX11_reach_124 : decode cX11_reach 124 = .ok (.if_icmp .ge 49, 3) := by decide +kernel
theorem dX11_reach_127 : decode cX11_reach 127 = .ok (.iload 9, 2) := by decide +kernel
theorem dX11_reach_129 : decode cX11_reach 129 = .ok (.ifCond .eq 44, 3) := by decide +kernel
theorem dX11_reach_132 : decode cX11_reach 132 = .ok (.aload_n 0, 1) := by decide +kernel
theorem dX11_reach_133 : decode cX11_reach 133 = .ok (.getfield 44, 3) := by decide +kernel
theorem dX11_reach_136 : decode cX11_reach 136 = .ok (.iload 10, 2) := by decide +kernel
theorem dX11_reach_138 : decode cX11_reach 138 = .ok (.iaload, 1) := by decide +kernel
theorem dX11_reach_139 : decode cX11_reach 139 = .ok (.aload_n 0, 1) := by decide +kernel
theorem dX11_reach_140 : decode cX11_reach 140 = .ok (.getfield 169, 3) := by decide +kernel
theorem dX11_reach_143 : decode cX11_reach 143 = .ok (.if_icmp .ne 17, 3) := by decide +kernel
theorem dX11_reach_146 : decode cX11_reach 146 = .ok (.aload_n 0, 1) := by decide +kernel
theorem dX11_reach_147 : decode cX11_reach 147 = .ok (.getfield 47, 3) := by decide +kernel
theorem dX11_reach_150 : decode cX11_reach 150 = .ok (.iload 10, 2) := by decide +kernel
theorem dX11_reach_152 : decode cX11_reach 152 = .ok (.iaload, 1) := by decide +kernel
theorem dX11_reach_153 : decode cX11_reach 153 = .ok (.aload_n 0, 1) := by decide +kernel
theorem dX11_reach_154 : decode cX11_reach 154 = .ok (.getfield 172, 3) := by decide +kernel
theorem dX11_reach_157 : decode cX11_reach 157 = .ok (.if_icmp .eq 7, 3) := by decide +kernel
theorem dX11_reach_160 : decode cX11_reach 160 = .ok (.iconst 1, 1) := by decide +kernel
theorem dX11_reach_161 : decode cX11_reach 161 = .ok (.goto 4, 3) := by decide +kernel
theorem dX11_reach_164 : decode cX11_reach 164 = .ok (.iconst 0, 1) := by decide +kernel
theorem dX11_reach_165 : decode cX11_reach 165 = .ok (.istore 9, 2) := by decide +kernel
theorem dX11_reach_167 : decode cX11_reach 167 = .ok (.iinc 10 1, 3) := by decide +kernel
theorem dX11_reach_170 : decode cX11_reach 170 = .ok (.goto (-49), 3) := by decide +kernel
theorem dX11_reach_173 : decode cX11_reach 173 = .ok (.iload 9, 2) := by decide +kernel
theorem dX11_reach_175 : decode cX11_reach 175 = .ok (.ifCond .ne 6, 3) := by decide +kernel
theorem dX11_reach_178 : decode cX11_reach 178 = .ok (.goto 26, 3) := by decide +kernel
theorem dX11_reach_181 : decode cX11_reach 181 = .ok (.aload_n 0, 1) := by decide +kernel
theorem dX11_reach_182 : decode cX11_reach 182 = .ok (.getfield 44, 3) := by decide +kernel
theorem dX11_reach_185 : decode cX11_reach 185 = .ok (.iload_n 3, 1) := by decide +kernel
theorem dX11_reach_186 : decode cX11_reach 186 = .ok (.aload_n 0, 1) := by decide +kernel
theorem dX11_reach_187 : decode cX11_reach 187 = .ok (.getfield 169, 3) := by decide +kernel
theorem dX11_reach_190 : decode cX11_reach 190 = .ok (.iastore, 1) := by decide +kernel
theorem dX11_reach_191 : decode cX11_reach 191 = .ok (.aload_n 0, 1) := by decide +kernel
theorem dX11_reach_192 : decode cX11_reach 192 = .ok (.getfield 47, 3) := by decide +kernel
theorem dX11_reach_195 : decode cX11_reach 195 = .ok (.iload_n 3, 1) := by decide +kernel
theorem dX11_reach_196 : decode cX11_reach 196 = .ok (.aload_n 0, 1) := by decide +kernel
theorem dX11_reach_197 : decode cX11_reach 197 = .ok (.getfield 172, 3) := by decide +kernel
theorem dX11_reach_200 : decode cX11_reach 200 = .ok (.iastore, 1) := by decide +kernel
theorem dX11_reach_201 : decode cX11_reach 201 = .ok (.iinc 3 1, 3) := by decide +kernel
theorem dX11_reach_204 : decode cX11_reach 204 = .ok (.iinc 8 1, 3) := by decide +kernel
theorem dX11_reach_207 : decode cX11_reach 207 = .ok (.goto (-132), 3) := by decide +kernel
theorem dX11_reach_210 : decode cX11_reach 210 = .ok (.iinc 7 1, 3) := by decide +kernel
theorem dX11_reach_213 : decode cX11_reach 213 = .ok (.goto (-148), 3) := by decide +kernel
theorem dX11_reach_216 : decode cX11_reach 216 = .ok (.iload 6, 2) := by decide +kernel
theorem dX11_reach_218 : decode cX11_reach 218 = .ok (.istore 4, 2) := by decide +kernel
theorem dX11_reach_220 : decode cX11_reach 220 = .ok (.iinc 5 1, 3) := by decide +kernel
theorem dX11_reach_223 : decode cX11_reach 223 = .ok (.goto (-171), 3) := by decide +kernel
theorem dX11_reach_226 : decode cX11_reach 226 = .ok (.iload_n 3, 1) := by decide +kernel
theorem dX11_reach_227 : decode cX11_reach 227 = .ok (.ireturn, 1) := by decide +kernel
theorem dX11_apart_0 : decode cX11_apart 0 = .ok (.aload_n 0, 1) := by decide +kernel
theorem dX11_apart_1 : decode cX11_apart 1 = .ok (.invokevirtual 147, 3) := by decide +kernel
theorem dX11_apart_4 : decode cX11_apart 4 = .ok (.aload_n 0, 1) := by decide +kernel
theorem dX11_apart_5 : decode cX11_apart 5 = .ok (.iload_n 1, 1) := by decide +kernel
theorem dX11_apart_6 : decode cX11_apart 6 = .ok (.invokevirtual 239, 3) := by decide +kernel
theorem dX11_apart_9 : decode cX11_apart 9 = .ok (.ifCond .eq 11, 3) := by decide +kernel
theorem dX11_apart_12 : decode cX11_apart 12 = .ok (.aload_n 0, 1) := by decide +kernel
theorem dX11_apart_13 : decode cX11_apart 13 = .ok (.iload_n 2, 1) := by decide +kernel
theorem dX11_apart_14 : decode cX11_apart 14 = .ok (.invokevirtual 239, 3) := by decide +kernel
theorem dX11_apart_17 : decode cX11_apart 17 = .ok (.ifCond .ne 9, 3) := by decide +kernel
theorem dX11_apart_20 : decode cX11_apart 20 = .ok (.aload_n 0, 1) := by decide +kernel
theorem dX11_apart_21 : decode cX11_apart 21 = .ok (.iconst 1, 1) := by decide +kernel
theorem dX11_apart_22 : decode cX11_apart 22 = .ok (.invokevirtual 150, 3) := by decide +kernel
theorem dX11_apart_25 : decode cX11_apart 25 = .ok (.ireturn, 1) := by decide +kernel
theorem dX11_apart_26 : decode cX11_apart 26 = .ok (.aload_n 0, 1) := by decide +kernel
theorem dX11_apart_27 : decode cX11_apart 27 = .ok (.getfield 26, 3) := by decide +kernel
theorem dX11_apart_30 : decode cX11_apart 30 = .ok (.iload_n 1, 1) := by decide +kernel
theorem dX11_apart_31 : decode cX11_apart 31 = .ok (.iaload, 1) := by decide +kernel
theorem dX11_apart_32 : decode cX11_apart 32 = .ok (.aload_n 0, 1) := by decide +kernel
theorem dX11_apart_33 : decode cX11_apart 33 = .ok (.getfield 26, 3) := by decide +kernel
theorem dX11_apart_36 : decode cX11_apart 36 = .ok (.iconst 5, 1) := by decide +kernel
theorem dX11_apart_37 : decode cX11_apart 37 = .ok (.iload_n 2, 1) := by decide +kernel
theorem dX11_apart_38 : decode cX11_apart 38 = .ok (.iadd, 1) := by decide +kernel
theorem dX11_apart_39 : decode cX11_apart 39 = .ok (.iaload, 1) := by decide +kernel
theorem dX11_apart_40 : decode cX11_apart 40 = .ok (.imul, 1) := by decide +kernel
theorem dX11_apart_41 : decode cX11_apart 41 = .ok (.aload_n 0, 1) := by decide +kernel
theorem dX11_apart_42 : decode cX11_apart 42 = .ok (.getfield 26, 3) := by decide +kernel
theorem dX11_apart_45 : decode cX11_apart 45 = .ok (.iload_n 2, 1) := by decide +kernel
theorem dX11_apart_46 : decode cX11_apart 46 = .ok (.iaload, 1) := by decide +kernel
theorem dX11_apart_47 : decode cX11_apart 47 = .ok (.aload_n 0, 1) := by decide +kernel
theorem dX11_apart_48 : decode cX11_apart 48 = .ok (.getfield 26, 3) := by decide +kernel
theorem dX11_apart_51 : decode cX11_apart 51 = .ok (.iconst 5, 1) := by decide +kernel
theorem dX11_apart_52 : decode cX11_apart 52 = .ok (.iload_n 1, 1) := by decide +kernel
theorem dX11_apart_53 : decode cX11_apart 53 = .ok (.iadd, 1) := by decide +kernel
theorem dX11_apart_54 : decode cX11_apart 54 = .ok (.iaload, 1) := by decide +kernel
theorem dX11_apart_55 : decode cX11_apart 55 = .ok (.imul, 1) := by decide +kernel
theorem dX11_apart_56 : decode cX11_apart 56 = .ok (.isub, 1) := by decide +kernel
theorem dX11_apart_57 : decode cX11_apart 57 = .ok (.invokestatic 60, 3) := by decide +kernel
theorem dX11_apart_60 : decode cX11_apart 60 = .ok (.ireturn, 1) := by decide +kernel
theorem dX11_floorOf_0 : decode cX11_floorOf 0 = .ok (.lload_n 0, 1) := by decide +kernel
theorem dX11_floorOf_1 : decode cX11_floorOf 1 = .ok (.lload_n 2, 1) := by decide +kernel
theorem dX11_floorOf_2 : decode cX11_floorOf 2 = .ok (.ldiv, 1) := by decide +kernel
theorem dX11_floorOf_3 : decode cX11_floorOf 3 = .ok (.lstore 4, 2) := by decide +kernel
theorem dX11_floorOf_5 : decode cX11_floorOf 5 = .ok (.lload_n 0, 1) := by decide +kernel
theorem dX11_floorOf_6 : decode cX11_floorOf 6 = .ok (.lload_n 2, 1) := by decide +kernel
theorem dX11_floorOf_7 : decode cX11_floorOf 7 = .ok (.lrem, 1) := by decide +kernel
theorem dX11_floorOf_8 : decode cX11_floorOf 8 = .ok (.lconst 0, 1) := by decide +kernel
theorem dX11_floorOf_9 : decode cX11_floorOf 9 = .ok (.lcmp, 1) := by decide +kernel
theorem dX11_floorOf_10 : decode cX11_floorOf 10 = .ok (.ifCond .ge 10, 3) := by decide +kernel
theorem dX11_floorOf_13 : decode cX11_floorOf 13 = .ok (.lload 4, 2) := by decide +kernel
theorem dX11_floorOf_15 : decode cX11_floorOf 15 = .ok (.lconst 1, 1) := by decide +kernel
theorem dX11_floorOf_16 : decode cX11_floorOf 16 = .ok (.lsub, 1) := by decide +kernel
theorem dX11_floorOf_17 : decode cX11_floorOf 17 = .ok (.goto 5, 3) := by decide +kernel
theorem dX11_floorOf_20 : decode cX11_floorOf 20 = .ok (.lload 4, 2) := by decide +kernel
theorem dX11_floorOf_22 : decode cX11_floorOf 22 = .ok (.l2i, 1) := by decide +kernel
theorem dX11_floorOf_23 : decode cX11_floorOf 23 = .ok (.ireturn, 1) := by decide +kernel
theorem dX11_seekBetween_0 : decode cX11_seekBetween 0 = .ok (.aload_n 0, 1) := by decide +kernel
theorem dX11_seekBetween_1 : decode cX11_seekBetween 1 = .ok (.iload_n 1, 1) := by decide +kernel
theorem dX11_seekBetween_2 : decode cX11_seekBetween 2 = .ok (.invokevirtual 239, 3) := by decide +kernel
theorem dX11_seekBetween_5 : decode cX11_seekBetween 5 = .ok (.ifCond .eq 16, 3) := by decide +kernel
theorem dX11_seekBetween_8 : decode cX11_seekBetween 8 = .ok (.aload_n 0, 1) := by decide +kernel
theorem dX11_seekBetween_9 : decode cX11_seekBetween 9 = .ok (.iload_n 2, 1) := by decide +kernel
theorem dX11_seekBetween_10 : decode cX11_seekBetween 10 = .ok (.invokevirtual 239, 3) := by decide +kernel
theorem dX11_seekBetween_13 : decode cX11_seekBetween 13 = .ok (.ifCond .eq 8, 3) := by decide +kernel
theorem dX11_seekBetween_16 : decode cX11_seekBetween 16 = .ok (.iload_n 1, 1) := by decide +kernel
theorem dX11_seekBetween_17 : decode cX11_seekBetween 17 = .ok (.iload_n 2, 1) := by decide +kernel
theorem dX11_seekBetween_18 : decode cX11_seekBetween 18 = .ok (.if_icmp .ne 5, 3) := by decide +kernel
theorem dX11_seekBetween_21 : decode cX11_seekBetween 21 = .ok (.iconst 1, 1) := by decide +kernel
theorem dX11_seekBetween_22 : decode cX11_seekBetween 22 = .ok (.ireturn, 1) := by decide +kernel
theorem dX11_seekBetween_23 : decode cX11_seekBetween 23 = .ok (.aload_n 0, 1) := by decide +kernel
theorem dX11_seekBetween_24 : decode cX11_seekBetween 24 = .ok (.getfield 26, 3) := by decide +kernel
theorem dX11_seekBetween_27 : decode cX11_seekBetween 27 = .ok (.iconst 5, 1) := by decide +kernel
theorem dX11_seekBetween_28 : decode cX11_seekBetween 28 = .ok (.iload_n 1, 1) := by decide +kernel
theorem dX11_seekBetween_29 : decode cX11_seekBetween 29 = .ok (.iadd, 1) := by decide +kernel
theorem dX11_seekBetween_30 : decode cX11_seekBetween 30 = .ok (.iaload, 1) := by decide +kernel
theorem dX11_seekBetween_31 : decode cX11_seekBetween 31 = .ok (.ifCond .eq 14, 3) := by decide +kernel
theorem dX11_seekBetween_34 : decode cX11_seekBetween 34 = .ok (.aload_n 0, 1) := by decide +kernel
theorem dX11_seekBetween_35 : decode cX11_seekBetween 35 = .ok (.getfield 26, 3) := by decide +kernel
theorem dX11_seekBetween_38 : decode cX11_seekBetween 38 = .ok (.iconst 5, 1) := by decide +kernel
theorem dX11_seekBetween_39 : decode cX11_seekBetween 39 = .ok (.iload_n 2, 1) := by decide +kernel
theorem dX11_seekBetween_40 : decode cX11_seekBetween 40 = .ok (.iadd, 1) := by decide +kernel
theorem dX11_seekBetween_41 : decode cX11_seekBetween 41 = .ok (.iaload, 1) := by decide +kernel
theorem dX11_seekBetween_42 : decode cX11_seekBetween 42 = .ok (.ifCond .ne 5, 3) := by decide +kernel
theorem dX11_seekBetween_45 : decode cX11_seekBetween 45 = .ok (.iconst 5, 1) := by decide +kernel
theorem dX11_seekBetween_46 : decode cX11_seekBetween 46 = .ok (.ireturn, 1) := by decide +kernel
theorem dX11_seekBetween_47 : decode cX11_seekBetween 47 = .ok (.aload_n 0, 1) := by decide +kernel
theorem dX11_seekBetween_48 : decode cX11_seekBetween 48 = .ok (.getfield 26, 3) := by decide +kernel
theorem dX11_seekBetween_51 : decode cX11_seekBetween 51 = .ok (.iload_n 1, 1) := by decide +kernel
theorem dX11_seekBetween_52 : decode cX11_seekBetween 52 = .ok (.iaload, 1) := by decide +kernel
theorem dX11_seekBetween_53 : decode cX11_seekBetween 53 = .ok (.i2l, 1) := by decide +kernel
theorem dX11_seekBetween_54 : decode cX11_seekBetween 54 = .ok (.aload_n 0, 1) := by decide +kernel
theorem dX11_seekBetween_55 : decode cX11_seekBetween 55 = .ok (.getfield 26, 3) := by decide +kernel
theorem dX11_seekBetween_58 : decode cX11_seekBetween 58 = .ok (.iconst 5, 1) := by decide +kernel
theorem dX11_seekBetween_59 : decode cX11_seekBetween 59 = .ok (.iload_n 2, 1) := by decide +kernel
theorem dX11_seekBetween_60 : decode cX11_seekBetween 60 = .ok (.iadd, 1) := by decide +kernel
theorem dX11_seekBetween_61 : decode cX11_seekBetween 61 = .ok (.iaload, 1) := by decide +kernel
theorem dX11_seekBetween_62 : decode cX11_seekBetween 62 = .ok (.i2l, 1) := by decide +kernel
theorem dX11_seekBetween_63 : decode cX11_seekBetween 63 = .ok (.lmul, 1) := by decide +kernel
theorem dX11_seekBetween_64 : decode cX11_seekBetween 64 = .ok (.aload_n 0, 1) := by decide +kernel
theorem dX11_seekBetween_65 : decode cX11_seekBetween 65 = .ok (.getfield 26, 3) := by decide +kernel
theorem dX11_seekBetween_68 : decode cX11_seekBetween 68 = .ok (.iload_n 2, 1) := by decide +kernel
theorem dX11_seekBetween_69 : decode cX11_seekBetween 69 = .ok (.iaload, 1) := by decide +kernel
theorem dX11_seekBetween_70 : decode cX11_seekBetween 70 = .ok (.i2l, 1) := by decide +kernel
theorem dX11_seekBetween_71 : decode cX11_seekBetween 71 = .ok (.aload_n 0, 1) := by decide +kernel
theorem dX11_seekBetween_72 : decode cX11_seekBetween 72 = .ok (.getfield 26, 3) := by decide +kernel
theorem dX11_seekBetween_75 : decode cX11_seekBetween 75 = .ok (.iconst 5, 1) := by decide +kernel
theorem dX11_seekBetween_76 : decode cX11_seekBetween 76 = .ok (.iload_n 1, 1) := by decide +kernel
theorem dX11_seekBetween_77 : decode cX11_seekBetween 77 = .ok (.iadd, 1) := by decide +kernel
theorem dX11_seekBetween_78 : decode cX11_seekBetween 78 = .ok (.iaload, 1) := by decide +kernel
theorem dX11_seekBetween_79 : decode cX11_seekBetween 79 = .ok (.i2l, 1) := by decide +kernel
theorem dX11_seekBetween_80 : decode cX11_seekBetween 80 = .ok (.lmul, 1) := by decide +kernel
theorem dX11_seekBetween_81 : decode cX11_seekBetween 81 = .ok (.lsub, 1) := by decide +kernel
theorem dX11_seekBetween_82 : decode cX11_seekBetween 82 = .ok (.lstore_n 3, 1) := by decide +kernel
theorem dX11_seekBetween_83 : decode cX11_seekBetween 83 = .ok (.lload_n 3, 1) := by decide +kernel
theorem dX11_seekBetween_84 : decode cX11_seekBetween 84 = .ok (.lconst 0, 1) := by decide +kernel
theorem dX11_seekBetween_85 : decode cX11_seekBetween 85 = .ok (.lcmp, 1) := by decide +kernel
theorem dX11_seekBetween_86 : decode cX11_seekBetween 86 = .ok (.ifCond .ne 5, 3) := by decide +kernel
theorem dX11_seekBetween_89 : decode cX11_seekBetween 89 = .ok (.iconst 5, 1) := by decide +kernel
theorem dX11_seekBetween_90 : decode cX11_seekBetween 90 = .ok (.ireturn, 1) := by decide +kernel
theorem dX11_seekBetween_91 : decode cX11_seekBetween 91 = .ok (.lload_n 3, 1) := by decide +kernel
theorem dX11_seekBetween_92 : decode cX11_seekBetween 92 = .ok (.lconst 0, 1) := by decide +kernel
theorem dX11_seekBetween_93 : decode cX11_seekBetween 93 = .ok (.lcmp, 1) := by decide +kernel
theorem dX11_seekBetween_94 : decode cX11_seekBetween 94 = .ok (.ifCond .ge 7, 3) := by decide +kernel
theorem dX11_seekBetween_97 : decode cX11_seekBetween 97 = .ok (.iload_n 1, 1) := by decide +kernel
theorem dX11_seekBetween_98 : decode cX11_seekBetween 98 = .ok (.goto 4, 3) := by decide +kernel
theorem dX11_seekBetween_101 : decode cX11_seekBetween 101 = .ok (.iload_n 2, 1) := by decide +kernel
theorem dX11_seekBetween_102 : decode cX11_seekBetween 102 = .ok (.istore 5, 2) := by decide +kernel
theorem dX11_seekBetween_104 : decode cX11_seekBetween 104 = .ok (.lload_n 3, 1) := by decide +kernel
theorem dX11_seekBetween_105 : decode cX11_seekBetween 105 = .ok (.lconst 0, 1) := by decide +kernel
theorem dX11_seekBetween_106 : decode cX11_seekBetween 106 = .ok (.lcmp, 1) := by decide +kernel
theorem dX11_seekBetween_107 : decode cX11_seekBetween 107 = .ok (.ifCond .ge 7, 3) := by decide +kernel
theorem dX11_seekBetween_110 : decode cX11_seekBetween 110 = .ok (.iload_n 2, 1) := by decide +kernel
theorem dX11_seekBetween_111 : decode cX11_seekBetween 111 = .ok (.goto 4, 3) := by decide +kernel
theorem dX11_seekBetween_114 : decode cX11_seekBetween 114 = .ok (.iload_n 1, 1) := by decide +kernel
theorem dX11_seekBetween_115 : decode cX11_seekBetween 115 = .ok (.istore 6, 2) := by decide +kernel
theorem dX11_seekBetween_117 : decode cX11_seekBetween 117 = .ok (.iconst 1, 1) := by decide +kernel
theorem dX11_seekBetween_118 : decode cX11_seekBetween 118 = .ok (.istore 7, 2) := by decide +kernel
theorem dX11_seekBetween_120 : decode cX11_seekBetween 120 = .ok (.aload_n 0, 1) := by decide +kernel
theorem dX11_seekBetween_121 : decode cX11_seekBetween 121 = .ok (.getfield 26, 3) := by decide +kernel
theorem dX11_seekBetween_124 : decode cX11_seekBetween 124 = .ok (.iload 5, 2) := by decide +kernel
theorem dX11_seekBetween_126 : decode cX11_seekBetween 126 = .ok (.iaload, 1) := by decide +kernel
theorem dX11_seekBetween_127 : decode cX11_seekBetween 127 = .ok (.i2l, 1) := by decide +kernel
theorem dX11_seekBetween_128 : decode cX11_seekBetween 128 = .ok (.iload 7, 2) := by decide +kernel
theorem dX11_seekBetween_130 : decode cX11_seekBetween 130 = .ok (.i2l, 1) := by decide +kernel
theorem dX11_seekBetween_131 : decode cX11_seekBetween 131 = .ok (.lmul, 1) := by decide +kernel
theorem dX11_seekBetween_132 : decode cX11_seekBetween 132 = .ok (.aload_n 0, 1) := by decide +kernel
theorem dX11_seekBetween_133 : decode cX11_seekBetween 133 = .ok (.getfield 26, 3) := by decide +kernel
theorem dX11_seekBetween_136 : decode cX11_seekBetween 136 = .ok (.iconst 5, 1) := by decide +kernel
theorem dX11_seekBetween_137 : decode cX11_seekBetween 137 = .ok (.iload 5, 2) := by decide +kernel
theorem dX11_seekBetween_139 : decode cX11_seekBetween 139 = .ok (.iadd, 1) := by decide +kernel
theorem dX11_seekBetween_140 : decode cX11_seekBetween 140 = .ok (.iaload, 1) := by decide +kernel
theorem dX11_seekBetween_141 : decode cX11_seekBetween 141 = .ok (.i2l, 1) := by decide +kernel
theorem dX11_seekBetween_142 : decode cX11_seekBetween 142 = .ok (.invokestatic 308, 3) := by decide +kernel
theorem dX11_seekBetween_145 : decode cX11_seekBetween 145 = .ok (.iconst 1, 1) := by decide +kernel
theorem dX11_seekBetween_146 : decode cX11_seekBetween 146 = .ok (.iadd, 1) := by decide +kernel
theorem dX11_seekBetween_147 : decode cX11_seekBetween 147 = .ok (.istore 8, 2) := by decide +kernel
theorem dX11_seekBetween_149 : decode cX11_seekBetween 149 = .ok (.aload_n 0, 1) := by decide +kernel
theorem dX11_seekBetween_150 : decode cX11_seekBetween 150 = .ok (.getfield 26, 3) := by decide +kernel
theorem dX11_seekBetween_153 : decode cX11_seekBetween 153 = .ok (.iload 6, 2) := by decide +kernel
theorem dX11_seekBetween_155 : decode cX11_seekBetween 155 = .ok (.iaload, 1) := by decide +kernel
theorem dX11_seekBetween_156 : decode cX11_seekBetween 156 = .ok (.i2l, 1) := by decide +kernel
theorem dX11_seekBetween_157 : decode cX11_seekBetween 157 = .ok (.lneg, 1) := by decide +kernel
theorem dX11_seekBetween_158 : decode cX11_seekBetween 158 = .ok (.iload 7, 2) := by decide +kernel
theorem dX11_seekBetween_160 : decode cX11_seekBetween 160 = .ok (.i2l, 1) := by decide +kernel
theorem dX11_seekBetween_161 : decode cX11_seekBetween 161 = .ok (.lmul, 1) := by decide +kernel
theorem dX11_seekBetween_162 : decode cX11_seekBetween 162 = .ok (.aload_n 0, 1) := by decide +kernel
theorem dX11_seekBetween_163 : decode cX11_seekBetween 163 = .ok (.getfield 26, 3) := by decide +kernel
theorem dX11_seekBetween_166 : decode cX11_seekBetween 166 = .ok (.iconst 5, 1) := by decide +kernel
theorem dX11_seekBetween_167 : decode cX11_seekBetween 167 = .ok (.iload 6, 2) := by decide +kernel
theorem dX11_seekBetween_169 : decode cX11_seekBetween 169 = .ok (.iadd, 1) := by decide +kernel
theorem dX11_seekBetween_170 : decode cX11_seekBetween 170 = .ok (.iaload, 1) := by decide +kernel
theorem dX11_seekBetween_171 : decode cX11_seekBetween 171 = .ok (.i2l, 1) := by decide +kernel
theorem dX11_seekBetween_172 : decode cX11_seekBetween 172 = .ok (.invokestatic 308, 3) := by decide +kernel
theorem dX11_seekBetween_175 : decode cX11_seekBetween 175 = .ok (.ineg, 1) := by decide +kernel
theorem dX11_seekBetween_176 : decode cX11_seekBetween 176 = .ok (.iconst 1, 1) := by decide +kernel
theorem dX11_seekBetween_177 : decode cX11_seekBetween 177 = .ok (.isub, 1) := by decide +kernel
theorem dX11_seekBetween_178 : decode cX11_seekBetween 178 = .ok (.istore 9, 2) := by decide +kernel
theorem dX11_seekBetween_180 : decode cX11_seekBetween 180 = .ok (.iload 8, 2) := by decide +kernel
theorem dX11_seekBetween_182 : decode cX11_seekBetween 182 = .ok (.iload 9, 2) := by decide +kernel
theorem dX11_seekBetween_184 : decode cX11_seekBetween 184 = .ok (.if_icmp .gt 36, 3) := by decide +kernel
theorem dX11_seekBetween_187 : decode cX11_seekBetween 187 = .ok (.aload_n 0, 1) := by decide +kernel
theorem dX11_seekBetween_188 : decode cX11_seekBetween 188 = .ok (.iload 8, 2) := by decide +kernel
theorem dX11_seekBetween_190 : decode cX11_seekBetween 190 = .ok (.ifCond .le 8, 3) := by decide +kernel
theorem dX11_seekBetween_193 : decode cX11_seekBetween 193 = .ok (.iload 8, 2) := by decide +kernel
theorem dX11_seekBetween_195 : decode cX11_seekBetween 195 = .ok (.goto 14, 3) := by decide +kernel
theorem dX11_seekBetween_198 : decode cX11_seekBetween 198 = .ok (.iload 9, 2) := by decide +kernel
theorem dX11_seekBetween_200 : decode cX11_seekBetween 200 = .ok (.ifCond .ge 8, 3) := by decide +kernel
theorem dX11_seekBetween_203 : decode cX11_seekBetween 203 = .ok (.iload 9, 2) := by decide +kernel
theorem dX11_seekBetween_205 : decode cX11_seekBetween 205 = .ok (.goto 4, 3) := by decide +kernel
theorem dX11_seekBetween_208 : decode cX11_seekBetween 208 = .ok (.iconst 0, 1) := by decide +kernel
theorem dX11_seekBetween_209 : decode cX11_seekBetween 209 = .ok (.putfield 312, 3) := by decide +kernel
theorem dX11_seekBetween_212 : decode cX11_seekBetween 212 = .ok (.aload_n 0, 1) := by decide +kernel
theorem dX11_seekBetween_213 : decode cX11_seekBetween 213 = .ok (.iload 7, 2) := by decide +kernel
theorem dX11_seekBetween_215 : decode cX11_seekBetween 215 = .ok (.putfield 315, 3) := by decide +kernel
theorem dX11_seekBetween_218 : decode cX11_seekBetween 218 = .ok (.iconst 0, 1) := by decide +kernel
theorem dX11_seekBetween_219 : decode cX11_seekBetween 219 = .ok (.ireturn, 1) := by decide +kernel
theorem dX11_seekBetween_220 : decode cX11_seekBetween 220 = .ok (.iinc 7 1, 3) := by decide +kernel
theorem dX11_seekBetween_223 : decode cX11_seekBetween 223 = .ok (.goto (-103), 3) := by decide +kernel
theorem dX11_upperBetween_0 : decode cX11_upperBetween 0 = .ok (.aload_n 0, 1) := by decide +kernel
theorem dX11_upperBetween_1 : decode cX11_upperBetween 1 = .ok (.invokevirtual 147, 3) := by decide +kernel
theorem dX11_upperBetween_4 : decode cX11_upperBetween 4 = .ok (.aload_n 0, 1) := by decide +kernel
theorem dX11_upperBetween_5 : decode cX11_upperBetween 5 = .ok (.iload_n 1, 1) := by decide +kernel
theorem dX11_upperBetween_6 : decode cX11_upperBetween 6 = .ok (.iload_n 2, 1) := by decide +kernel
theorem dX11_upperBetween_7 : decode cX11_upperBetween 7 = .ok (.invokevirtual 318, 3) := by decide +kernel
theorem dX11_upperBetween_10 : decode cX11_upperBetween 10 = .ok (.istore_n 3, 1) := by decide +kernel
theorem dX11_upperBetween_11 : decode cX11_upperBetween 11 = .ok (.iload_n 3, 1) := by decide +kernel
theorem dX11_upperBetween_12 : decode cX11_upperBetween 12 = .ok (.ifCond .eq 11, 3) := by decide +kernel
theorem dX11_upperBetween_15 : decode cX11_upperBetween 15 = .ok (.aload_n 0, 1) := by decide +kernel
theorem dX11_upperBetween_16 : decode cX11_upperBetween 16 = .ok (.iload_n 3, 1) := by decide +kernel
theorem dX11_upperBetween_17 : decode cX11_upperBetween 17 = .ok (.invokevirtual 242, 3) := by decide +kernel
theorem dX11_upperBetween_20 : decode cX11_upperBetween 20 = .ok (.goto 7, 3) := by decide +kernel
theorem dX11_upperBetween_23 : decode cX11_upperBetween 23 = .ok (.aload_n 0, 1) := by decide +kernel
theorem dX11_upperBetween_24 : decode cX11_upperBetween 24 = .ok (.getfield 312, 3) := by decide +kernel
theorem dX11_upperBetween_27 : decode cX11_upperBetween 27 = .ok (.ireturn, 1) := by decide +kernel
theorem dX11_lowerBetween_0 : decode cX11_lowerBetween 0 = .ok (.aload_n 0, 1) := by decide +kernel
theorem dX11_lowerBetween_1 : decode cX11_lowerBetween 1 = .ok (.invokevirtual 147, 3) := by decide +kernel
theorem dX11_lowerBetween_4 : decode cX11_lowerBetween 4 = .ok (.aload_n 0, 1) := by decide +kernel
theorem dX11_lowerBetween_5 : decode cX11_lowerBetween 5 = .ok (.iload_n 1, 1) := by decide +kernel
theorem dX11_lowerBetween_6 : decode cX11_lowerBetween 6 = .ok (.iload_n 2, 1) := by decide +kernel
theorem dX11_lowerBetween_7 : decode cX11_lowerBetween 7 = .ok (.invokevirtual 318, 3) := by decide +kernel
theorem dX11_lowerBetween_10 : decode cX11_lowerBetween 10 = .ok (.istore_n 3, 1) := by decide +kernel
theorem dX11_lowerBetween_11 : decode cX11_lowerBetween 11 = .ok (.iload_n 3, 1) := by decide +kernel
theorem dX11_lowerBetween_12 : decode cX11_lowerBetween 12 = .ok (.ifCond .eq 11, 3) := by decide +kernel
theorem dX11_lowerBetween_15 : decode cX11_lowerBetween 15 = .ok (.aload_n 0, 1) := by decide +kernel
theorem dX11_lowerBetween_16 : decode cX11_lowerBetween 16 = .ok (.iload_n 3, 1) := by decide +kernel
theorem dX11_lowerBetween_17 : decode cX11_lowerBetween 17 = .ok (.invokevirtual 150, 3) := by decide +kernel
theorem dX11_lowerBetween_20 : decode cX11_lowerBetween 20 = .ok (.goto 7, 3) := by decide +kernel
theorem dX11_lowerBetween_23 : decode cX11_lowerBetween 23 = .ok (.aload_n 0, 1) := by decide +kernel
theorem dX11_lowerBetween_24 : decode cX11_lowerBetween 24 = .ok (.getfield 315, 3) := by decide +kernel
theorem dX11_lowerBetween_27 : decode cX11_lowerBetween 27 = .ok (.ireturn, 1) := by decide +kernel
theorem dX11_climb_0 : decode cX11_climb 0 = .ok (.iconst 0, 1) := by decide +kernel
theorem dX11_climb_1 : decode cX11_climb 1 = .ok (.istore_n 3, 1) := by decide +kernel
theorem dX11_climb_2 : decode cX11_climb 2 = .ok (.iconst 1, 1) := by decide +kernel
theorem dX11_climb_3 : decode cX11_climb 3 = .ok (.istore 4, 2) := by decide +kernel
theorem dX11_climb_5 : decode cX11_climb 5 = .ok (.iconst 1, 1) := by decide +kernel
theorem dX11_climb_6 : decode cX11_climb 6 = .ok (.istore 5, 2) := by decide +kernel
theorem dX11_climb_8 : decode cX11_climb 8 = .ok (.iload_n 1, 1) := by decide +kernel
theorem dX11_climb_9 : decode cX11_climb 9 = .ok (.istore 6, 2) := by decide +kernel
theorem dX11_climb_11 : decode cX11_climb 11 = .ok (.iconst 0, 1) := by decide +kernel
theorem dX11_climb_12 : decode cX11_climb 12 = .ok (.istore 7, 2) := by decide +kernel
theorem dX11_climb_14 : decode cX11_climb 14 = .ok (.iload_n 3, 1) := by decide +kernel
theorem dX11_climb_15 : decode cX11_climb 15 = .ok (.iload 4, 2) := by decide +kernel
theorem dX11_climb_17 : decode cX11_climb 17 = .ok (.if_icmp .gt 71, 3) := by decide +kernel
theorem dX11_climb_20 : decode cX11_climb 20 = .ok (.iload 7, 2) := by decide +kernel
theorem dX11_climb_22 : decode cX11_climb 22 = .ok (.iload_n 2, 1) := by decide +kernel
theorem dX11_climb_23 : decode cX11_climb 23 = .ok (.if_icmp .ne 16, 3) := by decide +kernel
theorem dX11_climb_26 : decode cX11_climb 26 = .ok (.aload_n 0, 1) := by decide +kernel
theorem dX11_climb_27 : decode cX11_climb 27 = .ok (.iload_n 3, 1) := by decide +kernel
theorem dX11_climb_28 : decode cX11_climb 28 = .ok (.putfield 321, 3) := by decide +kernel
theorem dX11_climb_31 : decode cX11_climb 31 = .ok (.aload_n 0, 1) := by decide +kernel
theorem dX11_climb_32 : decode cX11_climb 32 = .ok (.iload 4, 2) := by decide +kernel
theorem dX11_climb_34 : decode cX11_climb 34 = .ok (.putfield 324, 3) := by decide +kernel
theorem dX11_climb_37 : decode cX11_climb 37 = .ok (.iconst (-1), 1) := by decide +kernel
theorem dX11_climb_38 : decode cX11_climb 38 = .ok (.ireturn, 1) := by decide +kernel
theorem dX11_climb_39 : decode cX11_climb 39 = .ok (.iinc 7 1, 3) := by decide +kernel
theorem dX11_climb_42 : decode cX11_climb 42 = .ok (.iload_n 1, 1) := by decide +kernel
theorem dX11_climb_43 : decode cX11_climb 43 = .ok (.iload 4, 2) := by decide +kernel
theorem dX11_climb_45 : decode cX11_climb 45 = .ok (.iadd, 1) := by decide +kernel
theorem dX11_climb_46 : decode cX11_climb 46 = .ok (.iload 6, 2) := by decide +kernel
theorem dX11_climb_48 : decode cX11_climb 48 = .ok (.idiv, 1) := by decide +kernel
theorem dX11_climb_49 : decode cX11_climb 49 = .ok (.istore 8, 2) := by decide +kernel
theorem dX11_climb_51 : decode cX11_climb 51 = .ok (.iload 8, 2) := by decide +kernel
theorem dX11_climb_53 : decode cX11_climb 53 = .ok (.iload 5, 2) := by decide +kernel
theorem dX11_climb_55 : decode cX11_climb 55 = .ok (.imul, 1) := by decide +kernel
theorem dX11_climb_56 : decode cX11_climb 56 = .ok (.iload_n 3, 1) := by decide +kernel
theorem dX11_climb_57 : decode cX11_climb 57 = .ok (.isub, 1) := by decide +kernel
theorem dX11_climb_58 : decode cX11_climb 58 = .ok (.istore 9, 2) := by decide +kernel
theorem dX11_climb_60 : decode cX11_climb 60 = .ok (.iload 8, 2) := by decide +kernel
theorem dX11_climb_62 : decode cX11_climb 62 = .ok (.iload 6, 2) := by decide +kernel
theorem dX11_climb_64 : decode cX11_climb 64 = .ok (.imul, 1) := by decide +kernel
theorem dX11_climb_65 : decode cX11_climb 65 = .ok (.iload 4, 2) := by decide +kernel
theorem dX11_climb_67 : decode cX11_climb 67 = .ok (.isub, 1) := by decide +kernel
theorem dX11_climb_68 : decode cX11_climb 68 = .ok (.istore 10, 2) := by decide +kernel
theorem dX11_climb_70 : decode cX11_climb 70 = .ok (.iload 5, 2) := by decide +kernel
theorem dX11_climb_72 : decode cX11_climb 72 = .ok (.istore_n 3, 1) := by decide +kernel
theorem dX11_climb_73 : decode cX11_climb 73 = .ok (.iload 6, 2) := by decide +kernel
theorem dX11_climb_75 : decode cX11_climb 75 = .ok (.istore 4, 2) := by decide +kernel
theorem dX11_climb_77 : decode cX11_climb 77 = .ok (.iload 9, 2) := by decide +kernel
theorem dX11_climb_79 : decode cX11_climb 79 = .ok (.istore 5, 2) := by decide +kernel
theorem dX11_climb_81 : decode cX11_climb 81 = .ok (.iload 10, 2) := by decide +kernel
theorem dX11_climb_83 : decode cX11_climb 83 = .ok (.istore 6, 2) := by decide +kernel
theorem dX11_climb_85 : decode cX11_climb 85 = .ok (.goto (-71), 3) := by decide +kernel
theorem dX11_climb_88 : decode cX11_climb 88 = .ok (.iload 7, 2) := by decide +kernel
theorem dX11_climb_90 : decode cX11_climb 90 = .ok (.ireturn, 1) := by decide +kernel
theorem dX11_rungWhy_0 : decode cX11_rungWhy 0 = .ok (.aload_n 0, 1) := by decide +kernel
theorem dX11_rungWhy_1 : decode cX11_rungWhy 1 = .ok (.aload_n 0, 1) := by decide +kernel
theorem dX11_rungWhy_2 : decode cX11_rungWhy 2 = .ok (.getfield 163, 3) := by decide +kernel
theorem dX11_rungWhy_5 : decode cX11_rungWhy 5 = .ok (.iload_n 1, 1) := by decide +kernel
theorem dX11_rungWhy_6 : decode cX11_rungWhy 6 = .ok (.iconst 1, 1) := by decide +kernel
theorem dX11_rungWhy_7 : decode cX11_rungWhy 7 = .ok (.sipush 200, 3) := by decide +kernel
theorem dX11_rungWhy_10 : decode cX11_rungWhy 10 = .ok (.invokestatic 143, 3) := by decide +kernel
theorem dX11_rungWhy_13 : decode cX11_rungWhy 13 = .ok (.invokevirtual 297, 3) := by decide +kernel
theorem dX11_rungWhy_16 : decode cX11_rungWhy 16 = .ok (.ireturn, 1) := by decide +kernel
theorem dX11_rungs_0 : decode cX11_rungs 0 = .ok (.aload_n 0, 1) := by decide +kernel
theorem dX11_rungs_1 : decode cX11_rungs 1 = .ok (.invokevirtual 147, 3) := by decide +kernel
theorem dX11_rungs_4 : decode cX11_rungs 4 = .ok (.aload_n 0, 1) := by decide +kernel
theorem dX11_rungs_5 : decode cX11_rungs 5 = .ok (.iload_n 1, 1) := by decide +kernel
theorem dX11_rungs_6 : decode cX11_rungs 6 = .ok (.invokevirtual 327, 3) := by decide +kernel
theorem dX11_rungs_9 : decode cX11_rungs 9 = .ok (.istore_n 2, 1) := by decide +kernel
theorem dX11_rungs_10 : decode cX11_rungs 10 = .ok (.iload_n 2, 1) := by decide +kernel
theorem dX11_rungs_11 : decode cX11_rungs 11 = .ok (.ifCond .eq 11, 3) := by decide +kernel
theorem dX11_rungs_14 : decode cX11_rungs 14 = .ok (.aload_n 0, 1) := by decide +kernel
theorem dX11_rungs_15 : decode cX11_rungs 15 = .ok (.iload_n 2, 1) := by decide +kernel
theorem dX11_rungs_16 : decode cX11_rungs 16 = .ok (.invokevirtual 150, 3) := by decide +kernel
theorem dX11_rungs_19 : decode cX11_rungs 19 = .ok (.goto 9, 3) := by decide +kernel
theorem dX11_rungs_22 : decode cX11_rungs 22 = .ok (.aload_n 0, 1) := by decide +kernel
theorem dX11_rungs_23 : decode cX11_rungs 23 = .ok (.iload_n 1, 1) := by decide +kernel
theorem dX11_rungs_24 : decode cX11_rungs 24 = .ok (.iconst (-1), 1) := by decide +kernel
theorem dX11_rungs_25 : decode cX11_rungs 25 = .ok (.invokevirtual 330, 3) := by decide +kernel
theorem dX11_rungs_28 : decode cX11_rungs 28 = .ok (.ireturn, 1) := by decide +kernel
theorem dX11_rung_0 : decode cX11_rung 0 = .ok (.aload_n 0, 1) := by decide +kernel
theorem dX11_rung_1 : decode cX11_rung 1 = .ok (.iload_n 1, 1) := by decide +kernel
theorem dX11_rung_2 : decode cX11_rung 2 = .ok (.invokevirtual 327, 3) := by decide +kernel
theorem dX11_rung_5 : decode cX11_rung 5 = .ok (.istore 4, 2) := by decide +kernel
theorem dX11_rung_7 : decode cX11_rung 7 = .ok (.iload 4, 2) := by decide +kernel
theorem dX11_rung_9 : decode cX11_rung 9 = .ok (.ifCond .ne 20, 3) := by decide +kernel
theorem dX11_rung_12 : decode cX11_rung 12 = .ok (.iload_n 2, 1) := by decide +kernel
theorem dX11_rung_13 : decode cX11_rung 13 = .ok (.ifCond .lt 12, 3) := by decide +kernel
theorem dX11_rung_16 : decode cX11_rung 16 = .ok (.aload_n 0, 1) := by decide +kernel
theorem dX11_rung_17 : decode cX11_rung 17 = .ok (.iload_n 1, 1) := by decide +kernel
theorem dX11_rung_18 : decode cX11_rung 18 = .ok (.iload_n 2, 1) := by decide +kernel
theorem dX11_rung_19 : decode cX11_rung 19 = .ok (.invokevirtual 330, 3) := by decide +kernel
theorem dX11_rung_22 : decode cX11_rung 22 = .ok (.ifCond .lt 7, 3) := by decide +kernel
theorem dX11_rung_25 : decode cX11_rung 25 = .ok (.bipush 6, 2) := by decide +kernel
theorem dX11_rung_27 : decode cX11_rung 27 = .ok (.istore 4, 2) := by decide +kernel
theorem dX11_rung_29 : decode cX11_rung 29 = .ok (.iload 4, 2) := by decide +kernel
theorem dX11_rung_31 : decode cX11_rung 31 = .ok (.ifCond .eq 12, 3) := by decide +kernel
theorem dX11_rung_34 : decode cX11_rung 34 = .ok (.aload_n 0, 1) := by decide +kernel
theorem dX11_rung_35 : decode cX11_rung 35 = .ok (.iload 4, 2) := by decide +kernel
theorem dX11_rung_37 : decode cX11_rung 37 = .ok (.invokevirtual 150, 3) := by decide +kernel
theorem dX11_rung_40 : decode cX11_rung 40 = .ok (.goto 18, 3) := by decide +kernel
theorem dX11_rung_43 : decode cX11_rung 43 = .ok (.iload_n 3, 1) := by decide +kernel
theorem dX11_rung_44 : decode cX11_rung 44 = .ok (.ifCond .eq 10, 3) := by decide +kernel
theorem dX11_rung_47 : decode cX11_rung 47 = .ok (.aload_n 0, 1) := by decide +kernel
theorem dX11_rung_48 : decode cX11_rung 48 = .ok (.getfield 324, 3) := by decide +kernel
theorem dX11_rung_51 : decode cX11_rung 51 = .ok (.goto 7, 3) := by decide +kernel
theorem dX11_rung_54 : decode cX11_rung 54 = .ok (.aload_n 0, 1) := by decide +kernel
theorem dX11_rung_55 : decode cX11_rung 55 = .ok (.getfield 321, 3) := by decide +kernel
theorem dX11_rung_58 : decode cX11_rung 58 = .ok (.ireturn, 1) := by decide +kernel
theorem dX11_rungUpper_0 : decode cX11_rungUpper 0 = .ok (.aload_n 0, 1) := by decide +kernel
theorem dX11_rungUpper_1 : decode cX11_rungUpper 1 = .ok (.invokevirtual 147, 3) := by decide +kernel
theorem dX11_rungUpper_4 : decode cX11_rungUpper 4 = .ok (.aload_n 0, 1) := by decide +kernel
theorem dX11_rungUpper_5 : decode cX11_rungUpper 5 = .ok (.iload_n 1, 1) := by decide +kernel
theorem dX11_rungUpper_6 : decode cX11_rungUpper 6 = .ok (.iload_n 2, 1) := by decide +kernel
theorem dX11_rungUpper_7 : decode cX11_rungUpper 7 = .ok (.iconst 0, 1) := by decide +kernel
theorem dX11_rungUpper_8 : decode cX11_rungUpper 8 = .ok (.invokevirtual 333, 3) := by decide +kernel
theorem dX11_rungUpper_11 : decode cX11_rungUpper 11 = .ok (.ireturn, 1) := by decide +kernel
theorem dX11_rungLower_0 : decode cX11_rungLower 0 = .ok (.aload_n 0, 1) := by decide +kernel
theorem dX11_rungLower_1 : decode cX11_rungLower 1 = .ok (.invokevirtual 147, 3) := by decide +kernel
theorem dX11_rungLower_4 : decode cX11_rungLower 4 = .ok (.aload_n 0, 1) := by decide +kernel
theorem dX11_rungLower_5 : decode cX11_rungLower 5 = .ok (.iload_n 1, 1) := by decide +kernel
theorem dX11_rungLower_6 : decode cX11_rungLower 6 = .ok (.iload_n 2, 1) := by decide +kernel
theorem dX11_rungLower_7 : decode cX11_rungLower 7 = .ok (.iconst 1, 1) := by decide +kernel
theorem dX11_rungLower_8 : decode cX11_rungLower 8 = .ok (.invokevirtual 333, 3) := by decide +kernel
theorem dX11_rungLower_11 : decode cX11_rungLower 11 = .ok (.ireturn, 1) := by decide +kernel
theorem dX11_knotOf_0 : decode cX11_knotOf 0 = .ok (.iload_n 2, 1) := by decide +kernel
theorem dX11_knotOf_1 : decode cX11_knotOf 1 = .ok (.ifCond .eq 14, 3) := by decide +kernel
theorem dX11_knotOf_4 : decode cX11_knotOf 4 = .ok (.aload_n 0, 1) := by decide +kernel
theorem dX11_knotOf_5 : decode cX11_knotOf 5 = .ok (.getfield 26, 3) := by decide +kernel
theorem dX11_knotOf_8 : decode cX11_knotOf 8 = .ok (.iconst 5, 1) := by decide +kernel
theorem dX11_knotOf_9 : decode cX11_knotOf 9 = .ok (.iload_n 1, 1) := by decide +kernel
theorem dX11_knotOf_10 : decode cX11_knotOf 10 = .ok (.iadd, 1) := by decide +kernel
theorem dX11_knotOf_11 : decode cX11_knotOf 11 = .ok (.iaload, 1) := by decide +kernel
theorem dX11_knotOf_12 : decode cX11_knotOf 12 = .ok (.goto 12, 3) := by decide +kernel
theorem dX11_knotOf_15 : decode cX11_knotOf 15 = .ok (.aload_n 0, 1) := by decide +kernel
theorem dX11_knotOf_16 : decode cX11_knotOf 16 = .ok (.getfield 26, 3) := by decide +kernel
theorem dX11_knotOf_19 : decode cX11_knotOf 19 = .ok (.iload_n 1, 1) := by decide +kernel
theorem dX11_knotOf_20 : decode cX11_knotOf 20 = .ok (.iaload, 1) := by decide +kernel
theorem dX11_knotOf_21 : decode cX11_knotOf 21 = .ok (.invokestatic 60, 3) := by decide +kernel
theorem dX11_knotOf_24 : decode cX11_knotOf 24 = .ok (.ireturn, 1) := by decide +kernel
theorem dX11_knot_0 : decode cX11_knot 0 = .ok (.aload_n 0, 1) := by decide +kernel
theorem dX11_knot_1 : decode cX11_knot 1 = .ok (.invokevirtual 147, 3) := by decide +kernel
theorem dX11_knot_4 : decode cX11_knot 4 = .ok (.aload_n 0, 1) := by decide +kernel
theorem dX11_knot_5 : decode cX11_knot 5 = .ok (.iload_n 1, 1) := by decide +kernel
theorem dX11_knot_6 : decode cX11_knot 6 = .ok (.invokevirtual 239, 3) := by decide +kernel
theorem dX11_knot_9 : decode cX11_knot 9 = .ok (.ifCond .eq 12, 3) := by decide +kernel
theorem dX11_knot_12 : decode cX11_knot 12 = .ok (.aload_n 0, 1) := by decide +kernel
theorem dX11_knot_13 : decode cX11_knot 13 = .ok (.iload_n 1, 1) := by decide +kernel
theorem dX11_knot_14 : decode cX11_knot 14 = .ok (.iload_n 2, 1) := by decide +kernel
theorem dX11_knot_15 : decode cX11_knot 15 = .ok (.invokevirtual 337, 3) := by decide +kernel
theorem dX11_knot_18 : decode cX11_knot 18 = .ok (.goto 8, 3) := by decide +kernel
theorem dX11_knot_21 : decode cX11_knot 21 = .ok (.aload_n 0, 1) := by decide +kernel
theorem dX11_knot_22 : decode cX11_knot 22 = .ok (.iconst 1, 1) := by decide +kernel
theorem dX11_knot_23 : decode cX11_knot 23 = .ok (.invokevirtual 150, 3) := by decide +kernel
theorem dX11_knot_26 : decode cX11_knot 26 = .ok (.ireturn, 1) := by decide +kernel
theorem dX11_rings_0 : decode cX11_rings 0 = .ok (.aload_n 0, 1) := by decide +kernel
theorem dX11_rings_1 : decode cX11_rings 1 = .ok (.invokevirtual 147, 3) := by decide +kernel
theorem dX11_rings_4 : decode cX11_rings 4 = .ok (.aload_n 0, 1) := by decide +kernel
theorem dX11_rings_5 : decode cX11_rings 5 = .ok (.iload_n 1, 1) := by decide +kernel
theorem dX11_rings_6 : decode cX11_rings 6 = .ok (.invokevirtual 239, 3) := by decide +kernel
theorem dX11_rings_9 : decode cX11_rings 9 = .ok (.ifCond .eq 16, 3) := by decide +kernel
theorem dX11_rings_12 : decode cX11_rings 12 = .ok (.iconst 2, 1) := by decide +kernel
theorem dX11_rings_13 : decode cX11_rings 13 = .ok (.aload_n 0, 1) := by decide +kernel
theorem dX11_rings_14 : decode cX11_rings 14 = .ok (.iload_n 1, 1) := by decide +kernel
theorem dX11_rings_15 : decode cX11_rings 15 = .ok (.iload_n 2, 1) := by decide +kernel
theorem dX11_rings_16 : decode cX11_rings 16 = .ok (.invokevirtual 337, 3) := by decide +kernel
theorem dX11_rings_19 : decode cX11_rings 19 = .ok (.iconst 2, 1) := by decide +kernel
theorem dX11_rings_20 : decode cX11_rings 20 = .ok (.irem, 1) := by decide +kernel
theorem dX11_rings_21 : decode cX11_rings 21 = .ok (.isub, 1) := by decide +kernel
theorem dX11_rings_22 : decode cX11_rings 22 = .ok (.goto 8, 3) := by decide +kernel
theorem dX11_rings_25 : decode cX11_rings 25 = .ok (.aload_n 0, 1) := by decide +kernel
theorem dX11_rings_26 : decode cX11_rings 26 = .ok (.iconst 1, 1) := by decide +kernel
theorem dX11_rings_27 : decode cX11_rings 27 = .ok (.invokevirtual 150, 3) := by decide +kernel
theorem dX11_rings_30 : decode cX11_rings 30 = .ok (.ireturn, 1) := by decide +kernel
theorem dX11_colours_0 : decode cX11_colours 0 = .ok (.aload_n 0, 1) := by decide +kernel
theorem dX11_colours_1 : decode cX11_colours 1 = .ok (.invokevirtual 147, 3) := by decide +kernel
theorem dX11_colours_4 : decode cX11_colours 4 = .ok (.aload_n 0, 1) := by decide +kernel
theorem dX11_colours_5 : decode cX11_colours 5 = .ok (.aload_n 0, 1) := by decide +kernel
theorem dX11_colours_6 : decode cX11_colours 6 = .ok (.iload_n 1, 1) := by decide +kernel
theorem dX11_colours_7 : decode cX11_colours 7 = .ok (.invokevirtual 239, 3) := by decide +kernel
theorem dX11_colours_10 : decode cX11_colours 10 = .ok (.iload_n 3, 1) := by decide +kernel
theorem dX11_colours_11 : decode cX11_colours 11 = .ok (.iconst 2, 1) := by decide +kernel
theorem dX11_colours_12 : decode cX11_colours 12 = .ok (.bipush 99, 2) := by decide +kernel
theorem dX11_colours_14 : decode cX11_colours 14 = .ok (.invokestatic 143, 3) := by decide +kernel
theorem dX11_colours_17 : decode cX11_colours 17 = .ok (.invokevirtual 297, 3) := by decide +kernel
theorem dX11_colours_20 : decode cX11_colours 20 = .ok (.istore 4, 2) := by decide +kernel
theorem dX11_colours_22 : decode cX11_colours 22 = .ok (.iload 4, 2) := by decide +kernel
theorem dX11_colours_24 : decode cX11_colours 24 = .ok (.ifCond .eq 12, 3) := by decide +kernel
theorem dX11_colours_27 : decode cX11_colours 27 = .ok (.aload_n 0, 1) := by decide +kernel
theorem dX11_colours_28 : decode cX11_colours 28 = .ok (.iload 4, 2) := by decide +kernel
theorem dX11_colours_30 : decode cX11_colours 30 = .ok (.invokevirtual 150, 3) := by decide +kernel
theorem dX11_colours_33 : decode cX11_colours 33 = .ok (.goto 15, 3) := by decide +kernel
theorem dX11_colours_36 : decode cX11_colours 36 = .ok (.iload_n 3, 1) := by decide +kernel
theorem dX11_colours_37 : decode cX11_colours 37 = .ok (.iload_n 3, 1) := by decide +kernel
theorem dX11_colours_38 : decode cX11_colours 38 = .ok (.aload_n 0, 1) := by decide +kernel
theorem dX11_colours_39 : decode cX11_colours 39 = .ok (.iload_n 1, 1) := by decide +kernel
theorem dX11_colours_40 : decode cX11_colours 40 = .ok (.iload_n 2, 1) := by decide +kernel
theorem dX11_colours_41 : decode cX11_colours 41 = .ok (.invokevirtual 337, 3) := by decide +kernel
theorem dX11_colours_44 : decode cX11_colours 44 = .ok (.invokestatic 285, 3) := by decide +kernel
theorem dX11_colours_47 : decode cX11_colours 47 = .ok (.imul, 1) := by decide +kernel
theorem dX11_colours_48 : decode cX11_colours 48 = .ok (.ireturn, 1) := by decide +kernel
theorem dX11_beside_0 : decode cX11_beside 0 = .ok (.aload_n 0, 1) := by decide +kernel
theorem dX11_beside_1 : decode cX11_beside 1 = .ok (.invokevirtual 147, 3) := by decide +kernel
theorem dX11_beside_4 : decode cX11_beside 4 = .ok (.aload_n 0, 1) := by decide +kernel
theorem dX11_beside_5 : decode cX11_beside 5 = .ok (.iload_n 1, 1) := by decide +kernel
theorem dX11_beside_6 : decode cX11_beside 6 = .ok (.invokevirtual 239, 3) := by decide +kernel
theorem dX11_beside_9 : decode cX11_beside 9 = .ok (.ifCond .eq 11, 3) := by decide +kernel
theorem dX11_beside_12 : decode cX11_beside 12 = .ok (.aload_n 0, 1) := by decide +kernel
theorem dX11_beside_13 : decode cX11_beside 13 = .ok (.iload_n 2, 1) := by decide +kernel
theorem dX11_beside_14 : decode cX11_beside 14 = .ok (.invokevirtual 239, 3) := by decide +kernel
theorem dX11_beside_17 : decode cX11_beside 17 = .ok (.ifCond .ne 9, 3) := by decide +kernel
theorem dX11_beside_20 : decode cX11_beside 20 = .ok (.aload_n 0, 1) := by decide +kernel
theorem dX11_beside_21 : decode cX11_beside 21 = .ok (.iconst 1, 1) := by decide +kernel
theorem dX11_beside_22 : decode cX11_beside 22 = .ok (.invokevirtual 150, 3) := by decide +kernel
theorem dX11_beside_25 : decode cX11_beside 25 = .ok (.ireturn, 1) := by decide +kernel
theorem dX11_beside_26 : decode cX11_beside 26 = .ok (.aload_n 0, 1) := by decide +kernel
theorem dX11_beside_27 : decode cX11_beside 27 = .ok (.getfield 26, 3) := by decide +kernel
theorem dX11_beside_30 : decode cX11_beside 30 = .ok (.iload_n 1, 1) := by decide +kernel
theorem dX11_beside_31 : decode cX11_beside 31 = .ok (.iaload, 1) := by decide +kernel
theorem dX11_beside_32 : decode cX11_beside 32 = .ok (.aload_n 0, 1) := by decide +kernel
theorem dX11_beside_33 : decode cX11_beside 33 = .ok (.getfield 26, 3) := by decide +kernel
theorem dX11_beside_36 : decode cX11_beside 36 = .ok (.iconst 5, 1) := by decide +kernel
theorem dX11_beside_37 : decode cX11_beside 37 = .ok (.iload_n 2, 1) := by decide +kernel
theorem dX11_beside_38 : decode cX11_beside 38 = .ok (.iadd, 1) := by decide +kernel
theorem dX11_beside_39 : decode cX11_beside 39 = .ok (.iaload, 1) := by decide +kernel
theorem dX11_beside_40 : decode cX11_beside 40 = .ok (.imul, 1) := by decide +kernel
theorem dX11_beside_41 : decode cX11_beside 41 = .ok (.aload_n 0, 1) := by decide +kernel
theorem dX11_beside_42 : decode cX11_beside 42 = .ok (.getfield 26, 3) := by decide +kernel
theorem dX11_beside_45 : decode cX11_beside 45 = .ok (.iload_n 2, 1) := by decide +kernel
theorem dX11_beside_46 : decode cX11_beside 46 = .ok (.iaload, 1) := by decide +kernel
theorem dX11_beside_47 : decode cX11_beside 47 = .ok (.aload_n 0, 1) := by decide +kernel
theorem dX11_beside_48 : decode cX11_beside 48 = .ok (.getfield 26, 3) := by decide +kernel
theorem dX11_beside_51 : decode cX11_beside 51 = .ok (.iconst 5, 1) := by decide +kernel
theorem dX11_beside_52 : decode cX11_beside 52 = .ok (.iload_n 1, 1) := by decide +kernel
theorem dX11_beside_53 : decode cX11_beside 53 = .ok (.iadd, 1) := by decide +kernel
theorem dX11_beside_54 : decode cX11_beside 54 = .ok (.iaload, 1) := by decide +kernel
theorem dX11_beside_55 : decode cX11_beside 55 = .ok (.imul, 1) := by decide +kernel
theorem dX11_beside_56 : decode cX11_beside 56 = .ok (.iadd, 1) := by decide +kernel
theorem dX11_beside_57 : decode cX11_beside 57 = .ok (.invokestatic 60, 3) := by decide +kernel
theorem dX11_beside_60 : decode cX11_beside 60 = .ok (.ireturn, 1) := by decide +kernel
theorem dX11_isKind_0 : decode cX11_isKind 0 = .ok (.iload 4, 2) := by decide +kernel
theorem dX11_isKind_2 : decode cX11_isKind 2 = .ok (.iconst 2, 1) := by decide +kernel
theorem dX11_isKind_3 : decode cX11_isKind 3 = .ok (.if_icmp .lt 29, 3) := by decide +kernel
theorem dX11_isKind_6 : decode cX11_isKind 6 = .ok (.lload_n 0, 1) := by decide +kernel
theorem dX11_isKind_7 : decode cX11_isKind 7 = .ok (.lload_n 2, 1) := by decide +kernel
theorem dX11_isKind_8 : decode cX11_isKind 8 = .ok (.lsub, 1) := by decide +kernel
theorem dX11_isKind_9 : decode cX11_isKind 9 = .ok (.iload 4, 2) := by decide +kernel
theorem dX11_isKind_11 : decode cX11_isKind 11 = .ok (.i2l, 1) := by decide +kernel
theorem dX11_isKind_12 : decode cX11_isKind 12 = .ok (.lrem, 1) := by decide +kernel
theorem dX11_isKind_13 : decode cX11_isKind 13 = .ok (.lconst 0, 1) := by decide +kernel
theorem dX11_isKind_14 : decode cX11_isKind 14 = .ok (.lcmp, 1) := by decide +kernel
theorem dX11_isKind_15 : decode cX11_isKind 15 = .ok (.ifCond .eq 17, 3) := by decide +kernel
theorem dX11_isKind_18 : decode cX11_isKind 18 = .ok (.lload_n 0, 1) := by decide +kernel
theorem dX11_isKind_19 : decode cX11_isKind 19 = .ok (.lload_n 2, 1) := by decide +kernel
theorem dX11_isKind_20 : decode cX11_isKind 20 = .ok (.lmul, 1) := by decide +kernel
theorem dX11_isKind_21 : decode cX11_isKind 21 = .ok (.lconst 1, 1) := by decide +kernel
theorem dX11_isKind_22 : decode cX11_isKind 22 = .ok (.lsub, 1) := by decide +kernel
theorem dX11_isKind_23 : decode cX11_isKind 23 = .ok (.iload 4, 2) := by decide +kernel
theorem dX11_isKind_25 : decode cX11_isKind 25 = .ok (.i2l, 1) := by decide +kernel
theorem dX11_isKind_26 : decode cX11_isKind 26 = .ok (.lrem, 1) := by decide +kernel
theorem dX11_isKind_27 : decode cX11_isKind 27 = .ok (.lconst 0, 1) := by decide +kernel
theorem dX11_isKind_28 : decode cX11_isKind 28 = .ok (.lcmp, 1) := by decide +kernel
theorem dX11_isKind_29 : decode cX11_isKind 29 = .ok (.ifCond .ne 7, 3) := by decide +kernel
theorem dX11_isKind_32 : decode cX11_isKind 32 = .ok (.iconst 1, 1) := by decide +kernel
theorem dX11_isKind_33 : decode cX11_isKind 33 = .ok (.goto 4, 3) := by decide +kernel
theorem dX11_isKind_36 : decode cX11_isKind 36 = .ok (.iconst 0, 1) := by decide +kernel
theorem dX11_isKind_37 : decode cX11_isKind 37 = .ok (.ireturn, 1) := by decide +kernel
theorem dX11_areAlike_0 : decode cX11_areAlike 0 = .ok (.aload_n 0, 1) := by decide +kernel
theorem dX11_areAlike_1 : decode cX11_areAlike 1 = .ok (.iload_n 1, 1) := by decide +kernel
theorem dX11_areAlike_2 : decode cX11_areAlike 2 = .ok (.iconst 0, 1) := by decide +kernel
theorem dX11_areAlike_3 : decode cX11_areAlike 3 = .ok (.invokevirtual 337, 3) := by decide +kernel
theorem dX11_areAlike_6 : decode cX11_areAlike 6 = .ok (.istore 4, 2) := by decide +kernel
theorem dX11_areAlike_8 : decode cX11_areAlike 8 = .ok (.aload_n 0, 1) := by decide +kernel
theorem dX11_areAlike_9 : decode cX11_areAlike 9 = .ok (.getfield 26, 3) := by decide +kernel
theorem dX11_areAlike_12 : decode cX11_areAlike 12 = .ok (.iload_n 1, 1) := by decide +kernel
theorem dX11_areAlike_13 : decode cX11_areAlike 13 = .ok (.iaload, 1) := by decide +kernel
theorem dX11_areAlike_14 : decode cX11_areAlike 14 = .ok (.ifCond .ge 16, 3) := by decide +kernel
theorem dX11_areAlike_17 : decode cX11_areAlike 17 = .ok (.aload_n 0, 1) := by decide +kernel
theorem dX11_areAlike_18 : decode cX11_areAlike 18 = .ok (.getfield 26, 3) := by decide +kernel
theorem dX11_areAlike_21 : decode cX11_areAlike 21 = .ok (.iconst 5, 1) := by decide +kernel
theorem dX11_areAlike_22 : decode cX11_areAlike 22 = .ok (.iload_n 1, 1) := by decide +kernel
theorem dX11_areAlike_23 : decode cX11_areAlike 23 = .ok (.iadd, 1) := by decide +kernel
theorem dX11_areAlike_24 : decode cX11_areAlike 24 = .ok (.iaload, 1) := by decide +kernel
theorem dX11_areAlike_25 : decode cX11_areAlike 25 = .ok (.ineg, 1) := by decide +kernel
theorem dX11_areAlike_26 : decode cX11_areAlike 26 = .ok (.i2l, 1) := by decide +kernel
theorem dX11_areAlike_27 : decode cX11_areAlike 27 = .ok (.goto 12, 3) := by decide +kernel
theorem dX11_areAlike_30 : decode cX11_areAlike 30 = .ok (.aload_n 0, 1) := by decide +kernel
theorem dX11_areAlike_31 : decode cX11_areAlike 31 = .ok (.getfield 26, 3) := by decide +kernel
theorem dX11_areAlike_34 : decode cX11_areAlike 34 = .ok (.iconst 5, 1) := by decide +kernel
theorem dX11_areAlike_35 : decode cX11_areAlike 35 = .ok (.iload_n 1, 1) := by decide +kernel
theorem dX11_areAlike_36 : decode cX11_areAlike 36 = .ok (.iadd, 1) := by decide +kernel
theorem dX11_areAlike_37 : decode cX11_areAlike 37 = .ok (.iaload, 1) := by decide +kernel
theorem dX11_areAlike_38 : decode cX11_areAlike 38 = .ok (.i2l, 1) := by decide +kernel
theorem dX11_areAlike_39 : decode cX11_areAlike 39 = .ok (.lstore 5, 2) := by decide +kernel
theorem dX11_areAlike_41 : decode cX11_areAlike 41 = .ok (.aload_n 0, 1) := by decide +kernel
theorem dX11_areAlike_42 : decode cX11_areAlike 42 = .ok (.getfield 26, 3) := by decide +kernel
theorem dX11_areAlike_45 : decode cX11_areAlike 45 = .ok (.iload_n 2, 1) := by decide +kernel
theorem dX11_areAlike_46 : decode cX11_areAlike 46 = .ok (.iaload, 1) := by decide +kernel
theorem dX11_areAlike_47 : decode cX11_areAlike 47 = .ok (.ifCond .ge 16, 3) := by decide +kernel
theorem dX11_areAlike_50 : decode cX11_areAlike 50 = .ok (.aload_n 0, 1) := by decide +kernel
theorem dX11_areAlike_51 : decode cX11_areAlike 51 = .ok (.getfield 26, 3) := by decide +kernel
theorem dX11_areAlike_54 : decode cX11_areAlike 54 = .ok (.iconst 5, 1) := by decide +kernel
theorem dX11_areAlike_55 : decode cX11_areAlike 55 = .ok (.iload_n 2, 1) := by decide +kernel
theorem dX11_areAlike_56 : decode cX11_areAlike 56 = .ok (.iadd, 1) := by decide +kernel
theorem dX11_areAlike_57 : decode cX11_areAlike 57 = .ok (.iaload, 1) := by decide +kernel
theorem dX11_areAlike_58 : decode cX11_areAlike 58 = .ok (.ineg, 1) := by decide +kernel
theorem dX11_areAlike_59 : decode cX11_areAlike 59 = .ok (.i2l, 1) := by decide +kernel
theorem dX11_areAlike_60 : decode cX11_areAlike 60 = .ok (.goto 12, 3) := by decide +kernel
theorem dX11_areAlike_63 : decode cX11_areAlike 63 = .ok (.aload_n 0, 1) := by decide +kernel
theorem dX11_areAlike_64 : decode cX11_areAlike 64 = .ok (.getfield 26, 3) := by decide +kernel
theorem dX11_areAlike_67 : decode cX11_areAlike 67 = .ok (.iconst 5, 1) := by decide +kernel
theorem dX11_areAlike_68 : decode cX11_areAlike 68 = .ok (.iload_n 2, 1) := by decide +kernel
theorem dX11_areAlike_69 : decode cX11_areAlike 69 = .ok (.iadd, 1) := by decide +kernel
theorem dX11_areAlike_70 : decode cX11_areAlike 70 = .ok (.iaload, 1) := by decide +kernel
theorem dX11_areAlike_71 : decode cX11_areAlike 71 = .ok (.i2l, 1) := by decide +kernel
theorem dX11_areAlike_72 : decode cX11_areAlike 72 = .ok (.lstore 7, 2) := by decide +kernel
theorem dX11_areAlike_74 : decode cX11_areAlike 74 = .ok (.aload_n 0, 1) := by decide +kernel
theorem dX11_areAlike_75 : decode cX11_areAlike 75 = .ok (.iload_n 2, 1) := by decide +kernel
theorem dX11_areAlike_76 : decode cX11_areAlike 76 = .ok (.iconst 0, 1) := by decide +kernel
theorem dX11_areAlike_77 : decode cX11_areAlike 77 = .ok (.invokevirtual 337, 3) := by decide +kernel
theorem dX11_areAlike_80 : decode cX11_areAlike 80 = .ok (.iload 4, 2) := by decide +kernel
theorem dX11_areAlike_82 : decode cX11_areAlike 82 = .ok (.if_icmp .ne 29, 3) := by decide +kernel
theorem dX11_areAlike_85 : decode cX11_areAlike 85 = .ok (.iload_n 3, 1) := by decide +kernel
theorem dX11_areAlike_86 : decode cX11_areAlike 86 = .ok (.ifCond .eq 9, 3) := by decide +kernel
theorem dX11_areAlike_89 : decode cX11_areAlike 89 = .ok (.lload 5, 2) := by decide +kernel
theorem dX11_areAlike_91 : decode cX11_areAlike 91 = .ok (.lneg, 1) := by decide +kernel
theorem dX11_areAlike_92 : decode cX11_areAlike 92 = .ok (.goto 5, 3) := by decide +kernel
theorem dX11_areAlike_95 : decode cX11_areAlike 95 = .ok (.lload 5, 2) := by decide +kernel
theorem dX11_areAlike_97 : decode cX11_areAlike 97 = .ok (.lload 7, 2) := by decide +kernel
theorem dX11_areAlike_99 : decode cX11_areAlike 99 = .ok (.iload 4, 2) := by decide +kernel
theorem dX11_areAlike_101 : decode cX11_areAlike 101 = .ok (.invokestatic 341, 3) := by decide +kernel
theorem dX11_areAlike_104 : decode cX11_areAlike 104 = .ok (.ifCond .eq 7, 3) := by decide +kernel
theorem dX11_areAlike_107 : decode cX11_areAlike 107 = .ok (.iconst 1, 1) := by decide +kernel
theorem dX11_areAlike_108 : decode cX11_areAlike 108 = .ok (.goto 4, 3) := by decide +kernel
theorem dX11_areAlike_111 : decode cX11_areAlike 111 = .ok (.iconst 0, 1) := by decide +kernel
theorem dX11_areAlike_112 : decode cX11_areAlike 112 = .ok (.ireturn, 1) := by decide +kernel
theorem dX11_alike_0 : decode cX11_alike 0 = .ok (.aload_n 0, 1) := by decide +kernel
theorem dX11_alike_1 : decode cX11_alike 1 = .ok (.invokevirtual 147, 3) := by decide +kernel
theorem dX11_alike_4 : decode cX11_alike 4 = .ok (.aload_n 0, 1) := by decide +kernel
theorem dX11_alike_5 : decode cX11_alike 5 = .ok (.iload_n 1, 1) := by decide +kernel
theorem dX11_alike_6 : decode cX11_alike 6 = .ok (.invokevirtual 239, 3) := by decide +kernel
theorem dX11_alike_9 : decode cX11_alike 9 = .ok (.ifCond .eq 11, 3) := by decide +kernel
theorem dX11_alike_12 : decode cX11_alike 12 = .ok (.aload_n 0, 1) := by decide +kernel
theorem dX11_alike_13 : decode cX11_alike 13 = .ok (.iload_n 2, 1) := by decide +kernel
theorem dX11_alike_14 : decode cX11_alike 14 = .ok (.invokevirtual 239, 3) := by decide +kernel
theorem dX11_alike_17 : decode cX11_alike 17 = .ok (.ifCond .ne 9, 3) := by decide +kernel
theorem dX11_alike_20 : decode cX11_alike 20 = .ok (.aload_n 0, 1) := by decide +kernel
theorem dX11_alike_21 : decode cX11_alike 21 = .ok (.iconst 1, 1) := by decide +kernel
theorem dX11_alike_22 : decode cX11_alike 22 = .ok (.invokevirtual 150, 3) := by decide +kernel
theorem dX11_alike_25 : decode cX11_alike 25 = .ok (.ireturn, 1) := by decide +kernel
theorem dX11_alike_26 : decode cX11_alike 26 = .ok (.aload_n 0, 1) := by decide +kernel
theorem dX11_alike_27 : decode cX11_alike 27 = .ok (.iload_n 1, 1) := by decide +kernel
theorem dX11_alike_28 : decode cX11_alike 28 = .ok (.iload_n 2, 1) := by decide +kernel
theorem dX11_alike_29 : decode cX11_alike 29 = .ok (.iconst 0, 1) := by decide +kernel
theorem dX11_alike_30 : decode cX11_alike 30 = .ok (.invokevirtual 345, 3) := by decide +kernel
theorem dX11_alike_33 : decode cX11_alike 33 = .ok (.ifCond .eq 7, 3) := by decide +kernel
theorem dX11_alike_36 : decode cX11_alike 36 = .ok (.iconst 1, 1) := by decide +kernel
theorem dX11_alike_37 : decode cX11_alike 37 = .ok (.goto 4, 3) := by decide +kernel
theorem dX11_alike_40 : decode cX11_alike 40 = .ok (.iconst 0, 1) := by decide +kernel
theorem dX11_alike_41 : decode cX11_alike 41 = .ok (.ireturn, 1) := by decide +kernel
theorem dX11_mirrored_0 : decode cX11_mirrored 0 = .ok (.aload_n 0, 1) := by decide +kernel
theorem dX11_mirrored_1 : decode cX11_mirrored 1 = .ok (.invokevirtual 147, 3) := by decide +kernel
theorem dX11_mirrored_4 : decode cX11_mirrored 4 = .ok (.aload_n 0, 1) := by decide +kernel
theorem dX11_mirrored_5 : decode cX11_mirrored 5 = .ok (.iload_n 1, 1) := by decide +kernel
theorem dX11_mirrored_6 : decode cX11_mirrored 6 = .ok (.invokevirtual 239, 3) := by decide +kernel
theorem dX11_mirrored_9 : decode cX11_mirrored 9 = .ok (.ifCond .eq 11, 3) := by decide +kernel
theorem dX11_mirrored_12 : decode cX11_mirrored 12 = .ok (.aload_n 0, 1) := by decide +kernel
theorem dX11_mirrored_13 : decode cX11_mirrored 13 = .ok (.iload_n 2, 1) := by decide +kernel
theorem dX11_mirrored_14 : decode cX11_mirrored 14 = .ok (.invokevirtual 239, 3) := by decide +kernel
theorem dX11_mirrored_17 : decode cX11_mirrored 17 = .ok (.ifCond .ne 9, 3) := by decide +kernel
theorem dX11_mirrored_20 : decode cX11_mirrored 20 = .ok (.aload_n 0, 1) := by decide +kernel
theorem dX11_mirrored_21 : decode cX11_mirrored 21 = .ok (.iconst 1, 1) := by decide +kernel
theorem dX11_mirrored_22 : decode cX11_mirrored 22 = .ok (.invokevirtual 150, 3) := by decide +kernel
theorem dX11_mirrored_25 : decode cX11_mirrored 25 = .ok (.ireturn, 1) := by decide +kernel
theorem dX11_mirrored_26 : decode cX11_mirrored 26 = .ok (.aload_n 0, 1) := by decide +kernel
theorem dX11_mirrored_27 : decode cX11_mirrored 27 = .ok (.iload_n 1, 1) := by decide +kernel
theorem dX11_mirrored_28 : decode cX11_mirrored 28 = .ok (.iload_n 2, 1) := by decide +kernel
theorem dX11_mirrored_29 : decode cX11_mirrored 29 = .ok (.iconst 1, 1) := by decide +kernel
theorem dX11_mirrored_30 : decode cX11_mirrored 30 = .ok (.invokevirtual 345, 3) := by decide +kernel
theorem dX11_mirrored_33 : decode cX11_mirrored 33 = .ok (.ifCond .eq 7, 3) := by decide +kernel
theorem dX11_mirrored_36 : decode cX11_mirrored 36 = .ok (.iconst 1, 1) := by decide +kernel
theorem dX11_mirrored_37 : decode cX11_mirrored 37 = .ok (.goto 4, 3) := by decide +kernel
theorem dX11_mirrored_40 : decode cX11_mirrored 40 = .ok (.iconst 0, 1) := by decide +kernel
theorem dX11_mirrored_41 : decode cX11_mirrored 41 = .ok (.ireturn, 1) := by decide +kernel
theorem dX11_kinds_0 : decode cX11_kinds 0 = .ok (.aload_n 0, 1) := by decide +kernel
theorem dX11_kinds_1 : decode cX11_kinds 1 = .ok (.invokevirtual 147, 3) := by decide +kernel
theorem dX11_kinds_4 : decode cX11_kinds 4 = .ok (.aload_n 0, 1) := by decide +kernel
theorem dX11_kinds_5 : decode cX11_kinds 5 = .ok (.aload_n 0, 1) := by decide +kernel
theorem dX11_kinds_6 : decode cX11_kinds 6 = .ok (.getfield 163, 3) := by decide +kernel
theorem dX11_kinds_9 : decode cX11_kinds 9 = .ok (.iload_n 1, 1) := by decide +kernel
theorem dX11_kinds_10 : decode cX11_kinds 10 = .ok (.iconst 1, 1) := by decide +kernel
theorem dX11_kinds_11 : decode cX11_kinds 11 = .ok (.sipush 200, 3) := by decide +kernel
theorem dX11_kinds_14 : decode cX11_kinds 14 = .ok (.invokestatic 143, 3) := by decide +kernel
theorem dX11_kinds_17 : decode cX11_kinds 17 = .ok (.invokevirtual 297, 3) := by decide +kernel
theorem dX11_kinds_20 : decode cX11_kinds 20 = .ok (.istore_n 3, 1) := by decide +kernel
theorem dX11_kinds_21 : decode cX11_kinds 21 = .ok (.iload_n 3, 1) := by decide +kernel
theorem dX11_kinds_22 : decode cX11_kinds 22 = .ok (.ifCond .eq 9, 3) := by decide +kernel
theorem dX11_kinds_25 : decode cX11_kinds 25 = .ok (.aload_n 0, 1) := by decide +kernel
theorem dX11_kinds_26 : decode cX11_kinds 26 = .ok (.iload_n 3, 1) := by decide +kernel
theorem dX11_kinds_27 : decode cX11_kinds 27 = .ok (.invokevirtual 150, 3) := by decide +kernel
theorem dX11_kinds_30 : decode cX11_kinds 30 = .ok (.ireturn, 1) := by decide +kernel
theorem dX11_kinds_31 : decode cX11_kinds 31 = .ok (.iconst 0, 1) := by decide +kernel
theorem dX11_kinds_32 : decode cX11_kinds 32 = .ok (.istore 4, 2) := by decide +kernel
theorem dX11_kinds_34 : decode cX11_kinds 34 = .ok (.iconst 1, 1) := by decide +kernel
theorem dX11_kinds_35 : decode cX11_kinds 35 = .ok (.istore 5, 2) := by decide +kernel
theorem dX11_kinds_37 : decode cX11_kinds 37 = .ok (.iload 5, 2) := by decide +kernel
theorem dX11_kinds_39 : decode cX11_kinds 39 = .ok (.iload_n 1, 1) := by decide +kernel
theorem dX11_kinds_40 : decode cX11_kinds 40 = .ok (.if_icmp .gt 109, 3) := by decide +kernel
theorem dX11_kinds_43 : decode cX11_kinds 43 = .ok (.iload 5, 2) := by decide +kernel
theorem dX11_kinds_45 : decode cX11_kinds 45 = .ok (.iload_n 1, 1) := by decide +kernel
theorem dX11_kinds_46 : decode cX11_kinds 46 = .ok (.invokestatic 285, 3) := by decide +kernel
theorem dX11_kinds_49 : decode cX11_kinds 49 = .ok (.iconst 1, 1) := by decide +kernel
theorem dX11_kinds_50 : decode cX11_kinds 50 = .ok (.if_icmp .eq 6, 3) := by decide +kernel
theorem dX11_kinds_53 : decode cX11_kinds 53 = .ok (.goto 90, 3) := by decide +kernel
theorem dX11_kinds_56 : decode cX11_kinds 56 = .ok (.iconst 1, 1) := by decide +kernel
theorem dX11_kinds_57 : decode cX11_kinds 57 = .ok (.istore 6, 2) := by decide +kernel
theorem dX11_kinds_59 : decode cX11_kinds 59 = .ok (.iconst 1, 1) := by decide +kernel
theorem dX11_kinds_60 : decode cX11_kinds 60 = .ok (.istore 7, 2) := by decide +kernel
theorem dX11_kinds_62 : decode cX11_kinds 62 = .ok (.iload 7, 2) := by decide +kernel
theorem dX11_kinds_64 : decode cX11_kinds 64 = .ok (.iload 5, 2) := by decide +kernel
theorem dX11_kinds_66 : decode cX11_kinds 66 = .ok (.if_icmp .ge 62, 3) := by decide +kernel
theorem dX11_kinds_69 : decode cX11_kinds 69 = .ok (.iload 6, 2) := by decide +kernel
theorem dX11_kinds_71 : decode cX11_kinds 71 = .ok (.ifCond .eq 57, 3) := by decide +kernel
theorem dX11_kinds_74 : decode cX11_kinds 74 = .ok (.iload 7, 2) := by decide +kernel
theorem dX11_kinds_76 : decode cX11_kinds 76 = .ok (.iload_n 1, 1) := by decide +kernel
theorem dX11_kinds_77 : decode cX11_kinds 77 = .ok (.invokestatic 285, 3) := by decide +kernel
theorem dX11_kinds_80 : decode cX11_kinds 80 = .ok (.iconst 1, 1) := by decide +kernel
theorem dX11_kinds_81 : decode cX11_kinds 81 = .ok (.if_icmp .ne 34, 3) := by decide +kernel
theorem dX11_kinds_84 : decode cX11_kinds 84 = .ok (.iload 5, 2) := by decide +kernel
theorem dX11_kinds_86 : decode cX11_kinds 86 = .ok (.i2l, 1) := by decide +kernel
theorem dX11_kinds_87 : decode cX11_kinds 87 = .ok (.iload 7, 2) := by decide +kernel
theorem dX11_kinds_89 : decode cX11_kinds 89 = .ok (.i2l, 1) := by decide +kernel
theorem dX11_kinds_90 : decode cX11_kinds 90 = .ok (.iload_n 1, 1) := by decide +kernel
theorem dX11_kinds_91 : decode cX11_kinds 91 = .ok (.invokestatic 341, 3) := by decide +kernel
theorem dX11_kinds_94 : decode cX11_kinds 94 = .ok (.ifCond .ne 25, 3) := by decide +kernel
theorem dX11_kinds_97 : decode cX11_kinds 97 = .ok (.iload_n 2, 1) := by decide +kernel
theorem dX11_kinds_98 : decode cX11_kinds 98 = .ok (.ifCond .eq 17, 3) := by decide +kernel
theorem dX11_kinds_101 : decode cX11_kinds 101 = .ok (.iload 5, 2) := by decide +kernel
theorem dX11_kinds_103 : decode cX11_kinds 103 = .ok (.ineg, 1) := by decide +kernel
theorem dX11_kinds_104 : decode cX11_kinds 104 = .ok (.i2l, 1) := by decide +kernel
theorem dX11_kinds_105 : decode cX11_kinds 105 = .ok (.iload 7, 2) := by decide +kernel
theorem dX11_kinds_107 : decode cX11_kinds 107 = .ok (.i2l, 1) := by decide +kernel
theorem dX11_kinds_108 : decode cX11_kinds 108 = .ok (.iload_n 1, 1) := by decide +kernel
theorem dX11_kinds_109 : decode cX11_kinds 109 = .ok (.invokestatic 341, 3) := by decide +kernel
theorem dX11_kinds_112 : decode cX11_kinds 112 = .ok (.ifCond .ne 7, 3) := by decide +kernel
theorem dX11_kinds_115 : decode cX11_kinds 115 = .ok (.iconst 1, 1) := by decide +kernel
theorem dX11_kinds_116 : decode cX11_kinds 116 = .ok (.goto 4, 3) := by decide +kernel
theorem dX11_kinds_119 : decode cX11_kinds 119 = .ok (.iconst 0, 1) := by decide +kernel
theorem dX11_kinds_120 : decode cX11_kinds 120 = .ok (.istore 6, 2) := by decide +kernel
theorem dX11_kinds_122 : decode cX11_kinds 122 = .ok (.iinc 7 1, 3) := by decide +kernel
theorem dX11_kinds_125 : decode cX11_kinds 125 = .ok (.goto (-63), 3) := by decide +kernel
theorem dX11_kinds_128 : decode cX11_kinds 128 = .ok (.iload 4, 2) := by decide +kernel
theorem dX11_kinds_130 : decode cX11_kinds 130 = .ok (.iload 6, 2) := by decide +kernel
theorem dX11_kinds_132 : decode cX11_kinds 132 = .ok (.ifCond .eq 7, 3) := by decide +kernel
theorem dX11_kinds_135 : decode cX11_kinds 135 = .ok (.iconst 1, 1) := by decide +kernel
theorem dX11_kinds_136 : decode cX11_kinds 136 = .ok (.goto 4, 3) := by decide +kernel
theorem dX11_kinds_139 : decode cX11_kinds 139 = .ok (.iconst 0, 1) := by decide +kernel
theorem dX11_kinds_140 : decode cX11_kinds 140 = .ok (.iadd, 1) := by decide +kernel
theorem dX11_kinds_141 : decode cX11_kinds 141 = .ok (.istore 4, 2) := by decide +kernel
theorem dX11_kinds_143 : decode cX11_kinds 143 = .ok (.iinc 5 1, 3) := by decide +kernel
theorem dX11_kinds_146 : decode cX11_kinds 146 = .ok (.goto (-109), 3) := by decide +kernel
theorem dX11_kinds_149 : decode cX11_kinds 149 = .ok (.iload 4, 2) := by decide +kernel
theorem dX11_kinds_151 : decode cX11_kinds 151 = .ok (.ireturn, 1) := by decide +kernel
theorem dX11_wrongBy_0 : decode cX11_wrongBy 0 = .ok (.iconst 0, 1) := by decide +kernel
theorem dX11_wrongBy_1 : decode cX11_wrongBy 1 = .ok (.istore_n 2, 1) := by decide +kernel
theorem dX11_wrongBy_2 : decode cX11_wrongBy 2 = .ok (.iload_n 2, 1) := by decide +kernel
theorem dX11_wrongBy_3 : decode cX11_wrongBy 3 = .ok (.aload_n 0, 1) := by decide +kernel
theorem dX11_wrongBy_4 : decode cX11_wrongBy 4 = .ok (.getfield 20, 3) := by decide +kernel
theorem dX11_wrongBy_7 : decode cX11_wrongBy 7 = .ok (.iconst 3, 1) := by decide +kernel
theorem dX11_wrongBy_8 : decode cX11_wrongBy 8 = .ok (.iaload, 1) := by decide +kernel
theorem dX11_wrongBy_9 : decode cX11_wrongBy 9 = .ok (.if_icmp .ge 74, 3) := by decide +kernel
theorem dX11_wrongBy_12 : decode cX11_wrongBy 12 = .ok (.aload_n 0, 1) := by decide +kernel
theorem dX11_wrongBy_13 : decode cX11_wrongBy 13 = .ok (.aload_n 0, 1) := by decide +kernel
theorem dX11_wrongBy_14 : decode cX11_wrongBy 14 = .ok (.getfield 20, 3) := by decide +kernel
theorem dX11_wrongBy_17 : decode cX11_wrongBy 17 = .ok (.bipush 77, 2) := by decide +kernel
theorem dX11_wrongBy_19 : decode cX11_wrongBy 19 = .ok (.iconst 4, 1) := by decide +kernel
theorem dX11_wrongBy_20 : decode cX11_wrongBy 20 = .ok (.iload_n 2, 1) := by decide +kernel
theorem dX11_wrongBy_21 : decode cX11_wrongBy 21 = .ok (.imul, 1) := by decide +kernel
theorem dX11_wrongBy_22 : decode cX11_wrongBy 22 = .ok (.iadd, 1) := by decide +kernel
theorem dX11_wrongBy_23 : decode cX11_wrongBy 23 = .ok (.iaload, 1) := by decide +kernel
theorem dX11_wrongBy_24 : decode cX11_wrongBy 24 = .ok (.aload_n 0, 1) := by decide +kernel
theorem dX11_wrongBy_25 : decode cX11_wrongBy 25 = .ok (.getfield 20, 3) := by decide +kernel
theorem dX11_wrongBy_28 : decode cX11_wrongBy 28 = .ok (.bipush 77, 2) := by decide +kernel
theorem dX11_wrongBy_30 : decode cX11_wrongBy 30 = .ok (.iconst 4, 1) := by decide +kernel
theorem dX11_wrongBy_31 : decode cX11_wrongBy 31 = .ok (.iload_n 2, 1) := by decide +kernel
theorem dX11_wrongBy_32 : decode cX11_wrongBy 32 = .ok (.imul, 1) := by decide +kernel
theorem dX11_wrongBy_33 : decode cX11_wrongBy 33 = .ok (.iadd, 1) := by decide +kernel
theorem dX11_wrongBy_34 : decode cX11_wrongBy 34 = .ok (.iconst 1, 1) := by decide +kernel
theorem dX11_wrongBy_35 : decode cX11_wrongBy 35 = .ok (.iadd, 1) := by decide +kernel
theorem dX11_wrongBy_36 : decode cX11_wrongBy 36 = .ok (.iaload, 1) := by decide +kernel
theorem dX11_wrongBy_37 : decode cX11_wrongBy 37 = .ok (.iload_n 1, 1) := by decide +kernel
theorem dX11_wrongBy_38 : decode cX11_wrongBy 38 = .ok (.iconst 0, 1) := by decide +kernel
theorem dX11_wrongBy_39 : decode cX11_wrongBy 39 = .ok (.invokevirtual 166, 3) := by decide +kernel
theorem dX11_wrongBy_42 : decode cX11_wrongBy 42 = .ok (.aload_n 0, 1) := by decide +kernel
theorem dX11_wrongBy_43 : decode cX11_wrongBy 43 = .ok (.aload_n 0, 1) := by decide +kernel
theorem dX11_wrongBy_44 : decode cX11_wrongBy 44 = .ok (.getfield 20, 3) := by decide +kernel
theorem dX11_wrongBy_47 : decode cX11_wrongBy 47 = .ok (.bipush 77, 2) := by decide +kernel
theorem dX11_wrongBy_49 : decode cX11_wrongBy 49 = .ok (.iconst 4, 1) := by decide +kernel
theorem dX11_wrongBy_50 : decode cX11_wrongBy 50 = .ok (.iload_n 2, 1) := by decide +kernel
theorem dX11_wrongBy_51 : decode cX11_wrongBy 51 = .ok (.imul, 1) := by decide +kernel
theorem dX11_wrongBy_52 : decode cX11_wrongBy 52 = .ok (.iadd, 1) := by decide +kernel
theorem dX11_wrongBy_53 : decode cX11_wrongBy 53 = .ok (.iconst 2, 1) := by decide +kernel
theorem dX11_wrongBy_54 : decode cX11_wrongBy 54 = .ok (.iadd, 1) := by decide +kernel
theorem dX11_wrongBy_55 : decode cX11_wrongBy 55 = .ok (.iaload, 1) := by decide +kernel
theorem dX11_wrongBy_56 : decode cX11_wrongBy 56 = .ok (.invokevirtual 248, 3) := by decide +kernel
theorem dX11_wrongBy_59 : decode cX11_wrongBy 59 = .ok (.aload_n 0, 1) := by decide +kernel
theorem dX11_wrongBy_60 : decode cX11_wrongBy 60 = .ok (.getfield 20, 3) := by decide +kernel
theorem dX11_wrongBy_63 : decode cX11_wrongBy 63 = .ok (.bipush 77, 2) := by decide +kernel
theorem dX11_wrongBy_65 : decode cX11_wrongBy 65 = .ok (.iconst 4, 1) := by decide +kernel
theorem dX11_wrongBy_66 : decode cX11_wrongBy 66 = .ok (.iload_n 2, 1) := by decide +kernel
theorem dX11_wrongBy_67 : decode cX11_wrongBy 67 = .ok (.imul, 1) := by decide +kernel
theorem dX11_wrongBy_68 : decode cX11_wrongBy 68 = .ok (.iadd, 1) := by decide +kernel
theorem dX11_wrongBy_69 : decode cX11_wrongBy 69 = .ok (.iconst 3, 1) := by decide +kernel
theorem dX11_wrongBy_70 : decode cX11_wrongBy 70 = .ok (.iadd, 1) := by decide +kernel
theorem dX11_wrongBy_71 : decode cX11_wrongBy 71 = .ok (.iaload, 1) := by decide +kernel
theorem dX11_wrongBy_72 : decode cX11_wrongBy 72 = .ok (.if_icmp .eq 5, 3) := by decide +kernel
theorem dX11_wrongBy_75 : decode cX11_wrongBy 75 = .ok (.iload_n 2, 1) := by decide +kernel
theorem dX11_wrongBy_76 : decode cX11_wrongBy 76 = .ok (.ireturn, 1) := by decide +kernel
theorem dX11_wrongBy_77 : decode cX11_wrongBy 77 = .ok (.iinc 2 1, 3) := by decide +kernel
theorem dX11_wrongBy_80 : decode cX11_wrongBy 80 = .ok (.goto (-78), 3) := by decide +kernel
theorem dX11_wrongBy_83 : decode cX11_wrongBy 83 = .ok (.bipush (-2), 2) := by decide +kernel
theorem dX11_wrongBy_85 : decode cX11_wrongBy 85 = .ok (.ireturn, 1) := by decide +kernel
theorem dX11_seekSets_0 : decode cX11_seekSets 0 = .ok (.iconst (-1), 1) := by decide +kernel
theorem dX11_seekSets_1 : decode cX11_seekSets 1 = .ok (.istore_n 2, 1) := by decide +kernel
theorem dX11_seekSets_2 : decode cX11_seekSets 2 = .ok (.aload_n 0, 1) := by decide +kernel
theorem dX11_seekSets_3 : decode cX11_seekSets 3 = .ok (.iconst 0, 1) := by decide +kernel
theorem dX11_seekSets_4 : decode cX11_seekSets 4 = .ok (.putfield 349, 3) := by decide +kernel
theorem dX11_seekSets_7 : decode cX11_seekSets 7 = .ok (.aload_n 0, 1) := by decide +kernel
theorem dX11_seekSets_8 : decode cX11_seekSets 8 = .ok (.iconst 0, 1) := by decide +kernel
theorem dX11_seekSets_9 : decode cX11_seekSets 9 = .ok (.putfield 352, 3) := by decide +kernel
theorem dX11_seekSets_12 : decode cX11_seekSets 12 = .ok (.aload_n 0, 1) := by decide +kernel
theorem dX11_seekSets_13 : decode cX11_seekSets 13 = .ok (.iconst 1, 1) := by decide +kernel
theorem dX11_seekSets_14 : decode cX11_seekSets 14 = .ok (.aload_n 0, 1) := by decide +kernel
theorem dX11_seekSets_15 : decode cX11_seekSets 15 = .ok (.getfield 20, 3) := by decide +kernel
theorem dX11_seekSets_18 : decode cX11_seekSets 18 = .ok (.iconst 2, 1) := by decide +kernel
theorem dX11_seekSets_19 : decode cX11_seekSets 19 = .ok (.iaload, 1) := by decide +kernel
theorem dX11_seekSets_20 : decode cX11_seekSets 20 = .ok (.ishl, 1) := by decide +kernel
theorem dX11_seekSets_21 : decode cX11_seekSets 21 = .ok (.iconst 1, 1) := by decide +kernel
theorem dX11_seekSets_22 : decode cX11_seekSets 22 = .ok (.isub, 1) := by decide +kernel
theorem dX11_seekSets_23 : decode cX11_seekSets 23 = .ok (.putfield 355, 3) := by decide +kernel
theorem dX11_seekSets_26 : decode cX11_seekSets 26 = .ok (.iconst 0, 1) := by decide +kernel
theorem dX11_seekSets_27 : decode cX11_seekSets 27 = .ok (.istore_n 3, 1) := by decide +kernel
theorem dX11_seekSets_28 : decode cX11_seekSets 28 = .ok (.iload_n 3, 1) := by decide +kernel
theorem dX11_seekSets_29 : decode cX11_seekSets 29 = .ok (.iconst 4, 1) := by decide +kernel
theorem dX11_seekSets_30 : decode cX11_seekSets 30 = .ok (.if_icmp .ge 16, 3) := by decide +kernel
theorem dX11_seekSets_33 : decode cX11_seekSets 33 = .ok (.aload_n 0, 1) := by decide +kernel
theorem dX11_seekSets_34 : decode cX11_seekSets 34 = .ok (.getfield 50, 3) := by decide +kernel
theorem dX11_seekSets_37 : decode cX11_seekSets 37 = .ok (.iload_n 3, 1) := by decide +kernel
theorem dX11_seekSets_38 : decode cX11_seekSets 38 = .ok (.iconst 0, 1) := by decide +kernel
theorem dX11_seekSets_39 : decode cX11_seekSets 39 = .ok (.iastore, 1) := by decide +kernel
theorem dX11_seekSets_40 : decode cX11_seekSets 40 = .ok (.iinc 3 1, 3) := by decide +kernel
theorem dX11_seekSets_43 : decode cX11_seekSets 43 = .ok (.goto (-15), 3) := by decide +kernel
theorem dX11_seekSets_46 : decode cX11_seekSets 46 = .ok (.iconst 0, 1) := by decide +kernel
theorem dX11_seekSets_47 : decode cX11_seekSets 47 = .ok (.istore_n 3, 1) := by decide +kernel
theorem dX11_seekSets_48 : decode cX11_seekSets 48 = .ok (.iload_n 3, 1) := by decide +kernel
theorem dX11_seekSets_49 : decode cX11_seekSets 49 = .ok (.iconst 1, 1) := by decide +kernel
theorem dX11_seekSets_50 : decode cX11_seekSets 50 = .ok (.aload_n 0, 1) := by decide +kernel
theorem dX11_seekSets_51 : decode cX11_seekSets 51 = .ok (.getfield 20, 3) := by decide +kernel
theorem dX11_seekSets_54 : decode cX11_seekSets 54 = .ok (.iconst 2, 1) := by decide +kernel
theorem dX11_seekSets_55 : decode cX11_seekSets 55 = .ok (.iaload, 1) := by decide +kernel
theorem dX11_seekSets_56 : decode cX11_seekSets 56 = .ok (.ishl, 1) := by decide +kernel
theorem dX11_seekSets_57 : decode cX11_seekSets 57 = .ok (.if_icmp .ge 98, 3) := by decide +kernel
theorem dX11_seekSets_60 : decode cX11_seekSets 60 = .ok (.aload_n 0, 1) := by decide +kernel
theorem dX11_seekSets_61 : decode cX11_seekSets 61 = .ok (.iload_n 3, 1) := by decide +kernel
theorem dX11_seekSets_62 : decode cX11_seekSets 62 = .ok (.invokevirtual 358, 3) := by decide +kernel
theorem dX11_seekSets_65 : decode cX11_seekSets 65 = .ok (.bipush (-2), 2) := by decide +kernel
theorem dX11_seekSets_67 : decode cX11_seekSets 67 = .ok (.if_icmp .eq 6, 3) := by decide +kernel
theorem dX11_seekSets_70 : decode cX11_seekSets 70 = .ok (.goto 79, 3) := by decide +kernel
theorem dX11_seekSets_73 : decode cX11_seekSets 73 = .ok (.aload_n 0, 1) := by decide +kernel
theorem dX11_seekSets_74 : decode cX11_seekSets 74 = .ok (.getfield 349, 3) := by decide +kernel
theorem dX11_seekSets_77 : decode cX11_seekSets 77 = .ok (.iload_n 1, 1) := by decide +kernel
theorem dX11_seekSets_78 : decode cX11_seekSets 78 = .ok (.if_icmp .ne 5, 3) := by decide +kernel
theorem dX11_seekSets_81 : decode cX11_seekSets 81 = .ok (.iload_n 3, 1) := by decide +kernel
theorem dX11_seekSets_82 : decode cX11_seekSets 82 = .ok (.istore_n 2, 1) := by decide +kernel
theorem dX11_seekSets_83 : decode cX11_seekSets 83 = .ok (.aload_n 0, 1) := by decide +kernel
theorem dX11_seekSets_84 : decode cX11_seekSets 84 = .ok (.dup, 1) := by decide +kernel
theorem dX11_seekSets_85 : decode cX11_seekSets 85 = .ok (.getfield 349, 3) := by decide +kernel
theorem dX11_seekSets_88 : decode cX11_seekSets 88 = .ok (.iconst 1, 1) := by decide +kernel
theorem dX11_seekSets_89 : decode cX11_seekSets 89 = .ok (.iadd, 1) := by decide +kernel
theorem dX11_seekSets_90 : decode cX11_seekSets 90 = .ok (.putfield 349, 3) := by decide +kernel
theorem dX11_seekSets_93 : decode cX11_seekSets 93 = .ok (.aload_n 0, 1) := by decide +kernel
theorem dX11_seekSets_94 : decode cX11_seekSets 94 = .ok (.dup, 1) := by decide +kernel
theorem dX11_seekSets_95 : decode cX11_seekSets 95 = .ok (.getfield 352, 3) := by decide +kernel
theorem dX11_seekSets_98 : decode cX11_seekSets 98 = .ok (.iload_n 3, 1) := by decide +kernel
theorem dX11_seekSets_99 : decode cX11_seekSets 99 = .ok (.ior, 1) := by decide +kernel
theorem dX11_seekSets_100 : decode cX11_seekSets 100 = .ok (.putfield 352, 3) := by decide +kernel
theorem dX11_seekSets_103 : decode cX11_seekSets 103 = .ok (.aload_n 0, 1) := by decide +kernel
theorem dX11_seekSets_104 : decode cX11_seekSets 104 = .ok (.dup, 1) := by decide +kernel
theorem dX11_seekSets_105 : decode cX11_seekSets 105 = .ok (.getfield 355, 3) := by decide +kernel
theorem dX11_seekSets_108 : decode cX11_seekSets 108 = .ok (.iload_n 3, 1) := by decide +kernel
theorem dX11_seekSets_109 : decode cX11_seekSets 109 = .ok (.iand, 1) := by decide +kernel
theorem dX11_seekSets_110 : decode cX11_seekSets 110 = .ok (.putfield 355, 3) := by decide +kernel
theorem dX11_seekSets_113 : decode cX11_seekSets 113 = .ok (.iconst 0, 1) := by decide +kernel
theorem dX11_seekSets_114 : decode cX11_seekSets 114 = .ok (.istore 4, 2) := by decide +kernel
theorem dX11_seekSets_116 : decode cX11_seekSets 116 = .ok (.iload 4, 2) := by decide +kernel
theorem dX11_seekSets_118 : decode cX11_seekSets 118 = .ok (.aload_n 0, 1) := by decide +kernel
theorem dX11_seekSets_119 : decode cX11_seekSets 119 = .ok (.getfield 20, 3) := by decide +kernel
theorem dX11_seekSets_122 : decode cX11_seekSets 122 = .ok (.iconst 2, 1) := by decide +kernel
theorem dX11_seekSets_123 : decode cX11_seekSets 123 = .ok (.iaload, 1) := by decide +kernel
theorem dX11_seekSets_124 : decode cX11_seekSets 124 = .ok (.if_icmp .ge 25, 3) := by decide +kernel
theorem dX11_seekSets_127 : decode cX11_seekSets 127 = .ok (.aload_n 0, 1) := by decide +kernel
theorem dX11_seekSets_128 : decode cX11_seekSets 128 = .ok (.getfield 50, 3) := by decide +kernel
theorem dX11_seekSets_131 : decode cX11_seekSets 131 = .ok (.iload 4, 2) := by decide +kernel
theorem dX11_seekSets_133 : decode cX11_seekSets 133 = .ok (.dup2, 1) := by decide +kernel
theorem dX11_seekSets_134 : decode cX11_seekSets 134 = .ok (.iaload, 1) := by decide +kernel
theorem dX11_seekSets_135 : decode cX11_seekSets 135 = .ok (.iload_n 3, 1) := by decide +kernel
theorem dX11_seekSets_136 : decode cX11_seekSets 136 = .ok (.iload 4, 2) := by decide +kernel
theorem dX11_seekSets_138 : decode cX11_seekSets 138 = .ok (.ishr, 1) := by decide +kernel
theorem dX11_seekSets_139 : decode cX11_seekSets 139 = .ok (.iconst 1, 1) := by decide +kernel
theorem dX11_seekSets_140 : decode cX11_seekSets 140 = .ok (.iand, 1) := by decide +kernel
theorem dX11_seekSets_141 : decode cX11_seekSets 141 = .ok (.iadd, 1) := by decide +kernel
theorem dX11_seekSets_142 : decode cX11_seekSets 142 = .ok (.iastore, 1) := by decide +kernel
theorem dX11_seekSets_143 : decode cX11_seekSets 143 = .ok (.iinc 4 1, 3) := by decide +kernel
theorem dX11_seekSets_146 : decode cX11_seekSets 146 = .ok (.goto (-30), 3) := by decide +kernel
theorem dX11_seekSets_149 : decode cX11_seekSets 149 = .ok (.iinc 3 1, 3) := by decide +kernel
theorem dX11_seekSets_152 : decode cX11_seekSets 152 = .ok (.goto (-104), 3) := by decide +kernel
theorem dX11_seekSets_155 : decode cX11_seekSets 155 = .ok (.aload_n 0, 1) := by decide +kernel
theorem dX11_seekSets_156 : decode cX11_seekSets 156 = .ok (.getfield 349, 3) := by decide +kernel
theorem dX11_seekSets_159 : decode cX11_seekSets 159 = .ok (.ifCond .ne 8, 3) := by decide +kernel
theorem dX11_seekSets_162 : decode cX11_seekSets 162 = .ok (.aload_n 0, 1) := by decide +kernel
theorem dX11_seekSets_163 : decode cX11_seekSets 163 = .ok (.iconst 0, 1) := by decide +kernel
theorem dX11_seekSets_164 : decode cX11_seekSets 164 = .ok (.putfield 355, 3) := by decide +kernel
theorem dX11_seekSets_167 : decode cX11_seekSets 167 = .ok (.iload_n 2, 1) := by decide +kernel
theorem dX11_seekSets_168 : decode cX11_seekSets 168 = .ok (.ireturn, 1) := by decide +kernel
theorem dX11_fits_0 : decode cX11_fits 0 = .ok (.aload_n 0, 1) := by decide +kernel
theorem dX11_fits_1 : decode cX11_fits 1 = .ok (.invokevirtual 147, 3) := by decide +kernel
theorem dX11_fits_4 : decode cX11_fits 4 = .ok (.aload_n 0, 1) := by decide +kernel
theorem dX11_fits_5 : decode cX11_fits 5 = .ok (.getfield 163, 3) := by decide +kernel
theorem dX11_fits_8 : decode cX11_fits 8 = .ok (.ifCond .ne 9, 3) := by decide +kernel
theorem dX11_fits_11 : decode cX11_fits 11 = .ok (.aload_n 0, 1) := by decide +kernel
theorem dX11_fits_12 : decode cX11_fits 12 = .ok (.iconst 1, 1) := by decide +kernel
theorem dX11_fits_13 : decode cX11_fits 13 = .ok (.invokevirtual 150, 3) := by decide +kernel
theorem dX11_fits_16 : decode cX11_fits 16 = .ok (.ireturn, 1) := by decide +kernel
theorem dX11_fits_17 : decode cX11_fits 17 = .ok (.aload_n 0, 1) := by decide +kernel
theorem dX11_fits_18 : decode cX11_fits 18 = .ok (.iconst (-1), 1) := by decide +kernel
theorem dX11_fits_19 : decode cX11_fits 19 = .ok (.invokevirtual 361, 3) := by decide +kernel
theorem dX11_fits_22 : decode cX11_fits 22 = .ok (.pop, 1) := by decide +kernel
theorem dX11_fits_23 : decode cX11_fits 23 = .ok (.aload_n 0, 1) := by decide +kernel
theorem dX11_fits_24 : decode cX11_fits 24 = .ok (.getfield 349, 3) := by decide +kernel
theorem dX11_fits_27 : decode cX11_fits 27 = .ok (.ireturn, 1) := by decide +kernel
theorem dX11_fitAt_0 : decode cX11_fitAt 0 = .ok (.aload_n 0, 1) := by decide +kernel
theorem dX11_fitAt_1 : decode cX11_fitAt 1 = .ok (.invokevirtual 147, 3) := by decide +kernel
theorem dX11_fitAt_4 : decode cX11_fitAt 4 = .ok (.aload_n 0, 1) := by decide +kernel
theorem dX11_fitAt_5 : decode cX11_fitAt 5 = .ok (.getfield 163, 3) := by decide +kernel
theorem dX11_fitAt_8 : decode cX11_fitAt 8 = .ok (.ifCond .eq 7, 3) := by decide +kernel
theorem dX11_fitAt_11 : decode cX11_fitAt 11 = .ok (.iload_n 1, 1) := by decide +kernel
theorem dX11_fitAt_12 : decode cX11_fitAt 12 = .ok (.ifCond .ge 9, 3) := by decide +kernel
theorem dX11_fitAt_15 : decode cX11_fitAt 15 = .ok (.aload_n 0, 1) := by decide +kernel
theorem dX11_fitAt_16 : decode cX11_fitAt 16 = .ok (.iconst 1, 1) := by decide +kernel
theorem dX11_fitAt_17 : decode cX11_fitAt 17 = .ok (.invokevirtual 150, 3) := by decide +kernel
theorem dX11_fitAt_20 : decode cX11_fitAt 20 = .ok (.ireturn, 1) := by decide +kernel
theorem dX11_fitAt_21 : decode cX11_fitAt 21 = .ok (.aload_n 0, 1) := by decide +kernel
theorem dX11_fitAt_22 : decode cX11_fitAt 22 = .ok (.iload_n 1, 1) := by decide +kernel
theorem dX11_fitAt_23 : decode cX11_fitAt 23 = .ok (.invokevirtual 361, 3) := by decide +kernel
theorem dX11_fitAt_26 : decode cX11_fitAt 26 = .ok (.istore_n 2, 1) := by decide +kernel
theorem dX11_fitAt_27 : decode cX11_fitAt 27 = .ok (.iload_n 2, 1) := by decide +kernel
theorem dX11_fitAt_28 : decode cX11_fitAt 28 = .ok (.ifCond .ge 11, 3) := by decide +kernel
theorem dX11_fitAt_31 : decode cX11_fitAt 31 = .ok (.aload_n 0, 1) := by decide +kernel
theorem dX11_fitAt_32 : decode cX11_fitAt 32 = .ok (.iconst 1, 1) := by decide +kernel
theorem dX11_fitAt_33 : decode cX11_fitAt 33 = .ok (.invokevirtual 150, 3) := by decide +kernel
theorem dX11_fitAt_36 : decode cX11_fitAt 36 = .ok (.goto 4, 3) := by decide +kernel
theorem dX11_fitAt_39 : decode cX11_fitAt 39 = .ok (.iload_n 2, 1) := by decide +kernel
theorem dX11_fitAt_40 : decode cX11_fitAt 40 = .ok (.ireturn, 1) := by decide +kernel
theorem dX11_could_0 : decode cX11_could 0 = .ok (.aload_n 0, 1) := by decide +kernel
theorem dX11_could_1 : decode cX11_could 1 = .ok (.invokevirtual 147, 3) := by decide +kernel
theorem dX11_could_4 : decode cX11_could 4 = .ok (.aload_n 0, 1) := by decide +kernel
theorem dX11_could_5 : decode cX11_could 5 = .ok (.getfield 163, 3) := by decide +kernel
theorem dX11_could_8 : decode cX11_could 8 = .ok (.ifCond .ne 9, 3) := by decide +kernel
theorem dX11_could_11 : decode cX11_could 11 = .ok (.aload_n 0, 1) := by decide +kernel
theorem dX11_could_12 : decode cX11_could 12 = .ok (.iconst 1, 1) := by decide +kernel
theorem dX11_could_13 : decode cX11_could 13 = .ok (.invokevirtual 150, 3) := by decide +kernel
theorem dX11_could_16 : decode cX11_could 16 = .ok (.ireturn, 1) := by decide +kernel
theorem dX11_could_17 : decode cX11_could 17 = .ok (.aload_n 0, 1) := by decide +kernel
theorem dX11_could_18 : decode cX11_could 18 = .ok (.iconst (-1), 1) := by decide +kernel
theorem dX11_could_19 : decode cX11_could 19 = .ok (.invokevirtual 361, 3) := by decide +kernel
theorem dX11_could_22 : decode cX11_could 22 = .ok (.pop, 1) := by decide +kernel
theorem dX11_could_23 : decode cX11_could 23 = .ok (.aload_n 0, 1) := by decide +kernel
theorem dX11_could_24 : decode cX11_could 24 = .ok (.getfield 352, 3) := by decide +kernel
theorem dX11_could_27 : decode cX11_could 27 = .ok (.ireturn, 1) := by decide +kernel
theorem dX11_surely_0 : decode cX11_surely 0 = .ok (.aload_n 0, 1) := by decide +kernel
theorem dX11_surely_1 : decode cX11_surely 1 = .ok (.invokevirtual 147, 3) := by decide +kernel
theorem dX11_surely_4 : decode cX11_surely 4 = .ok (.aload_n 0, 1) := by decide +kernel
theorem dX11_surely_5 : decode cX11_surely 5 = .ok (.getfield 163, 3) := by decide +kernel
theorem dX11_surely_8 : decode cX11_surely 8 = .ok (.ifCond .ne 9, 3) := by decide +kernel
theorem dX11_surely_11 : decode cX11_surely 11 = .ok (.aload_n 0, 1) := by decide +kernel
theorem dX11_surely_12 : decode cX11_surely 12 = .ok (.iconst 1, 1) := by decide +kernel
theorem dX11_surely_13 : decode cX11_surely 13 = .ok (.invokevirtual 150, 3) := by decide +kernel
theorem dX11_surely_16 : decode cX11_surely 16 = .ok (.ireturn, 1) := by decide +kernel
theorem dX11_surely_17 : decode cX11_surely 17 = .ok (.aload_n 0, 1) := by decide +kernel
theorem dX11_surely_18 : decode cX11_surely 18 = .ok (.iconst (-1), 1) := by decide +kernel
theorem dX11_surely_19 : decode cX11_surely 19 = .ok (.invokevirtual 361, 3) := by decide +kernel
theorem dX11_surely_22 : decode cX11_surely 22 = .ok (.pop, 1) := by decide +kernel
theorem dX11_surely_23 : decode cX11_surely 23 = .ok (.aload_n 0, 1) := by decide +kernel
theorem dX11_surely_24 : decode cX11_surely 24 = .ok (.getfield 355, 3) := by decide +kernel
theorem dX11_surely_27 : decode cX11_surely 27 = .ok (.ireturn, 1) := by decide +kernel
theorem dX11_leavesOf_0 : decode cX11_leavesOf 0 = .ok (.aload_n 0, 1) := by decide +kernel
theorem dX11_leavesOf_1 : decode cX11_leavesOf 1 = .ok (.getfield 50, 3) := by decide +kernel
theorem dX11_leavesOf_4 : decode cX11_leavesOf 4 = .ok (.iload_n 1, 1) := by decide +kernel
theorem dX11_leavesOf_5 : decode cX11_leavesOf 5 = .ok (.iaload, 1) := by decide +kernel
theorem dX11_leavesOf_6 : decode cX11_leavesOf 6 = .ok (.aload_n 0, 1) := by decide +kernel
theorem dX11_leavesOf_7 : decode cX11_leavesOf 7 = .ok (.getfield 349, 3) := by decide +kernel
theorem dX11_leavesOf_10 : decode cX11_leavesOf 10 = .ok (.aload_n 0, 1) := by decide +kernel
theorem dX11_leavesOf_11 : decode cX11_leavesOf 11 = .ok (.getfield 50, 3) := by decide +kernel
theorem dX11_leavesOf_14 : decode cX11_leavesOf 14 = .ok (.iload_n 1, 1) := by decide +kernel
theorem dX11_leavesOf_15 : decode cX11_leavesOf 15 = .ok (.iaload, 1) := by decide +kernel
theorem dX11_leavesOf_16 : decode cX11_leavesOf 16 = .ok (.isub, 1) := by decide +kernel
theorem dX11_leavesOf_17 : decode cX11_leavesOf 17 = .ok (.if_icmp .le 12, 3) := by decide +kernel
theorem dX11_leavesOf_20 : decode cX11_leavesOf 20 = .ok (.aload_n 0, 1) := by decide +kernel
theorem dX11_leavesOf_21 : decode cX11_leavesOf 21 = .ok (.getfield 50, 3) := by decide +kernel
theorem dX11_leavesOf_24 : decode cX11_leavesOf 24 = .ok (.iload_n 1, 1) := by decide +kernel
theorem dX11_leavesOf_25 : decode cX11_leavesOf 25 = .ok (.iaload, 1) := by decide +kernel
theorem dX11_leavesOf_26 : decode cX11_leavesOf 26 = .ok (.goto 14, 3) := by decide +kernel
theorem dX11_leavesOf_29 : decode cX11_leavesOf 29 = .ok (.aload_n 0, 1) := by decide +kernel
theorem dX11_leavesOf_30 : decode cX11_leavesOf 30 = .ok (.getfield 349, 3) := by decide +kernel
theorem dX11_leavesOf_33 : decode cX11_leavesOf 33 = .ok (.aload_n 0, 1) := by decide +kernel
theorem dX11_leavesOf_34 : decode cX11_leavesOf 34 = .ok (.getfield 50, 3) := by decide +kernel
theorem dX11_leavesOf_37 : decode cX11_leavesOf 37 = .ok (.iload_n 1, 1) := by decide +kernel
theorem dX11_leavesOf_38 : decode cX11_leavesOf 38 = .ok (.iaload, 1) := by decide +kernel
theorem dX11_leavesOf_39 : decode cX11_leavesOf 39 = .ok (.isub, 1) := by decide +kernel
theorem dX11_leavesOf_40 : decode cX11_leavesOf 40 = .ok (.ireturn, 1) := by decide +kernel
theorem dX11_askOf_0 : decode cX11_askOf 0 = .ok (.aload_n 0, 1) := by decide +kernel
theorem dX11_askOf_1 : decode cX11_askOf 1 = .ok (.iconst (-1), 1) := by decide +kernel
theorem dX11_askOf_2 : decode cX11_askOf 2 = .ok (.invokevirtual 361, 3) := by decide +kernel
theorem dX11_askOf_5 : decode cX11_askOf 5 = .ok (.pop, 1) := by decide +kernel
theorem dX11_askOf_6 : decode cX11_askOf 6 = .ok (.bipush (-2), 2) := by decide +kernel
theorem dX11_askOf_8 : decode cX11_askOf 8 = .ok (.istore_n 1, 1) := by decide +kernel
theorem dX11_askOf_9 : decode cX11_askOf 9 = .ok (.iconst 0, 1) := by decide +kernel
theorem dX11_askOf_10 : decode cX11_askOf 10 = .ok (.istore_n 2, 1) := by decide +kernel
theorem dX11_askOf_11 : decode cX11_askOf 11 = .ok (.iload_n 2, 1) := by decide +kernel
theorem dX11_askOf_12 : decode cX11_askOf 12 = .ok (.aload_n 0, 1) := by decide +kernel
theorem dX11_askOf_13 : decode cX11_askOf 13 = .ok (.getfield 20, 3) := by decide +kernel
theorem dX11_askOf_16 : decode cX11_askOf 16 = .ok (.iconst 2, 1) := by decide +kernel
theorem dX11_askOf_17 : decode cX11_askOf 17 = .ok (.iaload, 1) := by decide +kernel
theorem dX11_askOf_18 : decode cX11_askOf 18 = .ok (.if_icmp .ge 35, 3) := by decide +kernel
theorem dX11_askOf_21 : decode cX11_askOf 21 = .ok (.aload_n 0, 1) := by decide +kernel
theorem dX11_askOf_22 : decode cX11_askOf 22 = .ok (.getfield 349, 3) := by decide +kernel
theorem dX11_askOf_25 : decode cX11_askOf 25 = .ok (.ifCond .le 28, 3) := by decide +kernel
theorem dX11_askOf_28 : decode cX11_askOf 28 = .ok (.iload_n 1, 1) := by decide +kernel
theorem dX11_askOf_29 : decode cX11_askOf 29 = .ok (.ifCond .lt 16, 3) := by decide +kernel
theorem dX11_askOf_32 : decode cX11_askOf 32 = .ok (.aload_n 0, 1) := by decide +kernel
theorem dX11_askOf_33 : decode cX11_askOf 33 = .ok (.iload_n 2, 1) := by decide +kernel
theorem dX11_askOf_34 : decode cX11_askOf 34 = .ok (.invokevirtual 364, 3) := by decide +kernel
theorem dX11_askOf_37 : decode cX11_askOf 37 = .ok (.aload_n 0, 1) := by decide +kernel
theorem dX11_askOf_38 : decode cX11_askOf 38 = .ok (.iload_n 1, 1) := by decide +kernel
theorem dX11_askOf_39 : decode cX11_askOf 39 = .ok (.invokevirtual 364, 3) := by decide +kernel
theorem dX11_askOf_42 : decode cX11_askOf 42 = .ok (.if_icmp .ge 5, 3) := by decide +kernel
theorem dX11_askOf_45 : decode cX11_askOf 45 = .ok (.iload_n 2, 1) := by decide +kernel
theorem dX11_askOf_46 : decode cX11_askOf 46 = .ok (.istore_n 1, 1) := by decide +kernel
theorem dX11_askOf_47 : decode cX11_askOf 47 = .ok (.iinc 2 1, 3) := by decide +kernel
theorem dX11_askOf_50 : decode cX11_askOf 50 = .ok (.goto (-39), 3) := by decide +kernel
theorem dX11_askOf_53 : decode cX11_askOf 53 = .ok (.iload_n 1, 1) := by decide +kernel
theorem dX11_askOf_54 : decode cX11_askOf 54 = .ok (.ireturn, 1) := by decide +kernel
theorem dX11_ask_0 : decode cX11_ask 0 = .ok (.aload_n 0, 1) := by decide +kernel
theorem dX11_ask_1 : decode cX11_ask 1 = .ok (.invokevirtual 147, 3) := by decide +kernel
theorem dX11_ask_4 : decode cX11_ask 4 = .ok (.aload_n 0, 1) := by decide +kernel
theorem dX11_ask_5 : decode cX11_ask 5 = .ok (.getfield 163, 3) := by decide +kernel
theorem dX11_ask_8 : decode cX11_ask 8 = .ok (.ifCond .eq 10, 3) := by decide +kernel
theorem dX11_ask_11 : decode cX11_ask 11 = .ok (.aload_n 0, 1) := by decide +kernel
theorem dX11_ask_12 : decode cX11_ask 12 = .ok (.invokevirtual 367, 3) := by decide +kernel
theorem dX11_ask_15 : decode cX11_ask 15 = .ok (.goto 8, 3) := by decide +kernel
theorem dX11_ask_18 : decode cX11_ask 18 = .ok (.aload_n 0, 1) := by decide +kernel
theorem dX11_ask_19 : decode cX11_ask 19 = .ok (.iconst 1, 1) := by decide +kernel
theorem dX11_ask_20 : decode cX11_ask 20 = .ok (.invokevirtual 150, 3) := by decide +kernel
theorem dX11_ask_23 : decode cX11_ask 23 = .ok (.ireturn, 1) := by decide +kernel
theorem dX11_askLeaves_0 : decode cX11_askLeaves 0 = .ok (.aload_n 0, 1) := by decide +kernel
theorem dX11_askLeaves_1 : decode cX11_askLeaves 1 = .ok (.invokevirtual 147, 3) := by decide +kernel
theorem dX11_askLeaves_4 : decode cX11_askLeaves 4 = .ok (.aload_n 0, 1) := by decide +kernel
theorem dX11_askLeaves_5 : decode cX11_askLeaves 5 = .ok (.getfield 163, 3) := by decide +kernel
theorem dX11_askLeaves_8 : decode cX11_askLeaves 8 = .ok (.ifCond .ne 9, 3) := by decide +kernel
theorem dX11_askLeaves_11 : decode cX11_askLeaves 11 = .ok (.aload_n 0, 1) := by decide +kernel
theorem dX11_askLeaves_12 : decode cX11_askLeaves 12 = .ok (.iconst 1, 1) := by decide +kernel
theorem dX11_askLeaves_13 : decode cX11_askLeaves 13 = .ok (.invokevirtual 150, 3) := by decide +kernel
theorem dX11_askLeaves_16 : decode cX11_askLeaves 16 = .ok (.ireturn, 1) := by decide +kernel
theorem dX11_askLeaves_17 : decode cX11_askLeaves 17 = .ok (.aload_n 0, 1) := by decide +kernel
theorem dX11_askLeaves_18 : decode cX11_askLeaves 18 = .ok (.invokevirtual 367, 3) := by decide +kernel
theorem dX11_askLeaves_21 : decode cX11_askLeaves 21 = .ok (.istore_n 1, 1) := by decide +kernel
theorem dX11_askLeaves_22 : decode cX11_askLeaves 22 = .ok (.iload_n 1, 1) := by decide +kernel
theorem dX11_askLeaves_23 : decode cX11_askLeaves 23 = .ok (.ifCond .ge 8, 3) := by decide +kernel
theorem dX11_askLeaves_26 : decode cX11_askLeaves 26 = .ok (.bipush (-2), 2) := by decide +kernel
theorem dX11_askLeaves_28 : decode cX11_askLeaves 28 = .ok (.goto 8, 3) := by decide +kernel
theorem dX11_askLeaves_31 : decode cX11_askLeaves 31 = .ok (.aload_n 0, 1) := by decide +kernel
theorem dX11_askLeaves_32 : decode cX11_askLeaves 32 = .ok (.iload_n 1, 1) := by decide +kernel
theorem dX11_askLeaves_33 : decode cX11_askLeaves 33 = .ok (.invokevirtual 364, 3) := by decide +kernel
theorem dX11_askLeaves_36 : decode cX11_askLeaves 36 = .ok (.ireturn, 1) := by decide +kernel
theorem dX11_judge_0 : decode cX11_judge 0 = .ok (.aload_n 0, 1) := by decide +kernel
theorem dX11_judge_1 : decode cX11_judge 1 = .ok (.invokevirtual 147, 3) := by decide +kernel
theorem dX11_judge_4 : decode cX11_judge 4 = .ok (.aload_n 0, 1) := by decide +kernel
theorem dX11_judge_5 : decode cX11_judge 5 = .ok (.getfield 163, 3) := by decide +kernel
theorem dX11_judge_8 : decode cX11_judge 8 = .ok (.ifCond .eq 11, 3) := by decide +kernel
theorem dX11_judge_11 : decode cX11_judge 11 = .ok (.aload_n 0, 1) := by decide +kernel
theorem dX11_judge_12 : decode cX11_judge 12 = .ok (.iconst 0, 1) := by decide +kernel
theorem dX11_judge_13 : decode cX11_judge 13 = .ok (.invokevirtual 358, 3) := by decide +kernel
theorem dX11_judge_16 : decode cX11_judge 16 = .ok (.goto 8, 3) := by decide +kernel
theorem dX11_judge_19 : decode cX11_judge 19 = .ok (.aload_n 0, 1) := by decide +kernel
theorem dX11_judge_20 : decode cX11_judge 20 = .ok (.iconst 1, 1) := by decide +kernel
theorem dX11_judge_21 : decode cX11_judge 21 = .ok (.invokevirtual 150, 3) := by decide +kernel
theorem dX11_judge_24 : decode cX11_judge 24 = .ok (.ireturn, 1) := by decide +kernel
theorem dX11_calledFrom_0 : decode cX11_calledFrom 0 = .ok (.iconst (-1), 1) := by decide +kernel
theorem dX11_calledFrom_1 : decode cX11_calledFrom 1 = .ok (.istore 5, 2) := by decide +kernel
theorem dX11_calledFrom_3 : decode cX11_calledFrom 3 = .ok (.bipush (-2), 2) := by decide +kernel
theorem dX11_calledFrom_5 : decode cX11_calledFrom 5 = .ok (.istore 6, 2) := by decide +kernel
theorem dX11_calledFrom_7 : decode cX11_calledFrom 7 = .ok (.iconst 0, 1) := by decide +kernel
theorem dX11_calledFrom_8 : decode cX11_calledFrom 8 = .ok (.istore 7, 2) := by decide +kernel
theorem dX11_calledFrom_10 : decode cX11_calledFrom 10 = .ok (.iload 7, 2) := by decide +kernel
theorem dX11_calledFrom_12 : decode cX11_calledFrom 12 = .ok (.iconst 3, 1) := by decide +kernel
theorem dX11_calledFrom_13 : decode cX11_calledFrom 13 = .ok (.if_icmp .ge 88, 3) := by decide +kernel
theorem dX11_calledFrom_16 : decode cX11_calledFrom 16 = .ok (.iload_n 3, 1) := by decide +kernel
theorem dX11_calledFrom_17 : decode cX11_calledFrom 17 = .ok (.ifCond .le 84, 3) := by decide +kernel
theorem dX11_calledFrom_20 : decode cX11_calledFrom 20 = .ok (.aload_n 0, 1) := by decide +kernel
theorem dX11_calledFrom_21 : decode cX11_calledFrom 21 = .ok (.iload_n 1, 1) := by decide +kernel
theorem dX11_calledFrom_22 : decode cX11_calledFrom 22 = .ok (.putfield 169, 3) := by decide +kernel
theorem dX11_calledFrom_25 : decode cX11_calledFrom 25 = .ok (.aload_n 0, 1) := by decide +kernel
theorem dX11_calledFrom_26 : decode cX11_calledFrom 26 = .ok (.iload_n 2, 1) := by decide +kernel
theorem dX11_calledFrom_27 : decode cX11_calledFrom 27 = .ok (.putfield 172, 3) := by decide +kernel
theorem dX11_calledFrom_30 : decode cX11_calledFrom 30 = .ok (.aload_n 0, 1) := by decide +kernel
theorem dX11_calledFrom_31 : decode cX11_calledFrom 31 = .ok (.iload 7, 2) := by decide +kernel
theorem dX11_calledFrom_33 : decode cX11_calledFrom 33 = .ok (.invokevirtual 260, 3) := by decide +kernel
theorem dX11_calledFrom_36 : decode cX11_calledFrom 36 = .ok (.ifCond .ne 6, 3) := by decide +kernel
theorem dX11_calledFrom_39 : decode cX11_calledFrom 39 = .ok (.goto 56, 3) := by decide +kernel
theorem dX11_calledFrom_42 : decode cX11_calledFrom 42 = .ok (.aload_n 0, 1) := by decide +kernel
theorem dX11_calledFrom_43 : decode cX11_calledFrom 43 = .ok (.invokevirtual 263, 3) := by decide +kernel
theorem dX11_calledFrom_46 : decode cX11_calledFrom 46 = .ok (.ifCond .eq 7, 3) := by decide +kernel
theorem dX11_calledFrom_49 : decode cX11_calledFrom 49 = .ok (.iconst 1, 1) := by decide +kernel
theorem dX11_calledFrom_50 : decode cX11_calledFrom 50 = .ok (.goto 20, 3) := by decide +kernel
theorem dX11_calledFrom_53 : decode cX11_calledFrom 53 = .ok (.aload_n 0, 1) := by decide +kernel
theorem dX11_calledFrom_54 : decode cX11_calledFrom 54 = .ok (.aload_n 0, 1) := by decide +kernel
theorem dX11_calledFrom_55 : decode cX11_calledFrom 55 = .ok (.getfield 169, 3) := by decide +kernel
theorem dX11_calledFrom_58 : decode cX11_calledFrom 58 = .ok (.aload_n 0, 1) := by decide +kernel
theorem dX11_calledFrom_59 : decode cX11_calledFrom 59 = .ok (.getfield 172, 3) := by decide +kernel
theorem dX11_calledFrom_62 : decode cX11_calledFrom 62 = .ok (.iload_n 3, 1) := by decide +kernel
theorem dX11_calledFrom_63 : decode cX11_calledFrom 63 = .ok (.iconst 1, 1) := by decide +kernel
theorem dX11_calledFrom_64 : decode cX11_calledFrom 64 = .ok (.isub, 1) := by decide +kernel
theorem dX11_calledFrom_65 : decode cX11_calledFrom 65 = .ok (.iconst 0, 1) := by decide +kernel
theorem dX11_calledFrom_66 : decode cX11_calledFrom 66 = .ok (.invokevirtual 370, 3) := by decide +kernel
theorem dX11_calledFrom_69 : decode cX11_calledFrom 69 = .ok (.ineg, 1) := by decide +kernel
theorem dX11_calledFrom_70 : decode cX11_calledFrom 70 = .ok (.istore 8, 2) := by decide +kernel
theorem dX11_calledFrom_72 : decode cX11_calledFrom 72 = .ok (.iload 6, 2) := by decide +kernel
theorem dX11_calledFrom_74 : decode cX11_calledFrom 74 = .ok (.ifCond .lt 13, 3) := by decide +kernel
theorem dX11_calledFrom_77 : decode cX11_calledFrom 77 = .ok (.iload 8, 2) := by decide +kernel
theorem dX11_calledFrom_79 : decode cX11_calledFrom 79 = .ok (.iload 5, 2) := by decide +kernel
theorem dX11_calledFrom_81 : decode cX11_calledFrom 81 = .ok (.if_icmp .gt 6, 3) := by decide +kernel
theorem dX11_calledFrom_84 : decode cX11_calledFrom 84 = .ok (.goto 11, 3) := by decide +kernel
theorem dX11_calledFrom_87 : decode cX11_calledFrom 87 = .ok (.iload 7, 2) := by decide +kernel
theorem dX11_calledFrom_89 : decode cX11_calledFrom 89 = .ok (.istore 6, 2) := by decide +kernel
theorem dX11_calledFrom_91 : decode cX11_calledFrom 91 = .ok (.iload 8, 2) := by decide +kernel
theorem dX11_calledFrom_93 : decode cX11_calledFrom 93 = .ok (.istore 5, 2) := by decide +kernel
theorem dX11_calledFrom_95 : decode cX11_calledFrom 95 = .ok (.iinc 7 1, 3) := by decide +kernel
theorem dX11_calledFrom_98 : decode cX11_calledFrom 98 = .ok (.goto (-88), 3) := by decide +kernel
theorem dX11_calledFrom_101 : decode cX11_calledFrom 101 = .ok (.iload 4, 2) := by decide +kernel
theorem dX11_calledFrom_103 : decode cX11_calledFrom 103 = .ok (.ifCond .eq 9, 3) := by decide +kernel
theorem dX11_calledFrom_106 : decode cX11_calledFrom 106 = .ok (.aload_n 0, 1) := by decide +kernel
theorem dX11_calledFrom_107 : decode cX11_calledFrom 107 = .ok (.iload 6, 2) := by decide +kernel
theorem dX11_calledFrom_109 : decode cX11_calledFrom 109 = .ok (.putfield 374, 3) := by decide +kernel
theorem dX11_calledFrom_112 : decode cX11_calledFrom 112 = .ok (.iload 6, 2) := by decide +kernel
theorem dX11_calledFrom_114 : decode cX11_calledFrom 114 = .ok (.ifCond .ge 7, 3) := by decide +kernel
theorem dX11_calledFrom_117 : decode cX11_calledFrom 117 = .ok (.iconst 0, 1) := by decide +kernel
theorem dX11_calledFrom_118 : decode cX11_calledFrom 118 = .ok (.goto 5, 3) := by decide +kernel
theorem dX11_calledFrom_121 : decode cX11_calledFrom 121 = .ok (.iload 5, 2) := by decide +kernel
theorem dX11_calledFrom_123 : decode cX11_calledFrom 123 = .ok (.ireturn, 1) := by decide +kernel
theorem dX11_callWhy_0 : decode cX11_callWhy 0 = .ok (.aload_n 0, 1) := by decide +kernel
theorem dX11_callWhy_1 : decode cX11_callWhy 1 = .ok (.aload_n 0, 1) := by decide +kernel
theorem dX11_callWhy_2 : decode cX11_callWhy 2 = .ok (.iload_n 1, 1) := by decide +kernel
theorem dX11_callWhy_3 : decode cX11_callWhy 3 = .ok (.invokevirtual 239, 3) := by decide +kernel
theorem dX11_callWhy_6 : decode cX11_callWhy 6 = .ok (.iload_n 2, 1) := by decide +kernel
theorem dX11_callWhy_7 : decode cX11_callWhy 7 = .ok (.iconst 0, 1) := by decide +kernel
theorem dX11_callWhy_8 : decode cX11_callWhy 8 = .ok (.bipush 8, 2) := by decide +kernel
theorem dX11_callWhy_10 : decode cX11_callWhy 10 = .ok (.invokestatic 143, 3) := by decide +kernel
theorem dX11_callWhy_13 : decode cX11_callWhy 13 = .ok (.invokevirtual 297, 3) := by decide +kernel
theorem dX11_callWhy_16 : decode cX11_callWhy 16 = .ok (.ireturn, 1) := by decide +kernel
theorem dX11_callers_0 : decode cX11_callers 0 = .ok (.aload_n 0, 1) := by decide +kernel
theorem dX11_callers_1 : decode cX11_callers 1 = .ok (.invokevirtual 147, 3) := by decide +kernel
theorem dX11_callers_4 : decode cX11_callers 4 = .ok (.aload_n 0, 1) := by decide +kernel
theorem dX11_callers_5 : decode cX11_callers 5 = .ok (.iload_n 1, 1) := by decide +kernel
theorem dX11_callers_6 : decode cX11_callers 6 = .ok (.iload_n 2, 1) := by decide +kernel
theorem dX11_callers_7 : decode cX11_callers 7 = .ok (.invokevirtual 377, 3) := by decide +kernel
theorem dX11_callers_10 : decode cX11_callers 10 = .ok (.istore_n 3, 1) := by decide +kernel
theorem dX11_callers_11 : decode cX11_callers 11 = .ok (.iload_n 3, 1) := by decide +kernel
theorem dX11_callers_12 : decode cX11_callers 12 = .ok (.ifCond .eq 9, 3) := by decide +kernel
theorem dX11_callers_15 : decode cX11_callers 15 = .ok (.aload_n 0, 1) := by decide +kernel
theorem dX11_callers_16 : decode cX11_callers 16 = .ok (.iload_n 3, 1) := by decide +kernel
theorem dX11_callers_17 : decode cX11_callers 17 = .ok (.invokevirtual 150, 3) := by decide +kernel
theorem dX11_callers_20 : decode cX11_callers 20 = .ok (.ireturn, 1) := by decide +kernel
theorem dX11_callers_21 : decode cX11_callers 21 = .ok (.aload_n 0, 1) := by decide +kernel
theorem dX11_callers_22 : decode cX11_callers 22 = .ok (.aload_n 0, 1) := by decide +kernel
theorem dX11_callers_23 : decode cX11_callers 23 = .ok (.getfield 26, 3) := by decide +kernel
theorem dX11_callers_26 : decode cX11_callers 26 = .ok (.iload_n 1, 1) := by decide +kernel
theorem dX11_callers_27 : decode cX11_callers 27 = .ok (.iaload, 1) := by decide +kernel
theorem dX11_callers_28 : decode cX11_callers 28 = .ok (.aload_n 0, 1) := by decide +kernel
theorem dX11_callers_29 : decode cX11_callers 29 = .ok (.getfield 26, 3) := by decide +kernel
theorem dX11_callers_32 : decode cX11_callers 32 = .ok (.iconst 5, 1) := by decide +kernel
theorem dX11_callers_33 : decode cX11_callers 33 = .ok (.iload_n 1, 1) := by decide +kernel
theorem dX11_callers_34 : decode cX11_callers 34 = .ok (.iadd, 1) := by decide +kernel
theorem dX11_callers_35 : decode cX11_callers 35 = .ok (.iaload, 1) := by decide +kernel
theorem dX11_callers_36 : decode cX11_callers 36 = .ok (.iload_n 2, 1) := by decide +kernel
theorem dX11_callers_37 : decode cX11_callers 37 = .ok (.iconst 1, 1) := by decide +kernel
theorem dX11_callers_38 : decode cX11_callers 38 = .ok (.invokevirtual 370, 3) := by decide +kernel
theorem dX11_callers_41 : decode cX11_callers 41 = .ok (.istore 4, 2) := by decide +kernel
theorem dX11_callers_43 : decode cX11_callers 43 = .ok (.iload 4, 2) := by decide +kernel
theorem dX11_callers_45 : decode cX11_callers 45 = .ok (.ifCond .le 7, 3) := by decide +kernel
theorem dX11_callers_48 : decode cX11_callers 48 = .ok (.iconst 1, 1) := by decide +kernel
theorem dX11_callers_49 : decode cX11_callers 49 = .ok (.goto 13, 3) := by decide +kernel
theorem dX11_callers_52 : decode cX11_callers 52 = .ok (.iload 4, 2) := by decide +kernel
theorem dX11_callers_54 : decode cX11_callers 54 = .ok (.ifCond .ge 7, 3) := by decide +kernel
theorem dX11_callers_57 : decode cX11_callers 57 = .ok (.iconst 2, 1) := by decide +kernel
theorem dX11_callers_58 : decode cX11_callers 58 = .ok (.goto 4, 3) := by decide +kernel
theorem dX11_callers_61 : decode cX11_callers 61 = .ok (.iconst 0, 1) := by decide +kernel
theorem dX11_callers_62 : decode cX11_callers 62 = .ok (.ireturn, 1) := by decide +kernel
theorem dX11_callsBy_0 : decode cX11_callsBy 0 = .ok (.aload_n 0, 1) := by decide +kernel
theorem dX11_callsBy_1 : decode cX11_callsBy 1 = .ok (.invokevirtual 147, 3) := by decide +kernel
theorem dX11_callsBy_4 : decode cX11_callsBy 4 = .ok (.aload_n 0, 1) := by decide +kernel
theorem dX11_callsBy_5 : decode cX11_callsBy 5 = .ok (.iload_n 1, 1) := by decide +kernel
theorem dX11_callsBy_6 : decode cX11_callsBy 6 = .ok (.iload_n 2, 1) := by decide +kernel
theorem dX11_callsBy_7 : decode cX11_callsBy 7 = .ok (.invokevirtual 377, 3) := by decide +kernel
theorem dX11_callsBy_10 : decode cX11_callsBy 10 = .ok (.istore_n 3, 1) := by decide +kernel
theorem dX11_callsBy_11 : decode cX11_callsBy 11 = .ok (.iload_n 3, 1) := by decide +kernel
theorem dX11_callsBy_12 : decode cX11_callsBy 12 = .ok (.ifCond .eq 9, 3) := by decide +kernel
theorem dX11_callsBy_15 : decode cX11_callsBy 15 = .ok (.aload_n 0, 1) := by decide +kernel
theorem dX11_callsBy_16 : decode cX11_callsBy 16 = .ok (.iload_n 3, 1) := by decide +kernel
theorem dX11_callsBy_17 : decode cX11_callsBy 17 = .ok (.invokevirtual 150, 3) := by decide +kernel
theorem dX11_callsBy_20 : decode cX11_callsBy 20 = .ok (.ireturn, 1) := by decide +kernel
theorem dX11_callsBy_21 : decode cX11_callsBy 21 = .ok (.aload_n 0, 1) := by decide +kernel
theorem dX11_callsBy_22 : decode cX11_callsBy 22 = .ok (.aload_n 0, 1) := by decide +kernel
theorem dX11_callsBy_23 : decode cX11_callsBy 23 = .ok (.getfield 26, 3) := by decide +kernel
theorem dX11_callsBy_26 : decode cX11_callsBy 26 = .ok (.iload_n 1, 1) := by decide +kernel
theorem dX11_callsBy_27 : decode cX11_callsBy 27 = .ok (.iaload, 1) := by decide +kernel
theorem dX11_callsBy_28 : decode cX11_callsBy 28 = .ok (.aload_n 0, 1) := by decide +kernel
theorem dX11_callsBy_29 : decode cX11_callsBy 29 = .ok (.getfield 26, 3) := by decide +kernel
theorem dX11_callsBy_32 : decode cX11_callsBy 32 = .ok (.iconst 5, 1) := by decide +kernel
theorem dX11_callsBy_33 : decode cX11_callsBy 33 = .ok (.iload_n 1, 1) := by decide +kernel
theorem dX11_callsBy_34 : decode cX11_callsBy 34 = .ok (.iadd, 1) := by decide +kernel
theorem dX11_callsBy_35 : decode cX11_callsBy 35 = .ok (.iaload, 1) := by decide +kernel
theorem dX11_callsBy_36 : decode cX11_callsBy 36 = .ok (.iload_n 2, 1) := by decide +kernel
theorem dX11_callsBy_37 : decode cX11_callsBy 37 = .ok (.iconst 1, 1) := by decide +kernel
theorem dX11_callsBy_38 : decode cX11_callsBy 38 = .ok (.invokevirtual 370, 3) := by decide +kernel
theorem dX11_callsBy_41 : decode cX11_callsBy 41 = .ok (.pop, 1) := by decide +kernel
theorem dX11_callsBy_42 : decode cX11_callsBy 42 = .ok (.aload_n 0, 1) := by decide +kernel
theorem dX11_callsBy_43 : decode cX11_callsBy 43 = .ok (.getfield 374, 3) := by decide +kernel
theorem dX11_callsBy_46 : decode cX11_callsBy 46 = .ok (.ireturn, 1) := by decide +kernel
theorem dX11_bowsOf_0 : decode cX11_bowsOf 0 = .ok (.iload_n 1, 1) := by decide +kernel
theorem dX11_bowsOf_1 : decode cX11_bowsOf 1 = .ok (.ifCond .eq 15, 3) := by decide +kernel
theorem dX11_bowsOf_4 : decode cX11_bowsOf 4 = .ok (.iload_n 2, 1) := by decide +kernel
theorem dX11_bowsOf_5 : decode cX11_bowsOf 5 = .ok (.ifCond .eq 7, 3) := by decide +kernel
theorem dX11_bowsOf_8 : decode cX11_bowsOf 8 = .ok (.iconst 1, 1) := by decide +kernel
theorem dX11_bowsOf_9 : decode cX11_bowsOf 9 = .ok (.goto 17, 3) := by decide +kernel
theorem dX11_bowsOf_12 : decode cX11_bowsOf 12 = .ok (.iconst 0, 1) := by decide +kernel
theorem dX11_bowsOf_13 : decode cX11_bowsOf 13 = .ok (.goto 13, 3) := by decide +kernel
theorem dX11_bowsOf_16 : decode cX11_bowsOf 16 = .ok (.iload_n 2, 1) := by decide +kernel
theorem dX11_bowsOf_17 : decode cX11_bowsOf 17 = .ok (.ifCond .eq 7, 3) := by decide +kernel
theorem dX11_bowsOf_20 : decode cX11_bowsOf 20 = .ok (.iconst 2, 1) := by decide +kernel
theorem dX11_bowsOf_21 : decode cX11_bowsOf 21 = .ok (.goto 5, 3) := by decide +kernel
theorem dX11_bowsOf_24 : decode cX11_bowsOf 24 = .ok (.iload_n 0, 1) := by decide +kernel
theorem dX11_bowsOf_25 : decode cX11_bowsOf 25 = .ok (.ineg, 1) := by decide +kernel
theorem dX11_bowsOf_26 : decode cX11_bowsOf 26 = .ok (.ireturn, 1) := by decide +kernel
theorem dX11_bows_0 : decode cX11_bows 0 = .ok (.aload_n 0, 1) := by decide +kernel
theorem dX11_bows_1 : decode cX11_bows 1 = .ok (.invokevirtual 147, 3) := by decide +kernel
theorem dX11_bows_4 : decode cX11_bows 4 = .ok (.aload_n 0, 1) := by decide +kernel
theorem dX11_bows_5 : decode cX11_bows 5 = .ok (.aload_n 0, 1) := by decide +kernel
theorem dX11_bows_6 : decode cX11_bows 6 = .ok (.getfield 163, 3) := by decide +kernel
theorem dX11_bows_9 : decode cX11_bows 9 = .ok (.iload_n 1, 1) := by decide +kernel
theorem dX11_bows_10 : decode cX11_bows 10 = .ok (.iconst 0, 1) := by decide +kernel
theorem dX11_bows_11 : decode cX11_bows 11 = .ok (.bipush 9, 2) := by decide +kernel
theorem dX11_bows_13 : decode cX11_bows 13 = .ok (.invokestatic 143, 3) := by decide +kernel
theorem dX11_bows_16 : decode cX11_bows 16 = .ok (.invokevirtual 297, 3) := by decide +kernel
theorem dX11_bows_19 : decode cX11_bows 19 = .ok (.istore 5, 2) := by decide +kernel
theorem dX11_bows_21 : decode cX11_bows 21 = .ok (.iload 5, 2) := by decide +kernel
theorem dX11_bows_23 : decode cX11_bows 23 = .ok (.ifCond .ne 24, 3) := by decide +kernel
theorem dX11_bows_26 : decode cX11_bows 26 = .ok (.iload 4, 2) := by decide +kernel
theorem dX11_bows_28 : decode cX11_bows 28 = .ok (.ifCond .eq 12, 3) := by decide +kernel
theorem dX11_bows_31 : decode cX11_bows 31 = .ok (.iload_n 1, 1) := by decide +kernel
theorem dX11_bows_32 : decode cX11_bows 32 = .ok (.iload_n 3, 1) := by decide +kernel
theorem dX11_bows_33 : decode cX11_bows 33 = .ok (.iload_n 2, 1) := by decide +kernel
theorem dX11_bows_34 : decode cX11_bows 34 = .ok (.invokestatic 380, 3) := by decide +kernel
theorem dX11_bows_37 : decode cX11_bows 37 = .ok (.goto 9, 3) := by decide +kernel
theorem dX11_bows_40 : decode cX11_bows 40 = .ok (.iload_n 1, 1) := by decide +kernel
theorem dX11_bows_41 : decode cX11_bows 41 = .ok (.iload_n 2, 1) := by decide +kernel
theorem dX11_bows_42 : decode cX11_bows 42 = .ok (.iload_n 3, 1) := by decide +kernel
theorem dX11_bows_43 : decode cX11_bows 43 = .ok (.invokestatic 380, 3) := by decide +kernel
theorem dX11_bows_46 : decode cX11_bows 46 = .ok (.ireturn, 1) := by decide +kernel
theorem dX11_bows_47 : decode cX11_bows 47 = .ok (.aload_n 0, 1) := by decide +kernel
theorem dX11_bows_48 : decode cX11_bows 48 = .ok (.iload 5, 2) := by decide +kernel
theorem dX11_bows_50 : decode cX11_bows 50 = .ok (.putfield 56, 3) := by decide +kernel
theorem dX11_bows_53 : decode cX11_bows 53 = .ok (.bipush (-100), 2) := by decide +kernel
theorem dX11_bows_55 : decode cX11_bows 55 = .ok (.ireturn, 1) := by decide +kernel
theorem dX11_seekRests_0 : decode cX11_seekRests 0 = .ok (.iconst 0, 1) := by decide +kernel
theorem dX11_seekRests_1 : decode cX11_seekRests 1 = .ok (.istore_n 2, 1) := by decide +kernel
theorem dX11_seekRests_2 : decode cX11_seekRests 2 = .ok (.aload_n 0, 1) := by decide +kernel
theorem dX11_seekRests_3 : decode cX11_seekRests 3 = .ok (.bipush (-2), 2) := by decide +kernel
theorem dX11_seekRests_5 : decode cX11_seekRests 5 = .ok (.putfield 384, 3) := by decide +kernel
theorem dX11_seekRests_8 : decode cX11_seekRests 8 = .ok (.iconst 0, 1) := by decide +kernel
theorem dX11_seekRests_9 : decode cX11_seekRests 9 = .ok (.istore_n 3, 1) := by decide +kernel
theorem dX11_seekRests_10 : decode cX11_seekRests 10 = .ok (.iload_n 3, 1) := by decide +kernel
theorem dX11_seekRests_11 : decode cX11_seekRests 11 = .ok (.iconst 4, 1) := by decide +kernel
theorem dX11_seekRests_12 : decode cX11_seekRests 12 = .ok (.if_icmp .ge 113, 3) := by decide +kernel
theorem dX11_seekRests_15 : decode cX11_seekRests 15 = .ok (.iload_n 3, 1) := by decide +kernel
theorem dX11_seekRests_16 : decode cX11_seekRests 16 = .ok (.iconst 1, 1) := by decide +kernel
theorem dX11_seekRests_17 : decode cX11_seekRests 17 = .ok (.if_icmp .le 7, 3) := by decide +kernel
theorem dX11_seekRests_20 : decode cX11_seekRests 20 = .ok (.iconst 1, 1) := by decide +kernel
theorem dX11_seekRests_21 : decode cX11_seekRests 21 = .ok (.goto 4, 3) := by decide +kernel
theorem dX11_seekRests_24 : decode cX11_seekRests 24 = .ok (.iconst 0, 1) := by decide +kernel
theorem dX11_seekRests_25 : decode cX11_seekRests 25 = .ok (.istore 4, 2) := by decide +kernel
theorem dX11_seekRests_27 : decode cX11_seekRests 27 = .ok (.iload_n 3, 1) := by decide +kernel
theorem dX11_seekRests_28 : decode cX11_seekRests 28 = .ok (.iconst 2, 1) := by decide +kernel
theorem dX11_seekRests_29 : decode cX11_seekRests 29 = .ok (.irem, 1) := by decide +kernel
theorem dX11_seekRests_30 : decode cX11_seekRests 30 = .ok (.iconst 1, 1) := by decide +kernel
theorem dX11_seekRests_31 : decode cX11_seekRests 31 = .ok (.if_icmp .ne 7, 3) := by decide +kernel
theorem dX11_seekRests_34 : decode cX11_seekRests 34 = .ok (.iconst 1, 1) := by decide +kernel
theorem dX11_seekRests_35 : decode cX11_seekRests 35 = .ok (.goto 4, 3) := by decide +kernel
theorem dX11_seekRests_38 : decode cX11_seekRests 38 = .ok (.iconst 0, 1) := by decide +kernel
theorem dX11_seekRests_39 : decode cX11_seekRests 39 = .ok (.istore 5, 2) := by decide +kernel
theorem dX11_seekRests_41 : decode cX11_seekRests 41 = .ok (.iload_n 1, 1) := by decide +kernel
theorem dX11_seekRests_42 : decode cX11_seekRests 42 = .ok (.iload 4, 2) := by decide +kernel
theorem dX11_seekRests_44 : decode cX11_seekRests 44 = .ok (.ifCond .ne 7, 3) := by decide +kernel
theorem dX11_seekRests_47 : decode cX11_seekRests 47 = .ok (.iconst 1, 1) := by decide +kernel
theorem dX11_seekRests_48 : decode cX11_seekRests 48 = .ok (.goto 4, 3) := by decide +kernel
theorem dX11_seekRests_51 : decode cX11_seekRests 51 = .ok (.iconst 0, 1) := by decide +kernel
theorem dX11_seekRests_52 : decode cX11_seekRests 52 = .ok (.iload 5, 2) := by decide +kernel
theorem dX11_seekRests_54 : decode cX11_seekRests 54 = .ok (.invokestatic 380, 3) := by decide +kernel
theorem dX11_seekRests_57 : decode cX11_seekRests 57 = .ok (.iload_n 1, 1) := by decide +kernel
theorem dX11_seekRests_58 : decode cX11_seekRests 58 = .ok (.iload 4, 2) := by decide +kernel
theorem dX11_seekRests_60 : decode cX11_seekRests 60 = .ok (.iload 5, 2) := by decide +kernel
theorem dX11_seekRests_62 : decode cX11_seekRests 62 = .ok (.invokestatic 380, 3) := by decide +kernel
theorem dX11_seekRests_65 : decode cX11_seekRests 65 = .ok (.if_icmp .gt 54, 3) := by decide +kernel
theorem dX11_seekRests_68 : decode cX11_seekRests 68 = .ok (.iload_n 1, 1) := by decide +kernel
theorem dX11_seekRests_69 : decode cX11_seekRests 69 = .ok (.iload 5, 2) := by decide +kernel
theorem dX11_seekRests_71 : decode cX11_seekRests 71 = .ok (.ifCond .ne 7, 3) := by decide +kernel
theorem dX11_seekRests_74 : decode cX11_seekRests 74 = .ok (.iconst 1, 1) := by decide +kernel
theorem dX11_seekRests_75 : decode cX11_seekRests 75 = .ok (.goto 4, 3) := by decide +kernel
theorem dX11_seekRests_78 : decode cX11_seekRests 78 = .ok (.iconst 0, 1) := by decide +kernel
theorem dX11_seekRests_79 : decode cX11_seekRests 79 = .ok (.iload 4, 2) := by decide +kernel
theorem dX11_seekRests_81 : decode cX11_seekRests 81 = .ok (.invokestatic 380, 3) := by decide +kernel
theorem dX11_seekRests_84 : decode cX11_seekRests 84 = .ok (.iload_n 1, 1) := by decide +kernel
theorem dX11_seekRests_85 : decode cX11_seekRests 85 = .ok (.iload 5, 2) := by decide +kernel
theorem dX11_seekRests_87 : decode cX11_seekRests 87 = .ok (.iload 4, 2) := by decide +kernel
theorem dX11_seekRests_89 : decode cX11_seekRests 89 = .ok (.invokestatic 380, 3) := by decide +kernel
theorem dX11_seekRests_92 : decode cX11_seekRests 92 = .ok (.if_icmp .le 6, 3) := by decide +kernel
theorem dX11_seekRests_95 : decode cX11_seekRests 95 = .ok (.goto 24, 3) := by decide +kernel
theorem dX11_seekRests_98 : decode cX11_seekRests 98 = .ok (.iload_n 2, 1) := by decide +kernel
theorem dX11_seekRests_99 : decode cX11_seekRests 99 = .ok (.ifCond .ne 17, 3) := by decide +kernel
theorem dX11_seekRests_102 : decode cX11_seekRests 102 = .ok (.aload_n 0, 1) := by decide +kernel
theorem dX11_seekRests_103 : decode cX11_seekRests 103 = .ok (.bipush 10, 2) := by decide +kernel
theorem dX11_seekRests_105 : decode cX11_seekRests 105 = .ok (.iload_n 3, 1) := by decide +kernel
theorem dX11_seekRests_106 : decode cX11_seekRests 106 = .ok (.iconst 2, 1) := by decide +kernel
theorem dX11_seekRests_107 : decode cX11_seekRests 107 = .ok (.idiv, 1) := by decide +kernel
theorem dX11_seekRests_108 : decode cX11_seekRests 108 = .ok (.imul, 1) := by decide +kernel
theorem dX11_seekRests_109 : decode cX11_seekRests 109 = .ok (.iload_n 3, 1) := by decide +kernel
theorem dX11_seekRests_110 : decode cX11_seekRests 110 = .ok (.iconst 2, 1) := by decide +kernel
theorem dX11_seekRests_111 : decode cX11_seekRests 111 = .ok (.irem, 1) := by decide +kernel
theorem dX11_seekRests_112 : decode cX11_seekRests 112 = .ok (.iadd, 1) := by decide +kernel
theorem dX11_seekRests_113 : decode cX11_seekRests 113 = .ok (.putfield 384, 3) := by decide +kernel
theorem dX11_seekRests_116 : decode cX11_seekRests 116 = .ok (.iinc 2 1, 3) := by decide +kernel
theorem dX11_seekRests_119 : decode cX11_seekRests 119 = .ok (.iinc 3 1, 3) := by decide +kernel
theorem dX11_seekRests_122 : decode cX11_seekRests 122 = .ok (.goto (-112), 3) := by decide +kernel
theorem dX11_seekRests_125 : decode cX11_seekRests 125 = .ok (.iload_n 2, 1) := by decide +kernel
theorem dX11_seekRests_126 : decode cX11_seekRests 126 = .ok (.ireturn, 1) := by decide +kernel
theorem dX11_rests_0 : decode cX11_rests 0 = .ok (.aload_n 0, 1) := by decide +kernel
theorem dX11_rests_1 : decode cX11_rests 1 = .ok (.invokevirtual 147, 3) := by decide +kernel
theorem dX11_rests_4 : decode cX11_rests 4 = .ok (.aload_n 0, 1) := by decide +kernel
theorem dX11_rests_5 : decode cX11_rests 5 = .ok (.aload_n 0, 1) := by decide +kernel
theorem dX11_rests_6 : decode cX11_rests 6 = .ok (.getfield 163, 3) := by decide +kernel
theorem dX11_rests_9 : decode cX11_rests 9 = .ok (.iload_n 1, 1) := by decide +kernel
theorem dX11_rests_10 : decode cX11_rests 10 = .ok (.iconst 0, 1) := by decide +kernel
theorem dX11_rests_11 : decode cX11_rests 11 = .ok (.bipush 9, 2) := by decide +kernel
theorem dX11_rests_13 : decode cX11_rests 13 = .ok (.invokestatic 143, 3) := by decide +kernel
theorem dX11_rests_16 : decode cX11_rests 16 = .ok (.invokevirtual 297, 3) := by decide +kernel
theorem dX11_rests_19 : decode cX11_rests 19 = .ok (.istore_n 2, 1) := by decide +kernel
theorem dX11_rests_20 : decode cX11_rests 20 = .ok (.iload_n 2, 1) := by decide +kernel
theorem dX11_rests_21 : decode cX11_rests 21 = .ok (.ifCond .eq 11, 3) := by decide +kernel
theorem dX11_rests_24 : decode cX11_rests 24 = .ok (.aload_n 0, 1) := by decide +kernel
theorem dX11_rests_25 : decode cX11_rests 25 = .ok (.iload_n 2, 1) := by decide +kernel
theorem dX11_rests_26 : decode cX11_rests 26 = .ok (.invokevirtual 150, 3) := by decide +kernel
theorem dX11_rests_29 : decode cX11_rests 29 = .ok (.goto 8, 3) := by decide +kernel
theorem dX11_rests_32 : decode cX11_rests 32 = .ok (.aload_n 0, 1) := by decide +kernel
theorem dX11_rests_33 : decode cX11_rests 33 = .ok (.iload_n 1, 1) := by decide +kernel
theorem dX11_rests_34 : decode cX11_rests 34 = .ok (.invokevirtual 387, 3) := by decide +kernel
theorem dX11_rests_37 : decode cX11_rests 37 = .ok (.ireturn, 1) := by decide +kernel
theorem dX11_rest_0 : decode cX11_rest 0 = .ok (.aload_n 0, 1) := by decide +kernel
theorem dX11_rest_1 : decode cX11_rest 1 = .ok (.invokevirtual 147, 3) := by decide +kernel
theorem dX11_rest_4 : decode cX11_rest 4 = .ok (.aload_n 0, 1) := by decide +kernel
theorem dX11_rest_5 : decode cX11_rest 5 = .ok (.aload_n 0, 1) := by decide +kernel
theorem dX11_rest_6 : decode cX11_rest 6 = .ok (.getfield 163, 3) := by decide +kernel
theorem dX11_rest_9 : decode cX11_rest 9 = .ok (.iload_n 1, 1) := by decide +kernel
theorem dX11_rest_10 : decode cX11_rest 10 = .ok (.iconst 0, 1) := by decide +kernel
theorem dX11_rest_11 : decode cX11_rest 11 = .ok (.bipush 9, 2) := by decide +kernel
theorem dX11_rest_13 : decode cX11_rest 13 = .ok (.invokestatic 143, 3) := by decide +kernel
theorem dX11_rest_16 : decode cX11_rest 16 = .ok (.invokevirtual 297, 3) := by decide +kernel
theorem dX11_rest_19 : decode cX11_rest 19 = .ok (.istore_n 2, 1) := by decide +kernel
theorem dX11_rest_20 : decode cX11_rest 20 = .ok (.iload_n 2, 1) := by decide +kernel
theorem dX11_rest_21 : decode cX11_rest 21 = .ok (.ifCond .eq 9, 3) := by decide +kernel
theorem dX11_rest_24 : decode cX11_rest 24 = .ok (.aload_n 0, 1) := by decide +kernel
theorem dX11_rest_25 : decode cX11_rest 25 = .ok (.iload_n 2, 1) := by decide +kernel
theorem dX11_rest_26 : decode cX11_rest 26 = .ok (.invokevirtual 150, 3) := by decide +kernel
theorem dX11_rest_29 : decode cX11_rest 29 = .ok (.ireturn, 1) := by decide +kernel
theorem dX11_rest_30 : decode cX11_rest 30 = .ok (.aload_n 0, 1) := by decide +kernel
theorem dX11_rest_31 : decode cX11_rest 31 = .ok (.iload_n 1, 1) := by decide +kernel
theorem dX11_rest_32 : decode cX11_rest 32 = .ok (.invokevirtual 387, 3) := by decide +kernel
theorem dX11_rest_35 : decode cX11_rest 35 = .ok (.pop, 1) := by decide +kernel
theorem dX11_rest_36 : decode cX11_rest 36 = .ok (.aload_n 0, 1) := by decide +kernel
theorem dX11_rest_37 : decode cX11_rest 37 = .ok (.getfield 384, 3) := by decide +kernel
theorem dX11_rest_40 : decode cX11_rest 40 = .ok (.ireturn, 1) := by decide +kernel
theorem dX11_trySlips_0 : decode cX11_trySlips 0 = .ok (.aload_n 0, 1) := by decide +kernel
theorem dX11_trySlips_1 : decode cX11_trySlips 1 = .ok (.lconst 0, 1) := by decide +kernel
theorem dX11_trySlips_2 : decode cX11_trySlips 2 = .ok (.putfield 390, 3) := by decide +kernel
theorem dX11_trySlips_5 : decode cX11_trySlips 5 = .ok (.aload_n 0, 1) := by decide +kernel
theorem dX11_trySlips_6 : decode cX11_trySlips 6 = .ok (.lconst 0, 1) := by decide +kernel
theorem dX11_trySlips_7 : decode cX11_trySlips 7 = .ok (.putfield 394, 3) := by decide +kernel
theorem dX11_trySlips_10 : decode cX11_trySlips 10 = .ok (.aload_n 0, 1) := by decide +kernel
theorem dX11_trySlips_11 : decode cX11_trySlips 11 = .ok (.lconst 0, 1) := by decide +kernel
theorem dX11_trySlips_12 : decode cX11_trySlips 12 = .ok (.putfield 397, 3) := by decide +kernel
theorem dX11_trySlips_15 : decode cX11_trySlips 15 = .ok (.aload_n 0, 1) := by decide +kernel
theorem dX11_trySlips_16 : decode cX11_trySlips 16 = .ok (.lconst 0, 1) := by decide +kernel
theorem dX11_trySlips_17 : decode cX11_trySlips 17 = .ok (.putfield 400, 3) := by decide +kernel
theorem dX11_trySlips_20 : decode cX11_trySlips 20 = .ok (.iconst 0, 1) := by decide +kernel
theorem dX11_trySlips_21 : decode cX11_trySlips 21 = .ok (.istore 5, 2) := by decide +kernel
theorem dX11_trySlips_23 : decode cX11_trySlips 23 = .ok (.iload 5, 2) := by decide +kernel
theorem dX11_trySlips_25 : decode cX11_trySlips 25 = .ok (.iconst 1, 1) := by decide +kernel
theorem dX11_trySlips_26 : decode cX11_trySlips 26 = .ok (.iload_n 2, 1) := by decide +kernel
theorem dX11_trySlips_27 : decode cX11_trySlips 27 = .ok (.ishl, 1) := by decide +kernel
theorem dX11_trySlips_28 : decode cX11_trySlips 28 = .ok (.if_icmp .ge 146, 3) := by decide +kernel
theorem dX11_trySlips_31 : decode cX11_trySlips 31 = .ok (.lconst 1, 1) := by decide +kernel
theorem dX11_trySlips_32 : decode cX11_trySlips 32 = .ok (.lstore 6, 2) := by decide +kernel
theorem dX11_trySlips_34 : decode cX11_trySlips 34 = .ok (.iconst 0, 1) := by decide +kernel
theorem dX11_trySlips_35 : decode cX11_trySlips 35 = .ok (.istore 8, 2) := by decide +kernel
theorem dX11_trySlips_37 : decode cX11_trySlips 37 = .ok (.iload 8, 2) := by decide +kernel
theorem dX11_trySlips_39 : decode cX11_trySlips 39 = .ok (.iload_n 2, 1) := by decide +kernel
theorem dX11_trySlips_40 : decode cX11_trySlips 40 = .ok (.if_icmp .ge 44, 3) := by decide +kernel
theorem dX11_trySlips_43 : decode cX11_trySlips 43 = .ok (.lload 6, 2) := by decide +kernel
theorem dX11_trySlips_45 : decode cX11_trySlips 45 = .ok (.iload 5, 2) := by decide +kernel
theorem dX11_trySlips_47 : decode cX11_trySlips 47 = .ok (.iload 8, 2) := by decide +kernel
theorem dX11_trySlips_49 : decode cX11_trySlips 49 = .ok (.invokestatic 232, 3) := by decide +kernel
theorem dX11_trySlips_52 : decode cX11_trySlips 52 = .ok (.ifCond .eq 13, 3) := by decide +kernel
theorem dX11_trySlips_55 : decode cX11_trySlips 55 = .ok (.aload_n 0, 1) := by decide +kernel
theorem dX11_trySlips_56 : decode cX11_trySlips 56 = .ok (.getfield 20, 3) := by decide +kernel
theorem dX11_trySlips_59 : decode cX11_trySlips 59 = .ok (.iconst 0, 1) := by decide +kernel
theorem dX11_trySlips_60 : decode cX11_trySlips 60 = .ok (.iaload, 1) := by decide +kernel
theorem dX11_trySlips_61 : decode cX11_trySlips 61 = .ok (.i2l, 1) := by decide +kernel
theorem dX11_trySlips_62 : decode cX11_trySlips 62 = .ok (.goto 13, 3) := by decide +kernel
theorem dX11_trySlips_65 : decode cX11_trySlips 65 = .ok (.bipush 100, 2) := by decide +kernel
theorem dX11_trySlips_67 : decode cX11_trySlips 67 = .ok (.aload_n 0, 1) := by decide +kernel
theorem dX11_trySlips_68 : decode cX11_trySlips 68 = .ok (.getfield 20, 3) := by decide +kernel
theorem dX11_trySlips_71 : decode cX11_trySlips 71 = .ok (.iconst 0, 1) := by decide +kernel
theorem dX11_trySlips_72 : decode cX11_trySlips 72 = .ok (.iaload, 1) := by decide +kernel
theorem dX11_trySlips_73 : decode cX11_trySlips 73 = .ok (.isub, 1) := by decide +kernel
theorem dX11_trySlips_74 : decode cX11_trySlips 74 = .ok (.i2l, 1) := by decide +kernel
theorem dX11_trySlips_75 : decode cX11_trySlips 75 = .ok (.lmul, 1) := by decide +kernel
theorem dX11_trySlips_76 : decode cX11_trySlips 76 = .ok (.lstore 6, 2) := by decide +kernel
theorem dX11_trySlips_78 : decode cX11_trySlips 78 = .ok (.iinc 8 1, 3) := by decide +kernel
theorem dX11_trySlips_81 : decode cX11_trySlips 81 = .ok (.goto (-44), 3) := by decide +kernel
theorem dX11_trySlips_84 : decode cX11_trySlips 84 = .ok (.aload_n 0, 1) := by decide +kernel
theorem dX11_trySlips_85 : decode cX11_trySlips 85 = .ok (.iload_n 1, 1) := by decide +kernel
theorem dX11_trySlips_86 : decode cX11_trySlips 86 = .ok (.iload_n 2, 1) := by decide +kernel
theorem dX11_trySlips_87 : decode cX11_trySlips 87 = .ok (.iconst 0, 1) := by decide +kernel
theorem dX11_trySlips_88 : decode cX11_trySlips 88 = .ok (.iload 5, 2) := by decide +kernel
theorem dX11_trySlips_90 : decode cX11_trySlips 90 = .ok (.invokevirtual 166, 3) := by decide +kernel
theorem dX11_trySlips_93 : decode cX11_trySlips 93 = .ok (.aload_n 0, 1) := by decide +kernel
theorem dX11_trySlips_94 : decode cX11_trySlips 94 = .ok (.dup, 1) := by decide +kernel
theorem dX11_trySlips_95 : decode cX11_trySlips 95 = .ok (.getfield 390, 3) := by decide +kernel
theorem dX11_trySlips_98 : decode cX11_trySlips 98 = .ok (.lload 6, 2) := by decide +kernel
theorem dX11_trySlips_100 : decode cX11_trySlips 100 = .ok (.ladd, 1) := by decide +kernel
theorem dX11_trySlips_101 : decode cX11_trySlips 101 = .ok (.putfield 390, 3) := by decide +kernel
theorem dX11_trySlips_104 : decode cX11_trySlips 104 = .ok (.aload_n 0, 1) := by decide +kernel
theorem dX11_trySlips_105 : decode cX11_trySlips 105 = .ok (.dup, 1) := by decide +kernel
theorem dX11_trySlips_106 : decode cX11_trySlips 106 = .ok (.getfield 394, 3) := by decide +kernel
theorem dX11_trySlips_109 : decode cX11_trySlips 109 = .ok (.aload_n 0, 1) := by decide +kernel
theorem dX11_trySlips_110 : decode cX11_trySlips 110 = .ok (.iload_n 3, 1) := by decide +kernel
theorem dX11_trySlips_111 : decode cX11_trySlips 111 = .ok (.invokevirtual 248, 3) := by decide +kernel
theorem dX11_trySlips_114 : decode cX11_trySlips 114 = .ok (.iload 4, 2) := by decide +kernel
theorem dX11_trySlips_116 : decode cX11_trySlips 116 = .ok (.if_icmp .ne 8, 3) := by decide +kernel
theorem dX11_trySlips_119 : decode cX11_trySlips 119 = .ok (.lload 6, 2) := by decide +kernel
theorem dX11_trySlips_121 : decode cX11_trySlips 121 = .ok (.goto 4, 3) := by decide +kernel
theorem dX11_trySlips_124 : decode cX11_trySlips 124 = .ok (.lconst 0, 1) := by decide +kernel
theorem dX11_trySlips_125 : decode cX11_trySlips 125 = .ok (.ladd, 1) := by decide +kernel
theorem dX11_trySlips_126 : decode cX11_trySlips 126 = .ok (.putfield 394, 3) := by decide +kernel
theorem dX11_trySlips_129 : decode cX11_trySlips 129 = .ok (.aload_n 0, 1) := by decide +kernel
theorem dX11_trySlips_130 : decode cX11_trySlips 130 = .ok (.dup, 1) := by decide +kernel
theorem dX11_trySlips_131 : decode cX11_trySlips 131 = .ok (.getfield 397, 3) := by decide +kernel
theorem dX11_trySlips_134 : decode cX11_trySlips 134 = .ok (.aload_n 0, 1) := by decide +kernel
theorem dX11_trySlips_135 : decode cX11_trySlips 135 = .ok (.invokevirtual 263, 3) := by decide +kernel
theorem dX11_trySlips_138 : decode cX11_trySlips 138 = .ok (.ifCond .eq 8, 3) := by decide +kernel
theorem dX11_trySlips_141 : decode cX11_trySlips 141 = .ok (.lload 6, 2) := by decide +kernel
theorem dX11_trySlips_143 : decode cX11_trySlips 143 = .ok (.goto 4, 3) := by decide +kernel
theorem dX11_trySlips_146 : decode cX11_trySlips 146 = .ok (.lconst 0, 1) := by decide +kernel
theorem dX11_trySlips_147 : decode cX11_trySlips 147 = .ok (.ladd, 1) := by decide +kernel
theorem dX11_trySlips_148 : decode cX11_trySlips 148 = .ok (.putfield 397, 3) := by decide +kernel
theorem dX11_trySlips_151 : decode cX11_trySlips 151 = .ok (.aload_n 0, 1) := by decide +kernel
theorem dX11_trySlips_152 : decode cX11_trySlips 152 = .ok (.dup, 1) := by decide +kernel
theorem dX11_trySlips_153 : decode cX11_trySlips 153 = .ok (.getfield 400, 3) := by decide +kernel
theorem dX11_trySlips_156 : decode cX11_trySlips 156 = .ok (.lload 6, 2) := by decide +kernel
theorem dX11_trySlips_158 : decode cX11_trySlips 158 = .ok (.aload_n 0, 1) := by decide +kernel
theorem dX11_trySlips_159 : decode cX11_trySlips 159 = .ok (.invokevirtual 251, 3) := by decide +kernel
theorem dX11_trySlips_162 : decode cX11_trySlips 162 = .ok (.i2l, 1) := by decide +kernel
theorem dX11_trySlips_163 : decode cX11_trySlips 163 = .ok (.lmul, 1) := by decide +kernel
theorem dX11_trySlips_164 : decode cX11_trySlips 164 = .ok (.ladd, 1) := by decide +kernel
theorem dX11_trySlips_165 : decode cX11_trySlips 165 = .ok (.putfield 400, 3) := by decide +kernel
theorem dX11_trySlips_168 : decode cX11_trySlips 168 = .ok (.iinc 5 1, 3) := by decide +kernel
theorem dX11_trySlips_171 : decode cX11_trySlips 171 = .ok (.goto (-148), 3) := by decide +kernel
theorem dX11_trySlips_174 : decode cX11_trySlips 174 = .ok (.return_, 1) := by decide +kernel
theorem dX11_slipWhy_0 : decode cX11_slipWhy 0 = .ok (.iload_n 1, 1) := by decide +kernel
theorem dX11_slipWhy_1 : decode cX11_slipWhy 1 = .ok (.ifCond .ne 7, 3) := by decide +kernel
theorem dX11_slipWhy_4 : decode cX11_slipWhy 4 = .ok (.iconst 1, 1) := by decide +kernel
theorem dX11_slipWhy_5 : decode cX11_slipWhy 5 = .ok (.goto 30, 3) := by decide +kernel
theorem dX11_slipWhy_8 : decode cX11_slipWhy 8 = .ok (.iload_n 3, 1) := by decide +kernel
theorem dX11_slipWhy_9 : decode cX11_slipWhy 9 = .ok (.iconst 0, 1) := by decide +kernel
theorem dX11_slipWhy_10 : decode cX11_slipWhy 10 = .ok (.bipush 8, 2) := by decide +kernel
theorem dX11_slipWhy_12 : decode cX11_slipWhy 12 = .ok (.invokestatic 143, 3) := by decide +kernel
theorem dX11_slipWhy_15 : decode cX11_slipWhy 15 = .ok (.ifCond .eq 19, 3) := by decide +kernel
theorem dX11_slipWhy_18 : decode cX11_slipWhy 18 = .ok (.iload_n 3, 1) := by decide +kernel
theorem dX11_slipWhy_19 : decode cX11_slipWhy 19 = .ok (.aload_n 0, 1) := by decide +kernel
theorem dX11_slipWhy_20 : decode cX11_slipWhy 20 = .ok (.getfield 20, 3) := by decide +kernel
theorem dX11_slipWhy_23 : decode cX11_slipWhy 23 = .ok (.iconst 4, 1) := by decide +kernel
theorem dX11_slipWhy_24 : decode cX11_slipWhy 24 = .ok (.iload_n 2, 1) := by decide +kernel
theorem dX11_slipWhy_25 : decode cX11_slipWhy 25 = .ok (.iadd, 1) := by decide +kernel
theorem dX11_slipWhy_26 : decode cX11_slipWhy 26 = .ok (.iaload, 1) := by decide +kernel
theorem dX11_slipWhy_27 : decode cX11_slipWhy 27 = .ok (.if_icmp .gt 7, 3) := by decide +kernel
theorem dX11_slipWhy_30 : decode cX11_slipWhy 30 = .ok (.iconst 0, 1) := by decide +kernel
theorem dX11_slipWhy_31 : decode cX11_slipWhy 31 = .ok (.goto 4, 3) := by decide +kernel
theorem dX11_slipWhy_34 : decode cX11_slipWhy 34 = .ok (.iconst 2, 1) := by decide +kernel
theorem dX11_slipWhy_35 : decode cX11_slipWhy 35 = .ok (.ireturn, 1) := by decide +kernel
theorem dX11_odds_0 : decode cX11_odds 0 = .ok (.aload_n 0, 1) := by decide +kernel
theorem dX11_odds_1 : decode cX11_odds 1 = .ok (.invokevirtual 147, 3) := by decide +kernel
theorem dX11_odds_4 : decode cX11_odds 4 = .ok (.aload_n 0, 1) := by decide +kernel
theorem dX11_odds_5 : decode cX11_odds 5 = .ok (.aload_n 0, 1) := by decide +kernel
theorem dX11_odds_6 : decode cX11_odds 6 = .ok (.iload_n 1, 1) := by decide +kernel
theorem dX11_odds_7 : decode cX11_odds 7 = .ok (.invokevirtual 239, 3) := by decide +kernel
theorem dX11_odds_10 : decode cX11_odds 10 = .ok (.ifCond .eq 17, 3) := by decide +kernel
theorem dX11_odds_13 : decode cX11_odds 13 = .ok (.aload_n 0, 1) := by decide +kernel
theorem dX11_odds_14 : decode cX11_odds 14 = .ok (.iload_n 3, 1) := by decide +kernel
theorem dX11_odds_15 : decode cX11_odds 15 = .ok (.iload 4, 2) := by decide +kernel
theorem dX11_odds_17 : decode cX11_odds 17 = .ok (.invokevirtual 257, 3) := by decide +kernel
theorem dX11_odds_20 : decode cX11_odds 20 = .ok (.ifCond .eq 7, 3) := by decide +kernel
theorem dX11_odds_23 : decode cX11_odds 23 = .ok (.iconst 1, 1) := by decide +kernel
theorem dX11_odds_24 : decode cX11_odds 24 = .ok (.goto 4, 3) := by decide +kernel
theorem dX11_odds_27 : decode cX11_odds 27 = .ok (.iconst 0, 1) := by decide +kernel
theorem dX11_odds_28 : decode cX11_odds 28 = .ok (.iload_n 1, 1) := by decide +kernel
theorem dX11_odds_29 : decode cX11_odds 29 = .ok (.iload_n 2, 1) := by decide +kernel
theorem dX11_odds_30 : decode cX11_odds 30 = .ok (.invokevirtual 403, 3) := by decide +kernel
theorem dX11_odds_33 : decode cX11_odds 33 = .ok (.istore 6, 2) := by decide +kernel
theorem dX11_odds_35 : decode cX11_odds 35 = .ok (.iload 6, 2) := by decide +kernel
theorem dX11_odds_37 : decode cX11_odds 37 = .ok (.ifCond .eq 11, 3) := by decide +kernel
theorem dX11_odds_40 : decode cX11_odds 40 = .ok (.aload_n 0, 1) := by decide +kernel
theorem dX11_odds_41 : decode cX11_odds 41 = .ok (.iload 6, 2) := by decide +kernel
theorem dX11_odds_43 : decode cX11_odds 43 = .ok (.invokevirtual 150, 3) := by decide +kernel
theorem dX11_odds_46 : decode cX11_odds 46 = .ok (.i2l, 1) := by decide +kernel
theorem dX11_odds_47 : decode cX11_odds 47 = .ok (.lreturn, 1) := by decide +kernel
theorem dX11_odds_48 : decode cX11_odds 48 = .ok (.aload_n 0, 1) := by decide +kernel
theorem dX11_odds_49 : decode cX11_odds 49 = .ok (.iload_n 1, 1) := by decide +kernel
theorem dX11_odds_50 : decode cX11_odds 50 = .ok (.iload_n 2, 1) := by decide +kernel
theorem dX11_odds_51 : decode cX11_odds 51 = .ok (.iload_n 3, 1) := by decide +kernel
theorem dX11_odds_52 : decode cX11_odds 52 = .ok (.iload 4, 2) := by decide +kernel
theorem dX11_odds_54 : decode cX11_odds 54 = .ok (.invokevirtual 407, 3) := by decide +kernel
theorem dX11_odds_57 : decode cX11_odds 57 = .ok (.aload_n 0, 1) := by decide +kernel
theorem dX11_odds_58 : decode cX11_odds 58 = .ok (.getfield 394, 3) := by decide +kernel
theorem dX11_odds_61 : decode cX11_odds 61 = .ok (.aload_n 0, 1) := by decide +kernel
theorem dX11_odds_62 : decode cX11_odds 62 = .ok (.getfield 390, 3) := by decide +kernel
theorem dX11_odds_65 : decode cX11_odds 65 = .ok (.iload 5, 2) := by decide +kernel
theorem dX11_odds_67 : decode cX11_odds 67 = .ok (.invokestatic 410, 3) := by decide +kernel
theorem dX11_odds_70 : decode cX11_odds 70 = .ok (.lreturn, 1) := by decide +kernel
theorem dX11_untied_0 : decode cX11_untied 0 = .ok (.aload_n 0, 1) := by decide +kernel
theorem dX11_untied_1 : decode cX11_untied 1 = .ok (.invokevirtual 147, 3) := by decide +kernel
theorem dX11_untied_4 : decode cX11_untied 4 = .ok (.aload_n 0, 1) := by decide +kernel
theorem dX11_untied_5 : decode cX11_untied 5 = .ok (.aload_n 0, 1) := by decide +kernel
theorem dX11_untied_6 : decode cX11_untied 6 = .ok (.iload_n 1, 1) := by decide +kernel
theorem dX11_untied_7 : decode cX11_untied 7 = .ok (.invokevirtual 239, 3) := by decide +kernel
theorem dX11_untied_10 : decode cX11_untied 10 = .ok (.iload_n 1, 1) := by decide +kernel
theorem dX11_untied_11 : decode cX11_untied 11 = .ok (.iload_n 2, 1) := by decide +kernel
theorem dX11_untied_12 : decode cX11_untied 12 = .ok (.invokevirtual 403, 3) := by decide +kernel
theorem dX11_untied_15 : decode cX11_untied 15 = .ok (.istore 4, 2) := by decide +kernel
theorem dX11_untied_17 : decode cX11_untied 17 = .ok (.iload 4, 2) := by decide +kernel
theorem dX11_untied_19 : decode cX11_untied 19 = .ok (.ifCond .eq 11, 3) := by decide +kernel
theorem dX11_untied_22 : decode cX11_untied 22 = .ok (.aload_n 0, 1) := by decide +kernel
theorem dX11_untied_23 : decode cX11_untied 23 = .ok (.iload 4, 2) := by decide +kernel
theorem dX11_untied_25 : decode cX11_untied 25 = .ok (.invokevirtual 150, 3) := by decide +kernel
theorem dX11_untied_28 : decode cX11_untied 28 = .ok (.i2l, 1) := by decide +kernel
theorem dX11_untied_29 : decode cX11_untied 29 = .ok (.lreturn, 1) := by decide +kernel
theorem dX11_untied_30 : decode cX11_untied 30 = .ok (.aload_n 0, 1) := by decide +kernel
theorem dX11_untied_31 : decode cX11_untied 31 = .ok (.iload_n 1, 1) := by decide +kernel
theorem dX11_untied_32 : decode cX11_untied 32 = .ok (.iload_n 2, 1) := by decide +kernel
theorem dX11_untied_33 : decode cX11_untied 33 = .ok (.iconst 0, 1) := by decide +kernel
theorem dX11_untied_34 : decode cX11_untied 34 = .ok (.iconst 1, 1) := by decide +kernel
theorem dX11_untied_35 : decode cX11_untied 35 = .ok (.invokevirtual 407, 3) := by decide +kernel
theorem dX11_untied_38 : decode cX11_untied 38 = .ok (.aload_n 0, 1) := by decide +kernel
theorem dX11_untied_39 : decode cX11_untied 39 = .ok (.getfield 397, 3) := by decide +kernel
theorem dX11_untied_42 : decode cX11_untied 42 = .ok (.aload_n 0, 1) := by decide +kernel
theorem dX11_untied_43 : decode cX11_untied 43 = .ok (.getfield 390, 3) := by decide +kernel
theorem dX11_untied_46 : decode cX11_untied 46 = .ok (.iload_n 3, 1) := by decide +kernel
theorem dX11_untied_47 : decode cX11_untied 47 = .ok (.invokestatic 410, 3) := by decide +kernel
theorem dX11_untied_50 : decode cX11_untied 50 = .ok (.lreturn, 1) := by decide +kernel
theorem dX11_mean_0 : decode cX11_mean 0 = .ok (.aload_n 0, 1) := by decide +kernel
theorem dX11_mean_1 : decode cX11_mean 1 = .ok (.invokevirtual 147, 3) := by decide +kernel
theorem dX11_mean_4 : decode cX11_mean 4 = .ok (.aload_n 0, 1) := by decide +kernel
theorem dX11_mean_5 : decode cX11_mean 5 = .ok (.aload_n 0, 1) := by decide +kernel
theorem dX11_mean_6 : decode cX11_mean 6 = .ok (.iload_n 1, 1) := by decide +kernel
theorem dX11_mean_7 : decode cX11_mean 7 = .ok (.invokevirtual 239, 3) := by decide +kernel
theorem dX11_mean_10 : decode cX11_mean 10 = .ok (.iload_n 1, 1) := by decide +kernel
theorem dX11_mean_11 : decode cX11_mean 11 = .ok (.iload_n 2, 1) := by decide +kernel
theorem dX11_mean_12 : decode cX11_mean 12 = .ok (.invokevirtual 403, 3) := by decide +kernel
theorem dX11_mean_15 : decode cX11_mean 15 = .ok (.istore 4, 2) := by decide +kernel
theorem dX11_mean_17 : decode cX11_mean 17 = .ok (.iload 4, 2) := by decide +kernel
theorem dX11_mean_19 : decode cX11_mean 19 = .ok (.ifCond .eq 11, 3) := by decide +kernel
theorem dX11_mean_22 : decode cX11_mean 22 = .ok (.aload_n 0, 1) := by decide +kernel
theorem dX11_mean_23 : decode cX11_mean 23 = .ok (.iload 4, 2) := by decide +kernel
theorem dX11_mean_25 : decode cX11_mean 25 = .ok (.invokevirtual 150, 3) := by decide +kernel
theorem dX11_mean_28 : decode cX11_mean 28 = .ok (.i2l, 1) := by decide +kernel
theorem dX11_mean_29 : decode cX11_mean 29 = .ok (.lreturn, 1) := by decide +kernel
theorem dX11_mean_30 : decode cX11_mean 30 = .ok (.aload_n 0, 1) := by decide +kernel
theorem dX11_mean_31 : decode cX11_mean 31 = .ok (.iload_n 1, 1) := by decide +kernel
theorem dX11_mean_32 : decode cX11_mean 32 = .ok (.iload_n 2, 1) := by decide +kernel
theorem dX11_mean_33 : decode cX11_mean 33 = .ok (.iconst 0, 1) := by decide +kernel
theorem dX11_mean_34 : decode cX11_mean 34 = .ok (.iconst 1, 1) := by decide +kernel
theorem dX11_mean_35 : decode cX11_mean 35 = .ok (.invokevirtual 407, 3) := by decide +kernel
theorem dX11_mean_38 : decode cX11_mean 38 = .ok (.aload_n 0, 1) := by decide +kernel
theorem dX11_mean_39 : decode cX11_mean 39 = .ok (.getfield 400, 3) := by decide +kernel
theorem dX11_mean_42 : decode cX11_mean 42 = .ok (.aload_n 0, 1) := by decide +kernel
theorem dX11_mean_43 : decode cX11_mean 43 = .ok (.getfield 390, 3) := by decide +kernel
theorem dX11_mean_46 : decode cX11_mean 46 = .ok (.iload_n 3, 1) := by decide +kernel
theorem dX11_mean_47 : decode cX11_mean 47 = .ok (.invokestatic 410, 3) := by decide +kernel
theorem dX11_mean_50 : decode cX11_mean 50 = .ok (.lreturn, 1) := by decide +kernel
theorem dX11_drawWhy_0 : decode cX11_drawWhy 0 = .ok (.aload_n 0, 1) := by decide +kernel
theorem dX11_drawWhy_1 : decode cX11_drawWhy 1 = .ok (.iload_n 1, 1) := by decide +kernel
theorem dX11_drawWhy_2 : decode cX11_drawWhy 2 = .ok (.invokevirtual 239, 3) := by decide +kernel
theorem dX11_drawWhy_5 : decode cX11_drawWhy 5 = .ok (.ifCond .ne 7, 3) := by decide +kernel
theorem dX11_drawWhy_8 : decode cX11_drawWhy 8 = .ok (.iconst 1, 1) := by decide +kernel
theorem dX11_drawWhy_9 : decode cX11_drawWhy 9 = .ok (.goto 35, 3) := by decide +kernel
theorem dX11_drawWhy_12 : decode cX11_drawWhy 12 = .ok (.iload_n 2, 1) := by decide +kernel
theorem dX11_drawWhy_13 : decode cX11_drawWhy 13 = .ok (.iconst 0, 1) := by decide +kernel
theorem dX11_drawWhy_14 : decode cX11_drawWhy 14 = .ok (.ldc_w 414, 3) := by decide +kernel
theorem dX11_drawWhy_17 : decode cX11_drawWhy 17 = .ok (.invokestatic 143, 3) := by decide +kernel
theorem dX11_drawWhy_20 : decode cX11_drawWhy 20 = .ok (.ifCond .eq 23, 3) := by decide +kernel
theorem dX11_drawWhy_23 : decode cX11_drawWhy 23 = .ok (.iload_n 3, 1) := by decide +kernel
theorem dX11_drawWhy_24 : decode cX11_drawWhy 24 = .ok (.iconst 0, 1) := by decide +kernel
theorem dX11_drawWhy_25 : decode cX11_drawWhy 25 = .ok (.aload_n 0, 1) := by decide +kernel
theorem dX11_drawWhy_26 : decode cX11_drawWhy 26 = .ok (.getfield 20, 3) := by decide +kernel
theorem dX11_drawWhy_29 : decode cX11_drawWhy 29 = .ok (.iconst 4, 1) := by decide +kernel
theorem dX11_drawWhy_30 : decode cX11_drawWhy 30 = .ok (.iload_n 1, 1) := by decide +kernel
theorem dX11_drawWhy_31 : decode cX11_drawWhy 31 = .ok (.iadd, 1) := by decide +kernel
theorem dX11_drawWhy_32 : decode cX11_drawWhy 32 = .ok (.iaload, 1) := by decide +kernel
theorem dX11_drawWhy_33 : decode cX11_drawWhy 33 = .ok (.invokestatic 143, 3) := by decide +kernel
theorem dX11_drawWhy_36 : decode cX11_drawWhy 36 = .ok (.ifCond .eq 7, 3) := by decide +kernel
theorem dX11_drawWhy_39 : decode cX11_drawWhy 39 = .ok (.iconst 0, 1) := by decide +kernel
theorem dX11_drawWhy_40 : decode cX11_drawWhy 40 = .ok (.goto 4, 3) := by decide +kernel
theorem dX11_drawWhy_43 : decode cX11_drawWhy 43 = .ok (.iconst 2, 1) := by decide +kernel
theorem dX11_drawWhy_44 : decode cX11_drawWhy 44 = .ok (.istore 4, 2) := by decide +kernel
theorem dX11_drawWhy_46 : decode cX11_drawWhy 46 = .ok (.iload 4, 2) := by decide +kernel
theorem dX11_drawWhy_48 : decode cX11_drawWhy 48 = .ok (.ifCond .eq 6, 3) := by decide +kernel
theorem dX11_drawWhy_51 : decode cX11_drawWhy 51 = .ok (.iload 4, 2) := by decide +kernel
theorem dX11_drawWhy_53 : decode cX11_drawWhy 53 = .ok (.ireturn, 1) := by decide +kernel
theorem dX11_drawWhy_54 : decode cX11_drawWhy 54 = .ok (.iload_n 2, 1) := by decide +kernel
theorem dX11_drawWhy_55 : decode cX11_drawWhy 55 = .ok (.istore 5, 2) := by decide +kernel
theorem dX11_drawWhy_57 : decode cX11_drawWhy 57 = .ok (.iconst 0, 1) := by decide +kernel
theorem dX11_drawWhy_58 : decode cX11_drawWhy 58 = .ok (.istore 6, 2) := by decide +kernel
theorem dX11_drawWhy_60 : decode cX11_drawWhy 60 = .ok (.iconst 0, 1) := by decide +kernel
theorem dX11_drawWhy_61 : decode cX11_drawWhy 61 = .ok (.istore 7, 2) := by decide +kernel
theorem dX11_drawWhy_63 : decode cX11_drawWhy 63 = .ok (.iload 7, 2) := by decide +kernel
theorem dX11_drawWhy_65 : decode cX11_drawWhy 65 = .ok (.iload_n 3, 1) := by decide +kernel
theorem dX11_drawWhy_66 : decode cX11_drawWhy 66 = .ok (.if_icmp .ge 50, 3) := by decide +kernel
theorem dX11_drawWhy_69 : decode cX11_drawWhy 69 = .ok (.bipush 75, 2) := by decide +kernel
theorem dX11_drawWhy_71 : decode cX11_drawWhy 71 = .ok (.iload 5, 2) := by decide +kernel
theorem dX11_drawWhy_73 : decode cX11_drawWhy 73 = .ok (.imul, 1) := by decide +kernel
theorem dX11_drawWhy_74 : decode cX11_drawWhy 74 = .ok (.bipush 74, 2) := by decide +kernel
theorem dX11_drawWhy_76 : decode cX11_drawWhy 76 = .ok (.iadd, 1) := by decide +kernel
theorem dX11_drawWhy_77 : decode cX11_drawWhy 77 = .ok (.ldc_w 415, 3) := by decide +kernel
theorem dX11_drawWhy_80 : decode cX11_drawWhy 80 = .ok (.irem, 1) := by decide +kernel
theorem dX11_drawWhy_81 : decode cX11_drawWhy 81 = .ok (.istore 5, 2) := by decide +kernel
theorem dX11_drawWhy_83 : decode cX11_drawWhy 83 = .ok (.iload 6, 2) := by decide +kernel
theorem dX11_drawWhy_85 : decode cX11_drawWhy 85 = .ok (.iload 5, 2) := by decide +kernel
theorem dX11_drawWhy_87 : decode cX11_drawWhy 87 = .ok (.bipush 100, 2) := by decide +kernel
theorem dX11_drawWhy_89 : decode cX11_drawWhy 89 = .ok (.irem, 1) := by decide +kernel
theorem dX11_drawWhy_90 : decode cX11_drawWhy 90 = .ok (.aload_n 0, 1) := by decide +kernel
theorem dX11_drawWhy_91 : decode cX11_drawWhy 91 = .ok (.getfield 20, 3) := by decide +kernel
theorem dX11_drawWhy_94 : decode cX11_drawWhy 94 = .ok (.iconst 0, 1) := by decide +kernel
theorem dX11_drawWhy_95 : decode cX11_drawWhy 95 = .ok (.iaload, 1) := by decide +kernel
theorem dX11_drawWhy_96 : decode cX11_drawWhy 96 = .ok (.if_icmp .ge 10, 3) := by decide +kernel
theorem dX11_drawWhy_99 : decode cX11_drawWhy 99 = .ok (.iconst 1, 1) := by decide +kernel
theorem dX11_drawWhy_100 : decode cX11_drawWhy 100 = .ok (.iload 7, 2) := by decide +kernel
theorem dX11_drawWhy_102 : decode cX11_drawWhy 102 = .ok (.ishl, 1) := by decide +kernel
theorem dX11_drawWhy_103 : decode cX11_drawWhy 103 = .ok (.goto 4, 3) := by decide +kernel
theorem dX11_drawWhy_106 : decode cX11_drawWhy 106 = .ok (.iconst 0, 1) := by decide +kernel
theorem dX11_drawWhy_107 : decode cX11_drawWhy 107 = .ok (.ior, 1) := by decide +kernel
theorem dX11_drawWhy_108 : decode cX11_drawWhy 108 = .ok (.istore 6, 2) := by decide +kernel
theorem dX11_drawWhy_110 : decode cX11_drawWhy 110 = .ok (.iinc 7 1, 3) := by decide +kernel
theorem dX11_drawWhy_113 : decode cX11_drawWhy 113 = .ok (.goto (-50), 3) := by decide +kernel
theorem dX11_drawWhy_116 : decode cX11_drawWhy 116 = .ok (.aload_n 0, 1) := by decide +kernel
theorem dX11_drawWhy_117 : decode cX11_drawWhy 117 = .ok (.iload_n 1, 1) := by decide +kernel
theorem dX11_drawWhy_118 : decode cX11_drawWhy 118 = .ok (.iload_n 3, 1) := by decide +kernel
theorem dX11_drawWhy_119 : decode cX11_drawWhy 119 = .ok (.iconst 0, 1) := by decide +kernel
theorem dX11_drawWhy_120 : decode cX11_drawWhy 120 = .ok (.iload 6, 2) := by decide +kernel
theorem dX11_drawWhy_122 : decode cX11_drawWhy 122 = .ok (.invokevirtual 166, 3) := by decide +kernel
theorem dX11_drawWhy_125 : decode cX11_drawWhy 125 = .ok (.iconst 0, 1) := by decide +kernel
theorem dX11_drawWhy_126 : decode cX11_drawWhy 126 = .ok (.ireturn, 1) := by decide +kernel
theorem dX11_drawnUpper_0 : decode cX11_drawnUpper 0 = .ok (.aload_n 0, 1) := by decide +kernel
theorem dX11_drawnUpper_1 : decode cX11_drawnUpper 1 = .ok (.invokevirtual 147, 3) := by decide +kernel
theorem dX11_drawnUpper_4 : decode cX11_drawnUpper 4 = .ok (.aload_n 0, 1) := by decide +kernel
theorem dX11_drawnUpper_5 : decode cX11_drawnUpper 5 = .ok (.iload_n 1, 1) := by decide +kernel
theorem dX11_drawnUpper_6 : decode cX11_drawnUpper 6 = .ok (.iload_n 2, 1) := by decide +kernel
theorem dX11_drawnUpper_7 : decode cX11_drawnUpper 7 = .ok (.iload_n 3, 1) := by decide +kernel
theorem dX11_drawnUpper_8 : decode cX11_drawnUpper 8 = .ok (.invokevirtual 416, 3) := by decide +kernel
theorem dX11_drawnUpper_11 : decode cX11_drawnUpper 11 = .ok (.istore 4, 2) := by decide +kernel
theorem dX11_drawnUpper_13 : decode cX11_drawnUpper 13 = .ok (.iload 4, 2) := by decide +kernel
theorem dX11_drawnUpper_15 : decode cX11_drawnUpper 15 = .ok (.ifCond .eq 12, 3) := by decide +kernel
theorem dX11_drawnUpper_18 : decode cX11_drawnUpper 18 = .ok (.aload_n 0, 1) := by decide +kernel
theorem dX11_drawnUpper_19 : decode cX11_drawnUpper 19 = .ok (.iload 4, 2) := by decide +kernel
theorem dX11_drawnUpper_21 : decode cX11_drawnUpper 21 = .ok (.invokevirtual 242, 3) := by decide +kernel
theorem dX11_drawnUpper_24 : decode cX11_drawnUpper 24 = .ok (.goto 7, 3) := by decide +kernel
theorem dX11_drawnUpper_27 : decode cX11_drawnUpper 27 = .ok (.aload_n 0, 1) := by decide +kernel
theorem dX11_drawnUpper_28 : decode cX11_drawnUpper 28 = .ok (.getfield 169, 3) := by decide +kernel
theorem dX11_drawnUpper_31 : decode cX11_drawnUpper 31 = .ok (.ireturn, 1) := by decide +kernel
theorem dX11_drawnLower_0 : decode cX11_drawnLower 0 = .ok (.aload_n 0, 1) := by decide +kernel
theorem dX11_drawnLower_1 : decode cX11_drawnLower 1 = .ok (.invokevirtual 147, 3) := by decide +kernel
theorem dX11_drawnLower_4 : decode cX11_drawnLower 4 = .ok (.aload_n 0, 1) := by decide +kernel
theorem dX11_drawnLower_5 : decode cX11_drawnLower 5 = .ok (.iload_n 1, 1) := by decide +kernel
theorem dX11_drawnLower_6 : decode cX11_drawnLower 6 = .ok (.iload_n 2, 1) := by decide +kernel
theorem dX11_drawnLower_7 : decode cX11_drawnLower 7 = .ok (.iload_n 3, 1) := by decide +kernel
theorem dX11_drawnLower_8 : decode cX11_drawnLower 8 = .ok (.invokevirtual 416, 3) := by decide +kernel
theorem dX11_drawnLower_11 : decode cX11_drawnLower 11 = .ok (.istore 4, 2) := by decide +kernel
theorem dX11_drawnLower_13 : decode cX11_drawnLower 13 = .ok (.iload 4, 2) := by decide +kernel
theorem dX11_drawnLower_15 : decode cX11_drawnLower 15 = .ok (.ifCond .eq 12, 3) := by decide +kernel
theorem dX11_drawnLower_18 : decode cX11_drawnLower 18 = .ok (.aload_n 0, 1) := by decide +kernel
theorem dX11_drawnLower_19 : decode cX11_drawnLower 19 = .ok (.iload 4, 2) := by decide +kernel
theorem dX11_drawnLower_21 : decode cX11_drawnLower 21 = .ok (.invokevirtual 150, 3) := by decide +kernel
theorem dX11_drawnLower_24 : decode cX11_drawnLower 24 = .ok (.goto 7, 3) := by decide +kernel
theorem dX11_drawnLower_27 : decode cX11_drawnLower 27 = .ok (.aload_n 0, 1) := by decide +kernel
theorem dX11_drawnLower_28 : decode cX11_drawnLower 28 = .ok (.getfield 172, 3) := by decide +kernel
theorem dX11_drawnLower_31 : decode cX11_drawnLower 31 = .ok (.ireturn, 1) := by decide +kernel
theorem dX11_note_0 : decode cX11_note 0 = .ok (.aload_n 0, 1) := by decide +kernel
theorem dX11_note_1 : decode cX11_note 1 = .ok (.getfield 175, 3) := by decide +kernel
theorem dX11_note_4 : decode cX11_note 4 = .ok (.bipush 16, 2) := by decide +kernel
theorem dX11_note_6 : decode cX11_note 6 = .ok (.if_icmp .ne 43, 3) := by decide +kernel
theorem dX11_note_9 : decode cX11_note 9 = .ok (.iconst 0, 1) := by decide +kernel
theorem dX11_note_10 : decode cX11_note 10 = .ok (.istore_n 1, 1) := by decide +kernel
theorem dX11_note_11 : decode cX11_note 11 = .ok (.iload_n 1, 1) := by decide +kernel
theorem dX11_note_12 : decode cX11_note 12 = .ok (.sipush 150, 3) := by decide +kernel
theorem dX11_note_15 : decode cX11_note 15 = .ok (.if_icmp .ge 24, 3) := by decide +kernel
theorem dX11_note_18 : decode cX11_note 18 = .ok (.aload_n 0, 1) := by decide +kernel
theorem dX11_note_19 : decode cX11_note 19 = .ok (.getfield 29, 3) := by decide +kernel
theorem dX11_note_22 : decode cX11_note 22 = .ok (.iload_n 1, 1) := by decide +kernel
theorem dX11_note_23 : decode cX11_note 23 = .ok (.aload_n 0, 1) := by decide +kernel
theorem dX11_note_24 : decode cX11_note 24 = .ok (.getfield 29, 3) := by decide +kernel
theorem dX11_note_27 : decode cX11_note 27 = .ok (.iload_n 1, 1) := by decide +kernel
theorem dX11_note_28 : decode cX11_note 28 = .ok (.bipush 10, 2) := by decide +kernel
theorem dX11_note_30 : decode cX11_note 30 = .ok (.iadd, 1) := by decide +kernel
theorem dX11_note_31 : decode cX11_note 31 = .ok (.iaload, 1) := by decide +kernel
theorem dX11_note_32 : decode cX11_note 32 = .ok (.iastore, 1) := by decide +kernel
theorem dX11_note_33 : decode cX11_note 33 = .ok (.iinc 1 1, 3) := by decide +kernel
theorem dX11_note_36 : decode cX11_note 36 = .ok (.goto (-25), 3) := by decide +kernel
theorem dX11_note_39 : decode cX11_note 39 = .ok (.aload_n 0, 1) := by decide +kernel
theorem dX11_note_40 : decode cX11_note 40 = .ok (.dup, 1) := by decide +kernel
theorem dX11_note_41 : decode cX11_note 41 = .ok (.getfield 175, 3) := by decide +kernel
theorem dX11_note_44 : decode cX11_note 44 = .ok (.iconst 1, 1) := by decide +kernel
theorem dX11_note_45 : decode cX11_note 45 = .ok (.isub, 1) := by decide +kernel
theorem dX11_note_46 : decode cX11_note 46 = .ok (.putfield 175, 3) := by decide +kernel
theorem dX11_note_49 : decode cX11_note 49 = .ok (.aload_n 0, 1) := by decide +kernel
theorem dX11_note_50 : decode cX11_note 50 = .ok (.getfield 26, 3) := by decide +kernel
theorem dX11_note_53 : decode cX11_note 53 = .ok (.iconst 0, 1) := by decide +kernel
theorem dX11_note_54 : decode cX11_note 54 = .ok (.aload_n 0, 1) := by decide +kernel
theorem dX11_note_55 : decode cX11_note 55 = .ok (.getfield 29, 3) := by decide +kernel
theorem dX11_note_58 : decode cX11_note 58 = .ok (.bipush 10, 2) := by decide +kernel
theorem dX11_note_60 : decode cX11_note 60 = .ok (.aload_n 0, 1) := by decide +kernel
theorem dX11_note_61 : decode cX11_note 61 = .ok (.getfield 175, 3) := by decide +kernel
theorem dX11_note_64 : decode cX11_note 64 = .ok (.imul, 1) := by decide +kernel
theorem dX11_note_65 : decode cX11_note 65 = .ok (.bipush 10, 2) := by decide +kernel
theorem dX11_note_67 : decode cX11_note 67 = .ok (.invokestatic 159, 3) := by decide +kernel
theorem dX11_note_70 : decode cX11_note 70 = .ok (.aload_n 0, 1) := by decide +kernel
theorem dX11_note_71 : decode cX11_note 71 = .ok (.dup, 1) := by decide +kernel
theorem dX11_note_72 : decode cX11_note 72 = .ok (.getfield 175, 3) := by decide +kernel
theorem dX11_note_75 : decode cX11_note 75 = .ok (.iconst 1, 1) := by decide +kernel
theorem dX11_note_76 : decode cX11_note 76 = .ok (.iadd, 1) := by decide +kernel
theorem dX11_note_77 : decode cX11_note 77 = .ok (.putfield 175, 3) := by decide +kernel
theorem dX11_note_80 : decode cX11_note 80 = .ok (.return_, 1) := by decide +kernel
theorem dX11_becomes_0 : decode cX11_becomes 0 = .ok (.aload_n 0, 1) := by decide +kernel
theorem dX11_becomes_1 : decode cX11_becomes 1 = .ok (.invokevirtual 419, 3) := by decide +kernel
theorem dX11_becomes_4 : decode cX11_becomes 4 = .ok (.aload_n 0, 1) := by decide +kernel
theorem dX11_becomes_5 : decode cX11_becomes 5 = .ok (.getfield 26, 3) := by decide +kernel
theorem dX11_becomes_8 : decode cX11_becomes 8 = .ok (.iload_n 1, 1) := by decide +kernel
theorem dX11_becomes_9 : decode cX11_becomes 9 = .ok (.aload_n 0, 1) := by decide +kernel
theorem dX11_becomes_10 : decode cX11_becomes 10 = .ok (.getfield 169, 3) := by decide +kernel
theorem dX11_becomes_13 : decode cX11_becomes 13 = .ok (.iastore, 1) := by decide +kernel
theorem dX11_becomes_14 : decode cX11_becomes 14 = .ok (.aload_n 0, 1) := by decide +kernel
theorem dX11_becomes_15 : decode cX11_becomes 15 = .ok (.getfield 26, 3) := by decide +kernel
theorem dX11_becomes_18 : decode cX11_becomes 18 = .ok (.iconst 5, 1) := by decide +kernel
theorem dX11_becomes_19 : decode cX11_becomes 19 = .ok (.iload_n 1, 1) := by decide +kernel
theorem dX11_becomes_20 : decode cX11_becomes 20 = .ok (.iadd, 1) := by decide +kernel
theorem dX11_becomes_21 : decode cX11_becomes 21 = .ok (.aload_n 0, 1) := by decide +kernel
theorem dX11_becomes_22 : decode cX11_becomes 22 = .ok (.getfield 172, 3) := by decide +kernel
theorem dX11_becomes_25 : decode cX11_becomes 25 = .ok (.iastore, 1) := by decide +kernel
theorem dX11_becomes_26 : decode cX11_becomes 26 = .ok (.aload_n 0, 1) := by decide +kernel
theorem dX11_becomes_27 : decode cX11_becomes 27 = .ok (.invokevirtual 251, 3) := by decide +kernel
theorem dX11_becomes_30 : decode cX11_becomes 30 = .ok (.ireturn, 1) := by decide +kernel
theorem dX11_call_0 : decode cX11_call 0 = .ok (.aload_n 0, 1) := by decide +kernel
theorem dX11_call_1 : decode cX11_call 1 = .ok (.invokevirtual 147, 3) := by decide +kernel
theorem dX11_call_4 : decode cX11_call 4 = .ok (.aload_n 0, 1) := by decide +kernel
theorem dX11_call_5 : decode cX11_call 5 = .ok (.aload_n 0, 1) := by decide +kernel
theorem dX11_call_6 : decode cX11_call 6 = .ok (.iload_n 1, 1) := by decide +kernel
theorem dX11_call_7 : decode cX11_call 7 = .ok (.invokevirtual 239, 3) := by decide +kernel
theorem dX11_call_10 : decode cX11_call 10 = .ok (.iload_n 2, 1) := by decide +kernel
theorem dX11_call_11 : decode cX11_call 11 = .ok (.iconst 0, 1) := by decide +kernel
theorem dX11_call_12 : decode cX11_call 12 = .ok (.iconst 2, 1) := by decide +kernel
theorem dX11_call_13 : decode cX11_call 13 = .ok (.invokestatic 143, 3) := by decide +kernel
theorem dX11_call_16 : decode cX11_call 16 = .ok (.invokevirtual 297, 3) := by decide +kernel
theorem dX11_call_19 : decode cX11_call 19 = .ok (.istore_n 3, 1) := by decide +kernel
theorem dX11_call_20 : decode cX11_call 20 = .ok (.iload_n 3, 1) := by decide +kernel
theorem dX11_call_21 : decode cX11_call 21 = .ok (.ifCond .eq 9, 3) := by decide +kernel
theorem dX11_call_24 : decode cX11_call 24 = .ok (.aload_n 0, 1) := by decide +kernel
theorem dX11_call_25 : decode cX11_call 25 = .ok (.iload_n 3, 1) := by decide +kernel
theorem dX11_call_26 : decode cX11_call 26 = .ok (.invokevirtual 150, 3) := by decide +kernel
theorem dX11_call_29 : decode cX11_call 29 = .ok (.ireturn, 1) := by decide +kernel
theorem dX11_call_30 : decode cX11_call 30 = .ok (.aload_n 0, 1) := by decide +kernel
theorem dX11_call_31 : decode cX11_call 31 = .ok (.iload_n 1, 1) := by decide +kernel
theorem dX11_call_32 : decode cX11_call 32 = .ok (.invokevirtual 245, 3) := by decide +kernel
theorem dX11_call_35 : decode cX11_call 35 = .ok (.aload_n 0, 1) := by decide +kernel
theorem dX11_call_36 : decode cX11_call 36 = .ok (.iload_n 2, 1) := by decide +kernel
theorem dX11_call_37 : decode cX11_call 37 = .ok (.invokevirtual 260, 3) := by decide +kernel
theorem dX11_call_40 : decode cX11_call 40 = .ok (.ifCond .eq 11, 3) := by decide +kernel
theorem dX11_call_43 : decode cX11_call 43 = .ok (.aload_n 0, 1) := by decide +kernel
theorem dX11_call_44 : decode cX11_call 44 = .ok (.iload_n 1, 1) := by decide +kernel
theorem dX11_call_45 : decode cX11_call 45 = .ok (.invokevirtual 422, 3) := by decide +kernel
theorem dX11_call_48 : decode cX11_call 48 = .ok (.goto 8, 3) := by decide +kernel
theorem dX11_call_51 : decode cX11_call 51 = .ok (.aload_n 0, 1) := by decide +kernel
theorem dX11_call_52 : decode cX11_call 52 = .ok (.iconst 3, 1) := by decide +kernel
theorem dX11_call_53 : decode cX11_call 53 = .ok (.invokevirtual 150, 3) := by decide +kernel
theorem dX11_call_56 : decode cX11_call 56 = .ok (.ireturn, 1) := by decide +kernel
theorem dX11_flip_0 : decode cX11_flip 0 = .ok (.aload_n 0, 1) := by decide +kernel
theorem dX11_flip_1 : decode cX11_flip 1 = .ok (.invokevirtual 147, 3) := by decide +kernel
theorem dX11_flip_4 : decode cX11_flip 4 = .ok (.aload_n 0, 1) := by decide +kernel
theorem dX11_flip_5 : decode cX11_flip 5 = .ok (.iload_n 1, 1) := by decide +kernel
theorem dX11_flip_6 : decode cX11_flip 6 = .ok (.invokevirtual 239, 3) := by decide +kernel
theorem dX11_flip_9 : decode cX11_flip 9 = .ok (.ifCond .ne 9, 3) := by decide +kernel
theorem dX11_flip_12 : decode cX11_flip 12 = .ok (.aload_n 0, 1) := by decide +kernel
theorem dX11_flip_13 : decode cX11_flip 13 = .ok (.iconst 1, 1) := by decide +kernel
theorem dX11_flip_14 : decode cX11_flip 14 = .ok (.invokevirtual 425, 3) := by decide +kernel
theorem dX11_flip_17 : decode cX11_flip 17 = .ok (.ireturn, 1) := by decide +kernel
theorem dX11_flip_18 : decode cX11_flip 18 = .ok (.aload_n 0, 1) := by decide +kernel
theorem dX11_flip_19 : decode cX11_flip 19 = .ok (.iload_n 1, 1) := by decide +kernel
theorem dX11_flip_20 : decode cX11_flip 20 = .ok (.invokevirtual 245, 3) := by decide +kernel
theorem dX11_flip_23 : decode cX11_flip 23 = .ok (.aload_n 0, 1) := by decide +kernel
theorem dX11_flip_24 : decode cX11_flip 24 = .ok (.getfield 169, 3) := by decide +kernel
theorem dX11_flip_27 : decode cX11_flip 27 = .ok (.ifCond .eq 10, 3) := by decide +kernel
theorem dX11_flip_30 : decode cX11_flip 30 = .ok (.aload_n 0, 1) := by decide +kernel
theorem dX11_flip_31 : decode cX11_flip 31 = .ok (.getfield 172, 3) := by decide +kernel
theorem dX11_flip_34 : decode cX11_flip 34 = .ok (.ifCond .ne 9, 3) := by decide +kernel
theorem dX11_flip_37 : decode cX11_flip 37 = .ok (.aload_n 0, 1) := by decide +kernel
theorem dX11_flip_38 : decode cX11_flip 38 = .ok (.iconst 5, 1) := by decide +kernel
theorem dX11_flip_39 : decode cX11_flip 39 = .ok (.invokevirtual 425, 3) := by decide +kernel
theorem dX11_flip_42 : decode cX11_flip 42 = .ok (.ireturn, 1) := by decide +kernel
theorem dX11_flip_43 : decode cX11_flip 43 = .ok (.aload_n 0, 1) := by decide +kernel
theorem dX11_flip_44 : decode cX11_flip 44 = .ok (.aload_n 0, 1) := by decide +kernel
theorem dX11_flip_45 : decode cX11_flip 45 = .ok (.getfield 169, 3) := by decide +kernel
theorem dX11_flip_48 : decode cX11_flip 48 = .ok (.ineg, 1) := by decide +kernel
theorem dX11_flip_49 : decode cX11_flip 49 = .ok (.putfield 169, 3) := by decide +kernel
theorem dX11_flip_52 : decode cX11_flip 52 = .ok (.aload_n 0, 1) := by decide +kernel
theorem dX11_flip_53 : decode cX11_flip 53 = .ok (.iload_n 1, 1) := by decide +kernel
theorem dX11_flip_54 : decode cX11_flip 54 = .ok (.invokevirtual 422, 3) := by decide +kernel
theorem dX11_flip_57 : decode cX11_flip 57 = .ok (.pop, 1) := by decide +kernel
theorem dX11_flip_58 : decode cX11_flip 58 = .ok (.iconst 1, 1) := by decide +kernel
theorem dX11_flip_59 : decode cX11_flip 59 = .ok (.ireturn, 1) := by decide +kernel
theorem dX11_reset_0 : decode cX11_reset 0 = .ok (.aload_n 0, 1) := by decide +kernel
theorem dX11_reset_1 : decode cX11_reset 1 = .ok (.invokevirtual 147, 3) := by decide +kernel
theorem dX11_reset_4 : decode cX11_reset 4 = .ok (.aload_n 0, 1) := by decide +kernel
theorem dX11_reset_5 : decode cX11_reset 5 = .ok (.iload_n 1, 1) := by decide +kernel
theorem dX11_reset_6 : decode cX11_reset 6 = .ok (.invokevirtual 239, 3) := by decide +kernel
theorem dX11_reset_9 : decode cX11_reset 9 = .ok (.ifCond .ne 9, 3) := by decide +kernel
theorem dX11_reset_12 : decode cX11_reset 12 = .ok (.aload_n 0, 1) := by decide +kernel
theorem dX11_reset_13 : decode cX11_reset 13 = .ok (.iconst 1, 1) := by decide +kernel
theorem dX11_reset_14 : decode cX11_reset 14 = .ok (.invokevirtual 425, 3) := by decide +kernel
theorem dX11_reset_17 : decode cX11_reset 17 = .ok (.ireturn, 1) := by decide +kernel
theorem dX11_reset_18 : decode cX11_reset 18 = .ok (.aload_n 0, 1) := by decide +kernel
theorem dX11_reset_19 : decode cX11_reset 19 = .ok (.getfield 26, 3) := by decide +kernel
theorem dX11_reset_22 : decode cX11_reset 22 = .ok (.iload_n 1, 1) := by decide +kernel
theorem dX11_reset_23 : decode cX11_reset 23 = .ok (.iaload, 1) := by decide +kernel
theorem dX11_reset_24 : decode cX11_reset 24 = .ok (.ifCond .ne 9, 3) := by decide +kernel
theorem dX11_reset_27 : decode cX11_reset 27 = .ok (.aload_n 0, 1) := by decide +kernel
theorem dX11_reset_28 : decode cX11_reset 28 = .ok (.iconst 5, 1) := by decide +kernel
theorem dX11_reset_29 : decode cX11_reset 29 = .ok (.invokevirtual 425, 3) := by decide +kernel
theorem dX11_reset_32 : decode cX11_reset 32 = .ok (.ireturn, 1) := by decide +kernel
theorem dX11_reset_33 : decode cX11_reset 33 = .ok (.aload_n 0, 1) := by decide +kernel
theorem dX11_reset_34 : decode cX11_reset 34 = .ok (.iconst 0, 1) := by decide +kernel
theorem dX11_reset_35 : decode cX11_reset 35 = .ok (.putfield 169, 3) := by decide +kernel
theorem dX11_reset_38 : decode cX11_reset 38 = .ok (.aload_n 0, 1) := by decide +kernel
theorem dX11_reset_39 : decode cX11_reset 39 = .ok (.iconst 1, 1) := by decide +kernel
theorem dX11_reset_40 : decode cX11_reset 40 = .ok (.putfield 172, 3) := by decide +kernel
theorem dX11_reset_43 : decode cX11_reset 43 = .ok (.aload_n 0, 1) := by decide +kernel
theorem dX11_reset_44 : decode cX11_reset 44 = .ok (.iload_n 1, 1) := by decide +kernel
theorem dX11_reset_45 : decode cX11_reset 45 = .ok (.invokevirtual 422, 3) := by decide +kernel
theorem dX11_reset_48 : decode cX11_reset 48 = .ok (.pop, 1) := by decide +kernel
theorem dX11_reset_49 : decode cX11_reset 49 = .ok (.iconst 1, 1) := by decide +kernel
theorem dX11_reset_50 : decode cX11_reset 50 = .ok (.ireturn, 1) := by decide +kernel
theorem dX11_join_0 : decode cX11_join 0 = .ok (.aload_n 0, 1) := by decide +kernel
theorem dX11_join_1 : decode cX11_join 1 = .ok (.invokevirtual 147, 3) := by decide +kernel
theorem dX11_join_4 : decode cX11_join 4 = .ok (.aload_n 0, 1) := by decide +kernel
theorem dX11_join_5 : decode cX11_join 5 = .ok (.iload_n 1, 1) := by decide +kernel
theorem dX11_join_6 : decode cX11_join 6 = .ok (.invokevirtual 239, 3) := by decide +kernel
theorem dX11_join_9 : decode cX11_join 9 = .ok (.ifCond .eq 16, 3) := by decide +kernel
theorem dX11_join_12 : decode cX11_join 12 = .ok (.aload_n 0, 1) := by decide +kernel
theorem dX11_join_13 : decode cX11_join 13 = .ok (.iload_n 2, 1) := by decide +kernel
theorem dX11_join_14 : decode cX11_join 14 = .ok (.invokevirtual 239, 3) := by decide +kernel
theorem dX11_join_17 : decode cX11_join 17 = .ok (.ifCond .eq 8, 3) := by decide +kernel
theorem dX11_join_20 : decode cX11_join 20 = .ok (.iload_n 1, 1) := by decide +kernel
theorem dX11_join_21 : decode cX11_join 21 = .ok (.iload_n 2, 1) := by decide +kernel
theorem dX11_join_22 : decode cX11_join 22 = .ok (.if_icmp .ne 9, 3) := by decide +kernel
theorem dX11_join_25 : decode cX11_join 25 = .ok (.aload_n 0, 1) := by decide +kernel
theorem dX11_join_26 : decode cX11_join 26 = .ok (.iconst 1, 1) := by decide +kernel
theorem dX11_join_27 : decode cX11_join 27 = .ok (.invokevirtual 150, 3) := by decide +kernel
theorem dX11_join_30 : decode cX11_join 30 = .ok (.ireturn, 1) := by decide +kernel
theorem dX11_join_31 : decode cX11_join 31 = .ok (.aload_n 0, 1) := by decide +kernel
theorem dX11_join_32 : decode cX11_join 32 = .ok (.getfield 26, 3) := by decide +kernel
theorem dX11_join_35 : decode cX11_join 35 = .ok (.iconst 5, 1) := by decide +kernel
theorem dX11_join_36 : decode cX11_join 36 = .ok (.iload_n 2, 1) := by decide +kernel
theorem dX11_join_37 : decode cX11_join 37 = .ok (.iadd, 1) := by decide +kernel
theorem dX11_join_38 : decode cX11_join 38 = .ok (.iaload, 1) := by decide +kernel
theorem dX11_join_39 : decode cX11_join 39 = .ok (.iconst 1, 1) := by decide +kernel
theorem dX11_join_40 : decode cX11_join 40 = .ok (.if_icmp .ne 23, 3) := by decide +kernel
theorem dX11_join_43 : decode cX11_join 43 = .ok (.aload_n 0, 1) := by decide +kernel
theorem dX11_join_44 : decode cX11_join 44 = .ok (.getfield 26, 3) := by decide +kernel
theorem dX11_join_47 : decode cX11_join 47 = .ok (.iload_n 2, 1) := by decide +kernel
theorem dX11_join_48 : decode cX11_join 48 = .ok (.iaload, 1) := by decide +kernel
theorem dX11_join_49 : decode cX11_join 49 = .ok (.ifCond .eq 14, 3) := by decide +kernel
theorem dX11_join_52 : decode cX11_join 52 = .ok (.aload_n 0, 1) := by decide +kernel
theorem dX11_join_53 : decode cX11_join 53 = .ok (.getfield 26, 3) := by decide +kernel
theorem dX11_join_56 : decode cX11_join 56 = .ok (.iconst 5, 1) := by decide +kernel
theorem dX11_join_57 : decode cX11_join 57 = .ok (.iload_n 1, 1) := by decide +kernel
theorem dX11_join_58 : decode cX11_join 58 = .ok (.iadd, 1) := by decide +kernel
theorem dX11_join_59 : decode cX11_join 59 = .ok (.iaload, 1) := by decide +kernel
theorem dX11_join_60 : decode cX11_join 60 = .ok (.ifCond .ne 9, 3) := by decide +kernel
theorem dX11_join_63 : decode cX11_join 63 = .ok (.aload_n 0, 1) := by decide +kernel
theorem dX11_join_64 : decode cX11_join 64 = .ok (.iconst 5, 1) := by decide +kernel
theorem dX11_join_65 : decode cX11_join 65 = .ok (.invokevirtual 150, 3) := by decide +kernel
theorem dX11_join_68 : decode cX11_join 68 = .ok (.ireturn, 1) := by decide +kernel
theorem dX11_join_69 : decode cX11_join 69 = .ok (.aload_n 0, 1) := by decide +kernel
theorem dX11_join_70 : decode cX11_join 70 = .ok (.iload_n 1, 1) := by decide +kernel
theorem dX11_join_71 : decode cX11_join 71 = .ok (.invokevirtual 245, 3) := by decide +kernel
theorem dX11_join_74 : decode cX11_join 74 = .ok (.aload_n 0, 1) := by decide +kernel
theorem dX11_join_75 : decode cX11_join 75 = .ok (.dup, 1) := by decide +kernel
theorem dX11_join_76 : decode cX11_join 76 = .ok (.getfield 169, 3) := by decide +kernel
theorem dX11_join_79 : decode cX11_join 79 = .ok (.aload_n 0, 1) := by decide +kernel
theorem dX11_join_80 : decode cX11_join 80 = .ok (.getfield 26, 3) := by decide +kernel
theorem dX11_join_83 : decode cX11_join 83 = .ok (.iload_n 2, 1) := by decide +kernel
theorem dX11_join_84 : decode cX11_join 84 = .ok (.iaload, 1) := by decide +kernel
theorem dX11_join_85 : decode cX11_join 85 = .ok (.aload_n 0, 1) := by decide +kernel
theorem dX11_join_86 : decode cX11_join 86 = .ok (.getfield 172, 3) := by decide +kernel
theorem dX11_join_89 : decode cX11_join 89 = .ok (.imul, 1) := by decide +kernel
theorem dX11_join_90 : decode cX11_join 90 = .ok (.iadd, 1) := by decide +kernel
theorem dX11_join_91 : decode cX11_join 91 = .ok (.putfield 169, 3) := by decide +kernel
theorem dX11_join_94 : decode cX11_join 94 = .ok (.aload_n 0, 1) := by decide +kernel
theorem dX11_join_95 : decode cX11_join 95 = .ok (.invokevirtual 228, 3) := by decide +kernel
theorem dX11_join_98 : decode cX11_join 98 = .ok (.ifCond .eq 11, 3) := by decide +kernel
theorem dX11_join_101 : decode cX11_join 101 = .ok (.aload_n 0, 1) := by decide +kernel
theorem dX11_join_102 : decode cX11_join 102 = .ok (.iconst 3, 1) := by decide +kernel
theorem dX11_join_103 : decode cX11_join 103 = .ok (.invokevirtual 150, 3) := by decide +kernel
theorem dX11_join_106 : decode cX11_join 106 = .ok (.goto 8, 3) := by decide +kernel
theorem dX11_join_109 : decode cX11_join 109 = .ok (.aload_n 0, 1) := by decide +kernel
theorem dX11_join_110 : decode cX11_join 110 = .ok (.iload_n 1, 1) := by decide +kernel
theorem dX11_join_111 : decode cX11_join 111 = .ok (.invokevirtual 422, 3) := by decide +kernel
theorem dX11_join_114 : decode cX11_join 114 = .ok (.ireturn, 1) := by decide +kernel
theorem dX11_undo_0 : decode cX11_undo 0 = .ok (.aload_n 0, 1) := by decide +kernel
theorem dX11_undo_1 : decode cX11_undo 1 = .ok (.invokevirtual 147, 3) := by decide +kernel
theorem dX11_undo_4 : decode cX11_undo 4 = .ok (.aload_n 0, 1) := by decide +kernel
theorem dX11_undo_5 : decode cX11_undo 5 = .ok (.getfield 175, 3) := by decide +kernel
theorem dX11_undo_8 : decode cX11_undo 8 = .ok (.ifCond .ne 10, 3) := by decide +kernel
theorem dX11_undo_11 : decode cX11_undo 11 = .ok (.aload_n 0, 1) := by decide +kernel
theorem dX11_undo_12 : decode cX11_undo 12 = .ok (.bipush 6, 2) := by decide +kernel
theorem dX11_undo_14 : decode cX11_undo 14 = .ok (.invokevirtual 425, 3) := by decide +kernel
theorem dX11_undo_17 : decode cX11_undo 17 = .ok (.ireturn, 1) := by decide +kernel
theorem dX11_undo_18 : decode cX11_undo 18 = .ok (.aload_n 0, 1) := by decide +kernel
theorem dX11_undo_19 : decode cX11_undo 19 = .ok (.dup, 1) := by decide +kernel
theorem dX11_undo_20 : decode cX11_undo 20 = .ok (.getfield 175, 3) := by decide +kernel
theorem dX11_undo_23 : decode cX11_undo 23 = .ok (.iconst 1, 1) := by decide +kernel
theorem dX11_undo_24 : decode cX11_undo 24 = .ok (.isub, 1) := by decide +kernel
theorem dX11_undo_25 : decode cX11_undo 25 = .ok (.putfield 175, 3) := by decide +kernel
theorem dX11_undo_28 : decode cX11_undo 28 = .ok (.aload_n 0, 1) := by decide +kernel
theorem dX11_undo_29 : decode cX11_undo 29 = .ok (.getfield 29, 3) := by decide +kernel
theorem dX11_undo_32 : decode cX11_undo 32 = .ok (.bipush 10, 2) := by decide +kernel
theorem dX11_undo_34 : decode cX11_undo 34 = .ok (.aload_n 0, 1) := by decide +kernel
theorem dX11_undo_35 : decode cX11_undo 35 = .ok (.getfield 175, 3) := by decide +kernel
theorem dX11_undo_38 : decode cX11_undo 38 = .ok (.imul, 1) := by decide +kernel
theorem dX11_undo_39 : decode cX11_undo 39 = .ok (.aload_n 0, 1) := by decide +kernel
theorem dX11_undo_40 : decode cX11_undo 40 = .ok (.getfield 26, 3) := by decide +kernel
theorem dX11_undo_43 : decode cX11_undo 43 = .ok (.iconst 0, 1) := by decide +kernel
theorem dX11_undo_44 : decode cX11_undo 44 = .ok (.bipush 10, 2) := by decide +kernel
theorem dX11_undo_46 : decode cX11_undo 46 = .ok (.invokestatic 159, 3) := by decide +kernel
theorem dX11_undo_49 : decode cX11_undo 49 = .ok (.iconst 1, 1) := by decide +kernel
theorem dX11_undo_50 : decode cX11_undo 50 = .ok (.ireturn, 1) := by decide +kernel
theorem dX11_image_0 : decode cX11_image 0 = .ok (.aload_n 0, 1) := by decide +kernel
theorem dX11_image_1 : decode cX11_image 1 = .ok (.invokevirtual 147, 3) := by decide +kernel
theorem dX11_image_4 : decode cX11_image 4 = .ok (.aload_n 0, 1) := by decide +kernel
theorem dX11_image_5 : decode cX11_image 5 = .ok (.getfield 163, 3) := by decide +kernel
theorem dX11_image_8 : decode cX11_image 8 = .ok (.ifCond .ne 9, 3) := by decide +kernel
theorem dX11_image_11 : decode cX11_image 11 = .ok (.aload_n 0, 1) := by decide +kernel
theorem dX11_image_12 : decode cX11_image 12 = .ok (.iconst 1, 1) := by decide +kernel
theorem dX11_image_13 : decode cX11_image 13 = .ok (.invokevirtual 150, 3) := by decide +kernel
theorem dX11_image_16 : decode cX11_image 16 = .ok (.ireturn, 1) := by decide +kernel
theorem dX11_image_17 : decode cX11_image 17 = .ok (.aload_n 0, 1) := by decide +kernel
theorem dX11_image_18 : decode cX11_image 18 = .ok (.getfield 178, 3) := by decide +kernel
theorem dX11_image_21 : decode cX11_image 21 = .ok (.iconst 3, 1) := by decide +kernel
theorem dX11_image_22 : decode cX11_image 22 = .ok (.if_icmp .ne 9, 3) := by decide +kernel
theorem dX11_image_25 : decode cX11_image 25 = .ok (.aload_n 0, 1) := by decide +kernel
theorem dX11_image_26 : decode cX11_image 26 = .ok (.iconst 3, 1) := by decide +kernel
theorem dX11_image_27 : decode cX11_image 27 = .ok (.invokevirtual 150, 3) := by decide +kernel
theorem dX11_image_30 : decode cX11_image 30 = .ok (.ireturn, 1) := by decide +kernel
theorem dX11_image_31 : decode cX11_image 31 = .ok (.aload_n 0, 1) := by decide +kernel
theorem dX11_image_32 : decode cX11_image 32 = .ok (.getfield 26, 3) := by decide +kernel
theorem dX11_image_35 : decode cX11_image 35 = .ok (.iconst 0, 1) := by decide +kernel
theorem dX11_image_36 : decode cX11_image 36 = .ok (.aload_n 0, 1) := by decide +kernel
theorem dX11_image_37 : decode cX11_image 37 = .ok (.getfield 32, 3) := by decide +kernel
theorem dX11_image_40 : decode cX11_image 40 = .ok (.bipush 10, 2) := by decide +kernel
theorem dX11_image_42 : decode cX11_image 42 = .ok (.aload_n 0, 1) := by decide +kernel
theorem dX11_image_43 : decode cX11_image 43 = .ok (.getfield 178, 3) := by decide +kernel
theorem dX11_image_46 : decode cX11_image 46 = .ok (.imul, 1) := by decide +kernel
theorem dX11_image_47 : decode cX11_image 47 = .ok (.bipush 10, 2) := by decide +kernel
theorem dX11_image_49 : decode cX11_image 49 = .ok (.invokestatic 159, 3) := by decide +kernel
theorem dX11_image_52 : decode cX11_image 52 = .ok (.aload_n 0, 1) := by decide +kernel
theorem dX11_image_53 : decode cX11_image 53 = .ok (.dup, 1) := by decide +kernel
theorem dX11_image_54 : decode cX11_image 54 = .ok (.getfield 178, 3) := by decide +kernel
theorem dX11_image_57 : decode cX11_image 57 = .ok (.iconst 1, 1) := by decide +kernel
theorem dX11_image_58 : decode cX11_image 58 = .ok (.iadd, 1) := by decide +kernel
theorem dX11_image_59 : decode cX11_image 59 = .ok (.putfield 178, 3) := by decide +kernel
theorem dX11_image_62 : decode cX11_image 62 = .ok (.aload_n 0, 1) := by decide +kernel
theorem dX11_image_63 : decode cX11_image 63 = .ok (.getfield 178, 3) := by decide +kernel
theorem dX11_image_66 : decode cX11_image 66 = .ok (.iconst 1, 1) := by decide +kernel
theorem dX11_image_67 : decode cX11_image 67 = .ok (.isub, 1) := by decide +kernel
theorem dX11_image_68 : decode cX11_image 68 = .ok (.ireturn, 1) := by decide +kernel
theorem dX11_back_0 : decode cX11_back 0 = .ok (.aload_n 0, 1) := by decide +kernel
theorem dX11_back_1 : decode cX11_back 1 = .ok (.invokevirtual 147, 3) := by decide +kernel
theorem dX11_back_4 : decode cX11_back 4 = .ok (.iload_n 1, 1) := by decide +kernel
theorem dX11_back_5 : decode cX11_back 5 = .ok (.iconst 0, 1) := by decide +kernel
theorem dX11_back_6 : decode cX11_back 6 = .ok (.aload_n 0, 1) := by decide +kernel
theorem dX11_back_7 : decode cX11_back 7 = .ok (.getfield 178, 3) := by decide +kernel
theorem dX11_back_10 : decode cX11_back 10 = .ok (.iconst 1, 1) := by decide +kernel
theorem dX11_back_11 : decode cX11_back 11 = .ok (.isub, 1) := by decide +kernel
theorem dX11_back_12 : decode cX11_back 12 = .ok (.invokestatic 143, 3) := by decide +kernel
theorem dX11_back_15 : decode cX11_back 15 = .ok (.ifCond .ne 9, 3) := by decide +kernel
theorem dX11_back_18 : decode cX11_back 18 = .ok (.aload_n 0, 1) := by decide +kernel
theorem dX11_back_19 : decode cX11_back 19 = .ok (.iconst 1, 1) := by decide +kernel
theorem dX11_back_20 : decode cX11_back 20 = .ok (.invokevirtual 425, 3) := by decide +kernel
theorem dX11_back_23 : decode cX11_back 23 = .ok (.ireturn, 1) := by decide +kernel
theorem dX11_back_24 : decode cX11_back 24 = .ok (.aload_n 0, 1) := by decide +kernel
theorem dX11_back_25 : decode cX11_back 25 = .ok (.getfield 32, 3) := by decide +kernel
theorem dX11_back_28 : decode cX11_back 28 = .ok (.bipush 10, 2) := by decide +kernel
theorem dX11_back_30 : decode cX11_back 30 = .ok (.iload_n 1, 1) := by decide +kernel
theorem dX11_back_31 : decode cX11_back 31 = .ok (.imul, 1) := by decide +kernel
theorem dX11_back_32 : decode cX11_back 32 = .ok (.aload_n 0, 1) := by decide +kernel
theorem dX11_back_33 : decode cX11_back 33 = .ok (.getfield 26, 3) := by decide +kernel
theorem dX11_back_36 : decode cX11_back 36 = .ok (.iconst 0, 1) := by decide +kernel
theorem dX11_back_37 : decode cX11_back 37 = .ok (.bipush 10, 2) := by decide +kernel
theorem dX11_back_39 : decode cX11_back 39 = .ok (.invokestatic 159, 3) := by decide +kernel
theorem dX11_back_42 : decode cX11_back 42 = .ok (.aload_n 0, 1) := by decide +kernel
theorem dX11_back_43 : decode cX11_back 43 = .ok (.iconst 0, 1) := by decide +kernel
theorem dX11_back_44 : decode cX11_back 44 = .ok (.putfield 175, 3) := by decide +kernel
theorem dX11_back_47 : decode cX11_back 47 = .ok (.iconst 1, 1) := by decide +kernel
theorem dX11_back_48 : decode cX11_back 48 = .ok (.ireturn, 1) := by decide +kernel
theorem dX11_led_0 : decode cX11_led 0 = .ok (.iconst 0, 1) := by decide +kernel
theorem dX11_led_1 : decode cX11_led 1 = .ok (.istore_n 2, 1) := by decide +kernel
theorem dX11_led_2 : decode cX11_led 2 = .ok (.iconst 0, 1) := by decide +kernel
theorem dX11_led_3 : decode cX11_led 3 = .ok (.istore_n 3, 1) := by decide +kernel
theorem dX11_led_4 : decode cX11_led 4 = .ok (.aload_n 0, 1) := by decide +kernel
theorem dX11_led_5 : decode cX11_led 5 = .ok (.getfield 163, 3) := by decide +kernel
theorem dX11_led_8 : decode cX11_led 8 = .ok (.ifCond .eq 46, 3) := by decide +kernel
theorem dX11_led_11 : decode cX11_led 11 = .ok (.iload_n 3, 1) := by decide +kernel
theorem dX11_led_12 : decode cX11_led 12 = .ok (.aload_n 0, 1) := by decide +kernel
theorem dX11_led_13 : decode cX11_led 13 = .ok (.getfield 20, 3) := by decide +kernel
theorem dX11_led_16 : decode cX11_led 16 = .ok (.iconst 1, 1) := by decide +kernel
theorem dX11_led_17 : decode cX11_led 17 = .ok (.iaload, 1) := by decide +kernel
theorem dX11_led_18 : decode cX11_led 18 = .ok (.if_icmp .ge 36, 3) := by decide +kernel
theorem dX11_led_21 : decode cX11_led 21 = .ok (.aload_n 0, 1) := by decide +kernel
theorem dX11_led_22 : decode cX11_led 22 = .ok (.getfield 26, 3) := by decide +kernel
theorem dX11_led_25 : decode cX11_led 25 = .ok (.iload_n 3, 1) := by decide +kernel
theorem dX11_led_26 : decode cX11_led 26 = .ok (.iaload, 1) := by decide +kernel
theorem dX11_led_27 : decode cX11_led 27 = .ok (.ifCond .eq 6, 3) := by decide +kernel
theorem dX11_led_30 : decode cX11_led 30 = .ok (.goto 18, 3) := by decide +kernel
theorem dX11_led_33 : decode cX11_led 33 = .ok (.iload_n 2, 1) := by decide +kernel
theorem dX11_led_34 : decode cX11_led 34 = .ok (.iload_n 1, 1) := by decide +kernel
theorem dX11_led_35 : decode cX11_led 35 = .ok (.if_icmp .ne 10, 3) := by decide +kernel
theorem dX11_led_38 : decode cX11_led 38 = .ok (.aload_n 0, 1) := by decide +kernel
theorem dX11_led_39 : decode cX11_led 39 = .ok (.iconst 0, 1) := by decide +kernel
theorem dX11_led_40 : decode cX11_led 40 = .ok (.putfield 53, 3) := by decide +kernel
theorem dX11_led_43 : decode cX11_led 43 = .ok (.iload_n 3, 1) := by decide +kernel
theorem dX11_led_44 : decode cX11_led 44 = .ok (.ireturn, 1) := by decide +kernel
theorem dX11_led_45 : decode cX11_led 45 = .ok (.iinc 2 1, 3) := by decide +kernel
theorem dX11_led_48 : decode cX11_led 48 = .ok (.iinc 3 1, 3) := by decide +kernel
theorem dX11_led_51 : decode cX11_led 51 = .ok (.goto (-47), 3) := by decide +kernel
theorem dX11_led_54 : decode cX11_led 54 = .ok (.aload_n 0, 1) := by decide +kernel
theorem dX11_led_55 : decode cX11_led 55 = .ok (.iconst 1, 1) := by decide +kernel
theorem dX11_led_56 : decode cX11_led 56 = .ok (.putfield 53, 3) := by decide +kernel
theorem dX11_led_59 : decode cX11_led 59 = .ok (.iconst 0, 1) := by decide +kernel
theorem dX11_led_60 : decode cX11_led 60 = .ok (.ireturn, 1) := by decide +kernel
theorem dX11_size_0 : decode cX11_size 0 = .ok (.aload_n 0, 1) := by decide +kernel
theorem dX11_size_1 : decode cX11_size 1 = .ok (.iconst 0, 1) := by decide +kernel
theorem dX11_size_2 : decode cX11_size 2 = .ok (.putfield 53, 3) := by decide +kernel
theorem dX11_size_5 : decode cX11_size 5 = .ok (.iload_n 1, 1) := by decide +kernel
theorem dX11_size_6 : decode cX11_size 6 = .ok (.bipush 6, 2) := by decide +kernel
theorem dX11_size_8 : decode cX11_size 8 = .ok (.if_icmp .ne 8, 3) := by decide +kernel
theorem dX11_size_11 : decode cX11_size 11 = .ok (.aload_n 0, 1) := by decide +kernel
theorem dX11_size_12 : decode cX11_size 12 = .ok (.getfield 64, 3) := by decide +kernel
theorem dX11_size_15 : decode cX11_size 15 = .ok (.ireturn, 1) := by decide +kernel
theorem dX11_size_16 : decode cX11_size 16 = .ok (.aload_n 0, 1) := by decide +kernel
theorem dX11_size_17 : decode cX11_size 17 = .ok (.getfield 163, 3) := by decide +kernel
theorem dX11_size_20 : decode cX11_size 20 = .ok (.ifCond .ne 18, 3) := by decide +kernel
theorem dX11_size_23 : decode cX11_size 23 = .ok (.iload_n 1, 1) := by decide +kernel
theorem dX11_size_24 : decode cX11_size 24 = .ok (.iconst 0, 1) := by decide +kernel
theorem dX11_size_25 : decode cX11_size 25 = .ok (.iconst 5, 1) := by decide +kernel
theorem dX11_size_26 : decode cX11_size 26 = .ok (.invokestatic 143, 3) := by decide +kernel
theorem dX11_size_29 : decode cX11_size 29 = .ok (.ifCond .eq 7, 3) := by decide +kernel
theorem dX11_size_32 : decode cX11_size 32 = .ok (.iconst 0, 1) := by decide +kernel
theorem dX11_size_33 : decode cX11_size 33 = .ok (.goto 4, 3) := by decide +kernel
theorem dX11_size_36 : decode cX11_size 36 = .ok (.iconst (-1), 1) := by decide +kernel
theorem dX11_size_37 : decode cX11_size 37 = .ok (.ireturn, 1) := by decide +kernel
theorem dX11_size_38 : decode cX11_size 38 = .ok (.iload_n 1, 1) := by decide +kernel
theorem dX11_size_39 : decode cX11_size 39 = .ok (.iconst 0, 1) := by decide +kernel
theorem dX11_size_40 : decode cX11_size 40 = .ok (.iconst 3, 1) := by decide +kernel
theorem dX11_size_41 : decode cX11_size 41 = .ok (.invokestatic 143, 3) := by decide +kernel
theorem dX11_size_44 : decode cX11_size 44 = .ok (.ifCond .eq 10, 3) := by decide +kernel
theorem dX11_size_47 : decode cX11_size 47 = .ok (.aload_n 0, 1) := by decide +kernel
theorem dX11_size_48 : decode cX11_size 48 = .ok (.getfield 20, 3) := by decide +kernel
theorem dX11_size_51 : decode cX11_size 51 = .ok (.iload_n 1, 1) := by decide +kernel
theorem dX11_size_52 : decode cX11_size 52 = .ok (.iaload, 1) := by decide +kernel
theorem dX11_size_53 : decode cX11_size 53 = .ok (.ireturn, 1) := by decide +kernel
theorem dX11_size_54 : decode cX11_size 54 = .ok (.iload_n 1, 1) := by decide +kernel
theorem dX11_size_55 : decode cX11_size 55 = .ok (.iconst 4, 1) := by decide +kernel
theorem dX11_size_56 : decode cX11_size 56 = .ok (.if_icmp .ne 10, 3) := by decide +kernel
theorem dX11_size_59 : decode cX11_size 59 = .ok (.aload_n 0, 1) := by decide +kernel
theorem dX11_size_60 : decode cX11_size 60 = .ok (.getfield 175, 3) := by decide +kernel
theorem dX11_size_63 : decode cX11_size 63 = .ok (.goto 16, 3) := by decide +kernel
theorem dX11_size_66 : decode cX11_size 66 = .ok (.iload_n 1, 1) := by decide +kernel
theorem dX11_size_67 : decode cX11_size 67 = .ok (.iconst 5, 1) := by decide +kernel
theorem dX11_size_68 : decode cX11_size 68 = .ok (.if_icmp .ne 10, 3) := by decide +kernel
theorem dX11_size_71 : decode cX11_size 71 = .ok (.aload_n 0, 1) := by decide +kernel
theorem dX11_size_72 : decode cX11_size 72 = .ok (.getfield 178, 3) := by decide +kernel
theorem dX11_size_75 : decode cX11_size 75 = .ok (.goto 4, 3) := by decide +kernel
theorem dX11_size_78 : decode cX11_size 78 = .ok (.iconst (-1), 1) := by decide +kernel
theorem dX11_size_79 : decode cX11_size 79 = .ok (.ireturn, 1) := by decide +kernel
theorem dX11_trouble_0 : decode cX11_trouble 0 = .ok (.aload_n 0, 1) := by decide +kernel
theorem dX11_trouble_1 : decode cX11_trouble 1 = .ok (.iconst 0, 1) := by decide +kernel
theorem dX11_trouble_2 : decode cX11_trouble 2 = .ok (.putfield 53, 3) := by decide +kernel
theorem dX11_trouble_5 : decode cX11_trouble 5 = .ok (.aload_n 0, 1) := by decide +kernel
theorem dX11_trouble_6 : decode cX11_trouble 6 = .ok (.getfield 56, 3) := by decide +kernel
theorem dX11_trouble_9 : decode cX11_trouble 9 = .ok (.ireturn, 1) := by decide +kernel
theorem dJ6_bitCount_0f7a4_0 : decode cJ6_bitCount_0f7a4 0 = .ok (.iload_n 0, 1) := by decide +kernel
theorem dJ6_bitCount_0f7a4_1 : decode cJ6_bitCount_0f7a4 1 = .ok (.iload_n 0, 1) := by decide +kernel
theorem dJ6_bitCount_0f7a4_2 : decode cJ6_bitCount_0f7a4 2 = .ok (.iconst 1, 1) := by decide +kernel
theorem dJ6_bitCount_0f7a4_3 : decode cJ6_bitCount_0f7a4 3 = .ok (.iushr, 1) := by decide +kernel
theorem dJ6_bitCount_0f7a4_4 : decode cJ6_bitCount_0f7a4 4 = .ok (.ldc_w 265, 3) := by decide +kernel
theorem dJ6_bitCount_0f7a4_7 : decode cJ6_bitCount_0f7a4 7 = .ok (.iand, 1) := by decide +kernel
theorem dJ6_bitCount_0f7a4_8 : decode cJ6_bitCount_0f7a4 8 = .ok (.isub, 1) := by decide +kernel
theorem dJ6_bitCount_0f7a4_9 : decode cJ6_bitCount_0f7a4 9 = .ok (.istore_n 0, 1) := by decide +kernel
theorem dJ6_bitCount_0f7a4_10 : decode cJ6_bitCount_0f7a4 10 = .ok (.iload_n 0, 1) := by decide +kernel
theorem dJ6_bitCount_0f7a4_11 : decode cJ6_bitCount_0f7a4 11 = .ok (.ldc_w 266, 3) := by decide +kernel
theorem dJ6_bitCount_0f7a4_14 : decode cJ6_bitCount_0f7a4 14 = .ok (.iand, 1) := by decide +kernel
theorem dJ6_bitCount_0f7a4_15 : decode cJ6_bitCount_0f7a4 15 = .ok (.iload_n 0, 1) := by decide +kernel
theorem dJ6_bitCount_0f7a4_16 : decode cJ6_bitCount_0f7a4 16 = .ok (.iconst 2, 1) := by decide +kernel
theorem dJ6_bitCount_0f7a4_17 : decode cJ6_bitCount_0f7a4 17 = .ok (.iushr, 1) := by decide +kernel
theorem dJ6_bitCount_0f7a4_18 : decode cJ6_bitCount_0f7a4 18 = .ok (.ldc_w 266, 3) := by decide +kernel
theorem dJ6_bitCount_0f7a4_21 : decode cJ6_bitCount_0f7a4 21 = .ok (.iand, 1) := by decide +kernel
theorem dJ6_bitCount_0f7a4_22 : decode cJ6_bitCount_0f7a4 22 = .ok (.iadd, 1) := by decide +kernel
theorem dJ6_bitCount_0f7a4_23 : decode cJ6_bitCount_0f7a4 23 = .ok (.istore_n 0, 1) := by decide +kernel
theorem dJ6_bitCount_0f7a4_24 : decode cJ6_bitCount_0f7a4 24 = .ok (.iload_n 0, 1) := by decide +kernel
theorem dJ6_bitCount_0f7a4_25 : decode cJ6_bitCount_0f7a4 25 = .ok (.iload_n 0, 1) := by decide +kernel
theorem dJ6_bitCount_0f7a4_26 : decode cJ6_bitCount_0f7a4 26 = .ok (.iconst 4, 1) := by decide +kernel
theorem dJ6_bitCount_0f7a4_27 : decode cJ6_bitCount_0f7a4 27 = .ok (.iushr, 1) := by decide +kernel
theorem dJ6_bitCount_0f7a4_28 : decode cJ6_bitCount_0f7a4 28 = .ok (.iadd, 1) := by decide +kernel
theorem dJ6_bitCount_0f7a4_29 : decode cJ6_bitCount_0f7a4 29 = .ok (.ldc_w 267, 3) := by decide +kernel
theorem dJ6_bitCount_0f7a4_32 : decode cJ6_bitCount_0f7a4 32 = .ok (.iand, 1) := by decide +kernel
theorem dJ6_bitCount_0f7a4_33 : decode cJ6_bitCount_0f7a4 33 = .ok (.istore_n 0, 1) := by decide +kernel
theorem dJ6_bitCount_0f7a4_34 : decode cJ6_bitCount_0f7a4 34 = .ok (.iload_n 0, 1) := by decide +kernel
theorem dJ6_bitCount_0f7a4_35 : decode cJ6_bitCount_0f7a4 35 = .ok (.iload_n 0, 1) := by decide +kernel
theorem dJ6_bitCount_0f7a4_36 : decode cJ6_bitCount_0f7a4 36 = .ok (.bipush 8, 2) := by decide +kernel
theorem dJ6_bitCount_0f7a4_38 : decode cJ6_bitCount_0f7a4 38 = .ok (.iushr, 1) := by decide +kernel
theorem dJ6_bitCount_0f7a4_39 : decode cJ6_bitCount_0f7a4 39 = .ok (.iadd, 1) := by decide +kernel
theorem dJ6_bitCount_0f7a4_40 : decode cJ6_bitCount_0f7a4 40 = .ok (.istore_n 0, 1) := by decide +kernel
theorem dJ6_bitCount_0f7a4_41 : decode cJ6_bitCount_0f7a4 41 = .ok (.iload_n 0, 1) := by decide +kernel
theorem dJ6_bitCount_0f7a4_42 : decode cJ6_bitCount_0f7a4 42 = .ok (.iload_n 0, 1) := by decide +kernel
theorem dJ6_bitCount_0f7a4_43 : decode cJ6_bitCount_0f7a4 43 = .ok (.bipush 16, 2) := by decide +kernel
theorem dJ6_bitCount_0f7a4_45 : decode cJ6_bitCount_0f7a4 45 = .ok (.iushr, 1) := by decide +kernel
theorem dJ6_bitCount_0f7a4_46 : decode cJ6_bitCount_0f7a4 46 = .ok (.iadd, 1) := by decide +kernel
theorem dJ6_bitCount_0f7a4_47 : decode cJ6_bitCount_0f7a4 47 = .ok (.istore_n 0, 1) := by decide +kernel
theorem dJ6_bitCount_0f7a4_48 : decode cJ6_bitCount_0f7a4 48 = .ok (.iload_n 0, 1) := by decide +kernel
theorem dJ6_bitCount_0f7a4_49 : decode cJ6_bitCount_0f7a4 49 = .ok (.bipush 63, 2) := by decide +kernel
theorem dJ6_bitCount_0f7a4_51 : decode cJ6_bitCount_0f7a4 51 = .ok (.iand, 1) := by decide +kernel
theorem dJ6_bitCount_0f7a4_52 : decode cJ6_bitCount_0f7a4 52 = .ok (.ireturn, 1) := by decide +kernel
theorem dJ9_floorDiv_7cf53_0 : decode cJ9_floorDiv_7cf53 0 = .ok (.iload_n 0, 1) := by decide +kernel
theorem dJ9_floorDiv_7cf53_1 : decode cJ9_floorDiv_7cf53 1 = .ok (.iload_n 1, 1) := by decide +kernel
theorem dJ9_floorDiv_7cf53_2 : decode cJ9_floorDiv_7cf53 2 = .ok (.idiv, 1) := by decide +kernel
theorem dJ9_floorDiv_7cf53_3 : decode cJ9_floorDiv_7cf53 3 = .ok (.istore_n 2, 1) := by decide +kernel
theorem dJ9_floorDiv_7cf53_4 : decode cJ9_floorDiv_7cf53 4 = .ok (.iload_n 0, 1) := by decide +kernel
theorem dJ9_floorDiv_7cf53_5 : decode cJ9_floorDiv_7cf53 5 = .ok (.iload_n 1, 1) := by decide +kernel
theorem dJ9_floorDiv_7cf53_6 : decode cJ9_floorDiv_7cf53 6 = .ok (.ixor, 1) := by decide +kernel
theorem dJ9_floorDiv_7cf53_7 : decode cJ9_floorDiv_7cf53 7 = .ok (.ifCond .ge 14, 3) := by decide +kernel
theorem dJ9_floorDiv_7cf53_10 : decode cJ9_floorDiv_7cf53 10 = .ok (.iload_n 2, 1) := by decide +kernel
theorem dJ9_floorDiv_7cf53_11 : decode cJ9_floorDiv_7cf53 11 = .ok (.iload_n 1, 1) := by decide +kernel
theorem dJ9_floorDiv_7cf53_12 : decode cJ9_floorDiv_7cf53 12 = .ok (.imul, 1) := by decide +kernel
theorem dJ9_floorDiv_7cf53_13 : decode cJ9_floorDiv_7cf53 13 = .ok (.iload_n 0, 1) := by decide +kernel
theorem dJ9_floorDiv_7cf53_14 : decode cJ9_floorDiv_7cf53 14 = .ok (.if_icmp .eq 7, 3) := by decide +kernel
theorem dJ9_floorDiv_7cf53_17 : decode cJ9_floorDiv_7cf53 17 = .ok (.iload_n 2, 1) := by decide +kernel
theorem dJ9_floorDiv_7cf53_18 : decode cJ9_floorDiv_7cf53 18 = .ok (.iconst 1, 1) := by decide +kernel
theorem dJ9_floorDiv_7cf53_19 : decode cJ9_floorDiv_7cf53 19 = .ok (.isub, 1) := by decide +kernel
theorem dJ9_floorDiv_7cf53_20 : decode cJ9_floorDiv_7cf53 20 = .ok (.ireturn, 1) := by decide +kernel
theorem dJ9_floorDiv_7cf53_21 : decode cJ9_floorDiv_7cf53 21 = .ok (.iload_n 2, 1) := by decide +kernel
theorem dJ9_floorDiv_7cf53_22 : decode cJ9_floorDiv_7cf53 22 = .ok (.ireturn, 1) := by decide +kernel
theorem dJ9_abs_0f7a4_0 : decode cJ9_abs_0f7a4 0 = .ok (.iload_n 0, 1) := by decide +kernel
theorem dJ9_abs_0f7a4_1 : decode cJ9_abs_0f7a4 1 = .ok (.ifCond .ge 8, 3) := by decide +kernel
theorem dJ9_abs_0f7a4_4 : decode cJ9_abs_0f7a4 4 = .ok (.iload_n 0, 1) := by decide +kernel
theorem dJ9_abs_0f7a4_5 : decode cJ9_abs_0f7a4 5 = .ok (.ineg, 1) := by decide +kernel
theorem dJ9_abs_0f7a4_6 : decode cJ9_abs_0f7a4 6 = .ok (.goto 4, 3) := by decide +kernel
theorem dJ9_abs_0f7a4_9 : decode cJ9_abs_0f7a4 9 = .ok (.iload_n 0, 1) := by decide +kernel
theorem dJ9_abs_0f7a4_10 : decode cJ9_abs_0f7a4 10 = .ok (.ireturn, 1) := by decide +kernel
theorem dJ9_abs_067f4_0 : decode cJ9_abs_067f4 0 = .ok (.lload_n 0, 1) := by decide +kernel
theorem dJ9_abs_067f4_1 : decode cJ9_abs_067f4 1 = .ok (.lconst 0, 1) := by decide +kernel
theorem dJ9_abs_067f4_2 : decode cJ9_abs_067f4 2 = .ok (.lcmp, 1) := by decide +kernel
theorem dJ9_abs_067f4_3 : decode cJ9_abs_067f4 3 = .ok (.ifCond .ge 8, 3) := by decide +kernel
theorem dJ9_abs_067f4_6 : decode cJ9_abs_067f4 6 = .ok (.lload_n 0, 1) := by decide +kernel
theorem dJ9_abs_067f4_7 : decode cJ9_abs_067f4 7 = .ok (.lneg, 1) := by decide +kernel
theorem dJ9_abs_067f4_8 : decode cJ9_abs_067f4 8 = .ok (.goto 4, 3) := by decide +kernel
theorem dJ9_abs_067f4_11 : decode cJ9_abs_067f4 11 = .ok (.lload_n 0, 1) := by decide +kernel
theorem dJ9_abs_067f4_12 : decode cJ9_abs_067f4 12 = .ok (.lreturn, 1) := by decide +kernel
theorem dJ9_max_7cf53_0 : decode cJ9_max_7cf53 0 = .ok (.iload_n 0, 1) := by decide +kernel
theorem dJ9_max_7cf53_1 : decode cJ9_max_7cf53 1 = .ok (.iload_n 1, 1) := by decide +kernel
theorem dJ9_max_7cf53_2 : decode cJ9_max_7cf53 2 = .ok (.if_icmp .lt 7, 3) := by decide +kernel
theorem dJ9_max_7cf53_5 : decode cJ9_max_7cf53 5 = .ok (.iload_n 0, 1) := by decide +kernel
theorem dJ9_max_7cf53_6 : decode cJ9_max_7cf53 6 = .ok (.goto 4, 3) := by decide +kernel
theorem dJ9_max_7cf53_9 : decode cJ9_max_7cf53 9 = .ok (.iload_n 1, 1) := by decide +kernel
theorem dJ9_max_7cf53_10 : decode cJ9_max_7cf53 10 = .ok (.ireturn, 1) := by decide +kernel
theorem dJ0_length_8abf5_0 : decode cJ0_length_8abf5 0 = .ok (.aload_n 0, 1) := by decide +kernel
theorem dJ0_length_8abf5_1 : decode cJ0_length_8abf5 1 = .ok (.getfield 9, 3) := by decide +kernel
theorem dJ0_length_8abf5_4 : decode cJ0_length_8abf5 4 = .ok (.arraylength, 1) := by decide +kernel
theorem dJ0_length_8abf5_5 : decode cJ0_length_8abf5 5 = .ok (.aload_n 0, 1) := by decide +kernel
theorem dJ0_length_8abf5_6 : decode cJ0_length_8abf5 6 = .ok (.invokevirtual 335, 3) := by decide +kernel
theorem dJ0_length_8abf5_9 : decode cJ0_length_8abf5 9 = .ok (.ishr, 1) := by decide +kernel
theorem dJ0_length_8abf5_10 : decode cJ0_length_8abf5 10 = .ok (.ireturn, 1) := by decide +kernel
theorem dJ0_charAt_5068e_0 : decode cJ0_charAt_5068e 0 = .ok (.aload_n 0, 1) := by decide +kernel
theorem dJ0_charAt_5068e_1 : decode cJ0_charAt_5068e 1 = .ok (.invokevirtual 492, 3) := by decide +kernel
theorem dJ0_charAt_5068e_4 : decode cJ0_charAt_5068e 4 = .ok (.ifCond .eq 12, 3) := by decide +kernel
theorem dJ0_charAt_5068e_7 : decode cJ0_charAt_5068e 7 = .ok (.aload_n 0, 1) := by decide +kernel
theorem dJ0_charAt_5068e_8 : decode cJ0_charAt_5068e 8 = .ok (.getfield 9, 3) := by decide +kernel
theorem dJ0_charAt_5068e_11 : decode cJ0_charAt_5068e 11 = .ok (.iload_n 1, 1) := by decide +kernel
theorem dJ0_charAt_5068e_12 : decode cJ0_charAt_5068e 12 = .ok (.invokestatic 495, 3) := by decide +kernel
theorem dJ0_charAt_5068e_15 : decode cJ0_charAt_5068e 15 = .ok (.ireturn, 1) := by decide +kernel
theorem dJ0_charAt_5068e_16 : decode cJ0_charAt_5068e 16 = .ok (.aload_n 0, 1) := by decide +kernel
theorem dJ0_charAt_5068e_17 : decode cJ0_charAt_5068e 17 = .ok (.getfield 9, 3) := by decide +kernel
theorem dJ0_charAt_5068e_20 : decode cJ0_charAt_5068e 20 = .ok (.iload_n 1, 1) := by decide +kernel
theorem dJ0_charAt_5068e_21 : decode cJ0_charAt_5068e 21 = .ok (.invokestatic 498, 3) := by decide +kernel
theorem dJ0_charAt_5068e_24 : decode cJ0_charAt_5068e 24 = .ok (.ireturn, 1) := by decide +kernel
theorem dJ0_coder_7d493_0 : decode cJ0_coder_7d493 0 = .ok (.getstatic 38, 3) := by decide +kernel
theorem dJ0_coder_7d493_3 : decode cJ0_coder_7d493 3 = .ok (.ifCond .eq 10, 3) := by decide +kernel
theorem dJ0_coder_7d493_6 : decode cJ0_coder_7d493 6 = .ok (.aload_n 0, 1) := by decide +kernel
theorem dJ0_coder_7d493_7 : decode cJ0_coder_7d493 7 = .ok (.getfield 15, 3) := by decide +kernel
theorem dJ0_coder_7d493_10 : decode cJ0_coder_7d493 10 = .ok (.goto 4, 3) := by decide +kernel
theorem dJ0_coder_7d493_13 : decode cJ0_coder_7d493 13 = .ok (.iconst 1, 1) := by decide +kernel
theorem dJ0_coder_7d493_14 : decode cJ0_coder_7d493 14 = .ok (.ireturn, 1) := by decide +kernel
theorem dJ0_isLatin1_aae02_0 : decode cJ0_isLatin1_aae02 0 = .ok (.getstatic 38, 3) := by decide +kernel
theorem dJ0_isLatin1_aae02_3 : decode cJ0_isLatin1_aae02 3 = .ok (.ifCond .eq 14, 3) := by decide +kernel
theorem dJ0_isLatin1_aae02_6 : decode cJ0_isLatin1_aae02 6 = .ok (.aload_n 0, 1) := by decide +kernel
theorem dJ0_isLatin1_aae02_7 : decode cJ0_isLatin1_aae02 7 = .ok (.getfield 15, 3) := by decide +kernel
theorem dJ0_isLatin1_aae02_10 : decode cJ0_isLatin1_aae02 10 = .ok (.ifCond .ne 7, 3) := by decide +kernel
theorem dJ0_isLatin1_aae02_13 : decode cJ0_isLatin1_aae02 13 = .ok (.iconst 1, 1) := by decide +kernel
theorem dJ0_isLatin1_aae02_14 : decode cJ0_isLatin1_aae02 14 = .ok (.goto 4, 3) := by decide +kernel
theorem dJ0_isLatin1_aae02_17 : decode cJ0_isLatin1_aae02 17 = .ok (.iconst 0, 1) := by decide +kernel
theorem dJ0_isLatin1_aae02_18 : decode cJ0_isLatin1_aae02 18 = .ok (.ireturn, 1) := by decide +kernel
theorem dJ0_checkIndex_df160_0 : decode cJ0_checkIndex_df160 0 = .ok (.iload_n 0, 1) := by decide +kernel
theorem dJ0_checkIndex_df160_1 : decode cJ0_checkIndex_df160 1 = .ok (.iload_n 1, 1) := by decide +kernel
theorem dJ0_checkIndex_df160_2 : decode cJ0_checkIndex_df160 2 = .ok (.getstatic 1053, 3) := by decide +kernel
theorem dJ0_checkIndex_df160_5 : decode cJ0_checkIndex_df160 5 = .ok (.invokestatic 1059, 3) := by decide +kernel
theorem dJ0_checkIndex_df160_8 : decode cJ0_checkIndex_df160 8 = .ok (.pop, 1) := by decide +kernel
theorem dJ0_checkIndex_df160_9 : decode cJ0_checkIndex_df160 9 = .ok (.return_, 1) := by decide +kernel
theorem dJ1_charAt_3b067_0 : decode cJ1_charAt_3b067 0 = .ok (.iload_n 1, 1) := by decide +kernel
theorem dJ1_charAt_3b067_1 : decode cJ1_charAt_3b067 1 = .ok (.aload_n 0, 1) := by decide +kernel
theorem dJ1_charAt_3b067_2 : decode cJ1_charAt_3b067 2 = .ok (.arraylength, 1) := by decide +kernel
theorem dJ1_charAt_3b067_3 : decode cJ1_charAt_3b067 3 = .ok (.invokestatic 9, 3) := by decide +kernel
theorem dJ1_charAt_3b067_6 : decode cJ1_charAt_3b067 6 = .ok (.aload_n 0, 1) := by decide +kernel
theorem dJ1_charAt_3b067_7 : decode cJ1_charAt_3b067 7 = .ok (.iload_n 1, 1) := by decide +kernel
theorem dJ1_charAt_3b067_8 : decode cJ1_charAt_3b067 8 = .ok (.baload, 1) := by decide +kernel
theorem dJ1_charAt_3b067_9 : decode cJ1_charAt_3b067 9 = .ok (.sipush 255, 3) := by decide +kernel
theorem dJ1_charAt_3b067_12 : decode cJ1_charAt_3b067 12 = .ok (.iand, 1) := by decide +kernel
theorem dJ1_charAt_3b067_13 : decode cJ1_charAt_3b067 13 = .ok (.i2c, 1) := by decide +kernel
theorem dJ1_charAt_3b067_14 : decode cJ1_charAt_3b067 14 = .ok (.ireturn, 1) := by decide +kernel
theorem dJ3_checkIndex_8e157_0 : decode cJ3_checkIndex_8e157 0 = .ok (.iload_n 0, 1) := by decide +kernel
theorem dJ3_checkIndex_8e157_1 : decode cJ3_checkIndex_8e157 1 = .ok (.ifCond .lt 8, 3) := by decide +kernel
theorem dJ3_checkIndex_8e157_4 : decode cJ3_checkIndex_8e157 4 = .ok (.iload_n 0, 1) := by decide +kernel
theorem dJ3_checkIndex_8e157_5 : decode cJ3_checkIndex_8e157 5 = .ok (.iload_n 1, 1) := by decide +kernel
theorem dJ3_checkIndex_8e157_6 : decode cJ3_checkIndex_8e157 6 = .ok (.if_icmp .lt 10, 3) := by decide +kernel
theorem dJ3_checkIndex_8e157_9 : decode cJ3_checkIndex_8e157 9 = .ok (.aload_n 2, 1) := by decide +kernel
theorem dJ3_checkIndex_8e157_10 : decode cJ3_checkIndex_8e157 10 = .ok (.iload_n 0, 1) := by decide +kernel
theorem dJ3_checkIndex_8e157_11 : decode cJ3_checkIndex_8e157 11 = .ok (.iload_n 1, 1) := by decide +kernel
theorem dJ3_checkIndex_8e157_12 : decode cJ3_checkIndex_8e157 12 = .ok (.invokestatic 95, 3) := by decide +kernel
theorem dJ3_checkIndex_8e157_15 : decode cJ3_checkIndex_8e157 15 = .ok (.athrow, 1) := by decide +kernel
theorem dJ3_checkIndex_8e157_16 : decode cJ3_checkIndex_8e157 16 = .ok (.iload_n 0, 1) := by decide +kernel
theorem dJ3_checkIndex_8e157_17 : decode cJ3_checkIndex_8e157 17 = .ok (.ireturn, 1) := by decide +kernel
