theorem dX10_rungUpper_27 : decode cX10_rungUpper 27 = .ok (.iconst (-1), 1) := by decide +kernel
theorem dX10_rungUpper_28 : decode cX10_rungUpper 28 = .ok (.invokevirtual 83, 3) := by decide +kernel
theorem dX10_rungUpper_31 : decode cX10_rungUpper 31 = .ok (.ireturn, 1) := by decide +kernel
theorem dX10_rungLower_0 : decode cX10_rungLower 0 = .ok (.aload_n 0, 1) := by decide +kernel
theorem dX10_rungLower_1 : decode cX10_rungLower 1 = .ok (.iload_n 1, 1) := by decide +kernel
theorem dX10_rungLower_2 : decode cX10_rungLower 2 = .ok (.iload_n 2, 1) := by decide +kernel
theorem dX10_rungLower_3 : decode cX10_rungLower 3 = .ok (.invokevirtual 233, 3) := by decide +kernel
theorem dX10_rungLower_6 : decode cX10_rungLower 6 = .ok (.istore_n 3, 1) := by decide +kernel
theorem dX10_rungLower_7 : decode cX10_rungLower 7 = .ok (.iload_n 3, 1) := by decide +kernel
theorem dX10_rungLower_8 : decode cX10_rungLower 8 = .ok (.ifCond .ne 17, 3) := by decide +kernel
theorem dX10_rungLower_11 : decode cX10_rungLower 11 = .ok (.aload_n 0, 1) := by decide +kernel
theorem dX10_rungLower_12 : decode cX10_rungLower 12 = .ok (.aload_n 0, 1) := by decide +kernel
theorem dX10_rungLower_13 : decode cX10_rungLower 13 = .ok (.getfield 60, 3) := by decide +kernel
theorem dX10_rungLower_16 : decode cX10_rungLower 16 = .ok (.getfield 237, 3) := by decide +kernel
theorem dX10_rungLower_19 : decode cX10_rungLower 19 = .ok (.invokevirtual 100, 3) := by decide +kernel
theorem dX10_rungLower_22 : decode cX10_rungLower 22 = .ok (.goto 9, 3) := by decide +kernel
theorem dX10_rungLower_25 : decode cX10_rungLower 25 = .ok (.aload_n 0, 1) := by decide +kernel
theorem dX10_rungLower_26 : decode cX10_rungLower 26 = .ok (.iload_n 3, 1) := by decide +kernel
theorem dX10_rungLower_27 : decode cX10_rungLower 27 = .ok (.iconst (-1), 1) := by decide +kernel
theorem dX10_rungLower_28 : decode cX10_rungLower 28 = .ok (.invokevirtual 83, 3) := by decide +kernel
theorem dX10_rungLower_31 : decode cX10_rungLower 31 = .ok (.ireturn, 1) := by decide +kernel
theorem dX10_knot_0 : decode cX10_knot 0 = .ok (.aload_n 0, 1) := by decide +kernel
theorem dX10_knot_1 : decode cX10_knot 1 = .ok (.getfield 19, 3) := by decide +kernel
theorem dX10_knot_4 : decode cX10_knot 4 = .ok (.iload_n 1, 1) := by decide +kernel
theorem dX10_knot_5 : decode cX10_knot 5 = .ok (.invokevirtual 113, 3) := by decide +kernel
theorem dX10_knot_8 : decode cX10_knot 8 = .ok (.astore_n 3, 1) := by decide +kernel
theorem dX10_knot_9 : decode cX10_knot 9 = .ok (.aload_n 3, 1) := by decide +kernel
theorem dX10_knot_10 : decode cX10_knot 10 = .ok (.ifnonnull 10, 3) := by decide +kernel
theorem dX10_knot_13 : decode cX10_knot 13 = .ok (.aload_n 0, 1) := by decide +kernel
theorem dX10_knot_14 : decode cX10_knot 14 = .ok (.iconst 1, 1) := by decide +kernel
theorem dX10_knot_15 : decode cX10_knot 15 = .ok (.iconst (-1), 1) := by decide +kernel
theorem dX10_knot_16 : decode cX10_knot 16 = .ok (.invokevirtual 83, 3) := by decide +kernel
theorem dX10_knot_19 : decode cX10_knot 19 = .ok (.ireturn, 1) := by decide +kernel
theorem dX10_knot_20 : decode cX10_knot 20 = .ok (.aload_n 0, 1) := by decide +kernel
theorem dX10_knot_21 : decode cX10_knot 21 = .ok (.aload_n 3, 1) := by decide +kernel
theorem dX10_knot_22 : decode cX10_knot 22 = .ok (.getfield 118, 3) := by decide +kernel
theorem dX10_knot_25 : decode cX10_knot 25 = .ok (.iload_n 2, 1) := by decide +kernel
theorem dX10_knot_26 : decode cX10_knot 26 = .ok (.invokestatic 238, 3) := by decide +kernel
theorem dX10_knot_29 : decode cX10_knot 29 = .ok (.invokevirtual 100, 3) := by decide +kernel
theorem dX10_knot_32 : decode cX10_knot 32 = .ok (.ireturn, 1) := by decide +kernel
theorem dX10_rings_0 : decode cX10_rings 0 = .ok (.aload_n 0, 1) := by decide +kernel
theorem dX10_rings_1 : decode cX10_rings 1 = .ok (.getfield 19, 3) := by decide +kernel
theorem dX10_rings_4 : decode cX10_rings 4 = .ok (.iload_n 1, 1) := by decide +kernel
theorem dX10_rings_5 : decode cX10_rings 5 = .ok (.invokevirtual 113, 3) := by decide +kernel
theorem dX10_rings_8 : decode cX10_rings 8 = .ok (.astore_n 3, 1) := by decide +kernel
theorem dX10_rings_9 : decode cX10_rings 9 = .ok (.aload_n 3, 1) := by decide +kernel
theorem dX10_rings_10 : decode cX10_rings 10 = .ok (.ifnonnull 10, 3) := by decide +kernel
theorem dX10_rings_13 : decode cX10_rings 13 = .ok (.aload_n 0, 1) := by decide +kernel
theorem dX10_rings_14 : decode cX10_rings 14 = .ok (.iconst 1, 1) := by decide +kernel
theorem dX10_rings_15 : decode cX10_rings 15 = .ok (.iconst (-1), 1) := by decide +kernel
theorem dX10_rings_16 : decode cX10_rings 16 = .ok (.invokevirtual 83, 3) := by decide +kernel
theorem dX10_rings_19 : decode cX10_rings 19 = .ok (.ireturn, 1) := by decide +kernel
theorem dX10_rings_20 : decode cX10_rings 20 = .ok (.aload_n 0, 1) := by decide +kernel
theorem dX10_rings_21 : decode cX10_rings 21 = .ok (.aload_n 3, 1) := by decide +kernel
theorem dX10_rings_22 : decode cX10_rings 22 = .ok (.getfield 118, 3) := by decide +kernel
theorem dX10_rings_25 : decode cX10_rings 25 = .ok (.iload_n 2, 1) := by decide +kernel
theorem dX10_rings_26 : decode cX10_rings 26 = .ok (.invokestatic 238, 3) := by decide +kernel
theorem dX10_rings_29 : decode cX10_rings 29 = .ok (.iconst 2, 1) := by decide +kernel
theorem dX10_rings_30 : decode cX10_rings 30 = .ok (.irem, 1) := by decide +kernel
theorem dX10_rings_31 : decode cX10_rings 31 = .ok (.ifCond .ne 7, 3) := by decide +kernel
theorem dX10_rings_34 : decode cX10_rings 34 = .ok (.iconst 2, 1) := by decide +kernel
theorem dX10_rings_35 : decode cX10_rings 35 = .ok (.goto 4, 3) := by decide +kernel
theorem dX10_rings_38 : decode cX10_rings 38 = .ok (.iconst 1, 1) := by decide +kernel
theorem dX10_rings_39 : decode cX10_rings 39 = .ok (.invokevirtual 100, 3) := by decide +kernel
theorem dX10_rings_42 : decode cX10_rings 42 = .ok (.ireturn, 1) := by decide +kernel
theorem dX10_colours_0 : decode cX10_colours 0 = .ok (.aload_n 0, 1) := by decide +kernel
theorem dX10_colours_1 : decode cX10_colours 1 = .ok (.getfield 19, 3) := by decide +kernel
theorem dX10_colours_4 : decode cX10_colours 4 = .ok (.iload_n 1, 1) := by decide +kernel
theorem dX10_colours_5 : decode cX10_colours 5 = .ok (.invokevirtual 113, 3) := by decide +kernel
theorem dX10_colours_8 : decode cX10_colours 8 = .ok (.astore 4, 2) := by decide +kernel
theorem dX10_colours_10 : decode cX10_colours 10 = .ok (.aload 4, 2) := by decide +kernel
theorem dX10_colours_12 : decode cX10_colours 12 = .ok (.ifnonnull 10, 3) := by decide +kernel
theorem dX10_colours_15 : decode cX10_colours 15 = .ok (.aload_n 0, 1) := by decide +kernel
theorem dX10_colours_16 : decode cX10_colours 16 = .ok (.iconst 1, 1) := by decide +kernel
theorem dX10_colours_17 : decode cX10_colours 17 = .ok (.iconst (-1), 1) := by decide +kernel
theorem dX10_colours_18 : decode cX10_colours 18 = .ok (.invokevirtual 83, 3) := by decide +kernel
theorem dX10_colours_21 : decode cX10_colours 21 = .ok (.ireturn, 1) := by decide +kernel
theorem dX10_colours_22 : decode cX10_colours 22 = .ok (.iload_n 3, 1) := by decide +kernel
theorem dX10_colours_23 : decode cX10_colours 23 = .ok (.iconst 2, 1) := by decide +kernel
theorem dX10_colours_24 : decode cX10_colours 24 = .ok (.if_icmp .lt 9, 3) := by decide +kernel
theorem dX10_colours_27 : decode cX10_colours 27 = .ok (.iload_n 3, 1) := by decide +kernel
theorem dX10_colours_28 : decode cX10_colours 28 = .ok (.bipush 99, 2) := by decide +kernel
theorem dX10_colours_30 : decode cX10_colours 30 = .ok (.if_icmp .le 10, 3) := by decide +kernel
theorem dX10_colours_33 : decode cX10_colours 33 = .ok (.aload_n 0, 1) := by decide +kernel
theorem dX10_colours_34 : decode cX10_colours 34 = .ok (.iconst 2, 1) := by decide +kernel
theorem dX10_colours_35 : decode cX10_colours 35 = .ok (.iconst (-1), 1) := by decide +kernel
theorem dX10_colours_36 : decode cX10_colours 36 = .ok (.invokevirtual 83, 3) := by decide +kernel
theorem dX10_colours_39 : decode cX10_colours 39 = .ok (.ireturn, 1) := by decide +kernel
theorem dX10_colours_40 : decode cX10_colours 40 = .ok (.aload 4, 2) := by decide +kernel
theorem dX10_colours_42 : decode cX10_colours 42 = .ok (.getfield 118, 3) := by decide +kernel
theorem dX10_colours_45 : decode cX10_colours 45 = .ok (.iload_n 2, 1) := by decide +kernel
theorem dX10_colours_46 : decode cX10_colours 46 = .ok (.invokestatic 238, 3) := by decide +kernel
theorem dX10_colours_49 : decode cX10_colours 49 = .ok (.istore 5, 2) := by decide +kernel
theorem dX10_colours_51 : decode cX10_colours 51 = .ok (.aload_n 0, 1) := by decide +kernel
theorem dX10_colours_52 : decode cX10_colours 52 = .ok (.iload_n 3, 1) := by decide +kernel
theorem dX10_colours_53 : decode cX10_colours 53 = .ok (.iload_n 3, 1) := by decide +kernel
theorem dX10_colours_54 : decode cX10_colours 54 = .ok (.i2l, 1) := by decide +kernel
theorem dX10_colours_55 : decode cX10_colours 55 = .ok (.iload 5, 2) := by decide +kernel
theorem dX10_colours_57 : decode cX10_colours 57 = .ok (.i2l, 1) := by decide +kernel
theorem dX10_colours_58 : decode cX10_colours 58 = .ok (.invokestatic 244, 3) := by decide +kernel
theorem dX10_colours_61 : decode cX10_colours 61 = .ok (.l2i, 1) := by decide +kernel
theorem dX10_colours_62 : decode cX10_colours 62 = .ok (.imul, 1) := by decide +kernel
theorem dX10_colours_63 : decode cX10_colours 63 = .ok (.invokevirtual 100, 3) := by decide +kernel
theorem dX10_colours_66 : decode cX10_colours 66 = .ok (.ireturn, 1) := by decide +kernel
theorem dX10_beside_0 : decode cX10_beside 0 = .ok (.aload_n 0, 1) := by decide +kernel
theorem dX10_beside_1 : decode cX10_beside 1 = .ok (.getfield 19, 3) := by decide +kernel
theorem dX10_beside_4 : decode cX10_beside 4 = .ok (.iload_n 1, 1) := by decide +kernel
theorem dX10_beside_5 : decode cX10_beside 5 = .ok (.invokevirtual 113, 3) := by decide +kernel
theorem dX10_beside_8 : decode cX10_beside 8 = .ok (.astore_n 3, 1) := by decide +kernel
theorem dX10_beside_9 : decode cX10_beside 9 = .ok (.aload_n 0, 1) := by decide +kernel
theorem dX10_beside_10 : decode cX10_beside 10 = .ok (.getfield 19, 3) := by decide +kernel
theorem dX10_beside_13 : decode cX10_beside 13 = .ok (.iload_n 2, 1) := by decide +kernel
theorem dX10_beside_14 : decode cX10_beside 14 = .ok (.invokevirtual 113, 3) := by decide +kernel
theorem dX10_beside_17 : decode cX10_beside 17 = .ok (.astore 4, 2) := by decide +kernel
theorem dX10_beside_19 : decode cX10_beside 19 = .ok (.aload_n 3, 1) := by decide +kernel
theorem dX10_beside_20 : decode cX10_beside 20 = .ok (.ifnull 8, 3) := by decide +kernel
theorem dX10_beside_23 : decode cX10_beside 23 = .ok (.aload 4, 2) := by decide +kernel
theorem dX10_beside_25 : decode cX10_beside 25 = .ok (.ifnonnull 10, 3) := by decide +kernel
theorem dX10_beside_28 : decode cX10_beside 28 = .ok (.aload_n 0, 1) := by decide +kernel
theorem dX10_beside_29 : decode cX10_beside 29 = .ok (.iconst 1, 1) := by decide +kernel
theorem dX10_beside_30 : decode cX10_beside 30 = .ok (.iconst (-1), 1) := by decide +kernel
theorem dX10_beside_31 : decode cX10_beside 31 = .ok (.invokevirtual 83, 3) := by decide +kernel
theorem dX10_beside_34 : decode cX10_beside 34 = .ok (.ireturn, 1) := by decide +kernel
theorem dX10_beside_35 : decode cX10_beside 35 = .ok (.aload_n 3, 1) := by decide +kernel
theorem dX10_beside_36 : decode cX10_beside 36 = .ok (.getfield 118, 3) := by decide +kernel
theorem dX10_beside_39 : decode cX10_beside 39 = .ok (.getfield 123, 3) := by decide +kernel
theorem dX10_beside_42 : decode cX10_beside 42 = .ok (.aload 4, 2) := by decide +kernel
theorem dX10_beside_44 : decode cX10_beside 44 = .ok (.getfield 118, 3) := by decide +kernel
theorem dX10_beside_47 : decode cX10_beside 47 = .ok (.getfield 126, 3) := by decide +kernel
theorem dX10_beside_50 : decode cX10_beside 50 = .ok (.imul, 1) := by decide +kernel
theorem dX10_beside_51 : decode cX10_beside 51 = .ok (.istore 5, 2) := by decide +kernel
theorem dX10_beside_53 : decode cX10_beside 53 = .ok (.aload 4, 2) := by decide +kernel
theorem dX10_beside_55 : decode cX10_beside 55 = .ok (.getfield 118, 3) := by decide +kernel
theorem dX10_beside_58 : decode cX10_beside 58 = .ok (.getfield 123, 3) := by decide +kernel
theorem dX10_beside_61 : decode cX10_beside 61 = .ok (.aload_n 3, 1) := by decide +kernel
theorem dX10_beside_62 : decode cX10_beside 62 = .ok (.getfield 118, 3) := by decide +kernel
theorem dX10_beside_65 : decode cX10_beside 65 = .ok (.getfield 126, 3) := by decide +kernel
theorem dX10_beside_68 : decode cX10_beside 68 = .ok (.imul, 1) := by decide +kernel
theorem dX10_beside_69 : decode cX10_beside 69 = .ok (.istore 6, 2) := by decide +kernel
theorem dX10_beside_71 : decode cX10_beside 71 = .ok (.aload_n 0, 1) := by decide +kernel
theorem dX10_beside_72 : decode cX10_beside 72 = .ok (.iload 5, 2) := by decide +kernel
theorem dX10_beside_74 : decode cX10_beside 74 = .ok (.iload 6, 2) := by decide +kernel
theorem dX10_beside_76 : decode cX10_beside 76 = .ok (.iadd, 1) := by decide +kernel
theorem dX10_beside_77 : decode cX10_beside 77 = .ok (.invokestatic 184, 3) := by decide +kernel
theorem dX10_beside_80 : decode cX10_beside 80 = .ok (.invokevirtual 100, 3) := by decide +kernel
theorem dX10_beside_83 : decode cX10_beside 83 = .ok (.ireturn, 1) := by decide +kernel
theorem dX10_alike_0 : decode cX10_alike 0 = .ok (.aload_n 0, 1) := by decide +kernel
theorem dX10_alike_1 : decode cX10_alike 1 = .ok (.iload_n 1, 1) := by decide +kernel
theorem dX10_alike_2 : decode cX10_alike 2 = .ok (.iload_n 2, 1) := by decide +kernel
theorem dX10_alike_3 : decode cX10_alike 3 = .ok (.iconst 1, 1) := by decide +kernel
theorem dX10_alike_4 : decode cX10_alike 4 = .ok (.invokevirtual 248, 3) := by decide +kernel
theorem dX10_alike_7 : decode cX10_alike 7 = .ok (.ireturn, 1) := by decide +kernel
theorem dX10_mirrored_0 : decode cX10_mirrored 0 = .ok (.aload_n 0, 1) := by decide +kernel
theorem dX10_mirrored_1 : decode cX10_mirrored 1 = .ok (.iload_n 1, 1) := by decide +kernel
theorem dX10_mirrored_2 : decode cX10_mirrored 2 = .ok (.iload_n 2, 1) := by decide +kernel
theorem dX10_mirrored_3 : decode cX10_mirrored 3 = .ok (.iconst (-1), 1) := by decide +kernel
theorem dX10_mirrored_4 : decode cX10_mirrored 4 = .ok (.invokevirtual 248, 3) := by decide +kernel
theorem dX10_mirrored_7 : decode cX10_mirrored 7 = .ok (.ireturn, 1) := by decide +kernel
theorem dX10_kinds_0 : decode cX10_kinds 0 = .ok (.aload_n 0, 1) := by decide +kernel
theorem dX10_kinds_1 : decode cX10_kinds 1 = .ok (.iload_n 1, 1) := by decide +kernel
theorem dX10_kinds_2 : decode cX10_kinds 2 = .ok (.iconst 1, 1) := by decide +kernel
theorem dX10_kinds_3 : decode cX10_kinds 3 = .ok (.sipush 200, 3) := by decide +kernel
theorem dX10_kinds_6 : decode cX10_kinds 6 = .ok (.invokevirtual 221, 3) := by decide +kernel
theorem dX10_kinds_9 : decode cX10_kinds 9 = .ok (.istore_n 3, 1) := by decide +kernel
theorem dX10_kinds_10 : decode cX10_kinds 10 = .ok (.iload_n 3, 1) := by decide +kernel
theorem dX10_kinds_11 : decode cX10_kinds 11 = .ok (.ifCond .ne 15, 3) := by decide +kernel
theorem dX10_kinds_14 : decode cX10_kinds 14 = .ok (.aload_n 0, 1) := by decide +kernel
theorem dX10_kinds_15 : decode cX10_kinds 15 = .ok (.iload_n 1, 1) := by decide +kernel
theorem dX10_kinds_16 : decode cX10_kinds 16 = .ok (.iload_n 2, 1) := by decide +kernel
theorem dX10_kinds_17 : decode cX10_kinds 17 = .ok (.invokestatic 251, 3) := by decide +kernel
theorem dX10_kinds_20 : decode cX10_kinds 20 = .ok (.invokevirtual 100, 3) := by decide +kernel
theorem dX10_kinds_23 : decode cX10_kinds 23 = .ok (.goto 9, 3) := by decide +kernel
theorem dX10_kinds_26 : decode cX10_kinds 26 = .ok (.aload_n 0, 1) := by decide +kernel
theorem dX10_kinds_27 : decode cX10_kinds 27 = .ok (.iload_n 3, 1) := by decide +kernel
theorem dX10_kinds_28 : decode cX10_kinds 28 = .ok (.iconst (-1), 1) := by decide +kernel
theorem dX10_kinds_29 : decode cX10_kinds 29 = .ok (.invokevirtual 83, 3) := by decide +kernel
theorem dX10_kinds_32 : decode cX10_kinds 32 = .ok (.ireturn, 1) := by decide +kernel
theorem dX10_fits_0 : decode cX10_fits 0 = .ok (.aload_n 0, 1) := by decide +kernel
theorem dX10_fits_1 : decode cX10_fits 1 = .ok (.invokevirtual 255, 3) := by decide +kernel
theorem dX10_fits_4 : decode cX10_fits 4 = .ok (.ifCond .ne 10, 3) := by decide +kernel
theorem dX10_fits_7 : decode cX10_fits 7 = .ok (.aload_n 0, 1) := by decide +kernel
theorem dX10_fits_8 : decode cX10_fits 8 = .ok (.iconst 1, 1) := by decide +kernel
theorem dX10_fits_9 : decode cX10_fits 9 = .ok (.iconst (-1), 1) := by decide +kernel
theorem dX10_fits_10 : decode cX10_fits 10 = .ok (.invokevirtual 83, 3) := by decide +kernel
theorem dX10_fits_13 : decode cX10_fits 13 = .ok (.ireturn, 1) := by decide +kernel
theorem dX10_fits_14 : decode cX10_fits 14 = .ok (.aload_n 0, 1) := by decide +kernel
theorem dX10_fits_15 : decode cX10_fits 15 = .ok (.aload_n 0, 1) := by decide +kernel
theorem dX10_fits_16 : decode cX10_fits 16 = .ok (.getfield 19, 3) := by decide +kernel
theorem dX10_fits_19 : decode cX10_fits 19 = .ok (.aload_n 0, 1) := by decide +kernel
theorem dX10_fits_20 : decode cX10_fits 20 = .ok (.getfield 36, 3) := by decide +kernel
theorem dX10_fits_23 : decode cX10_fits 23 = .ok (.invokevirtual 258, 3) := by decide +kernel
theorem dX10_fits_26 : decode cX10_fits 26 = .ok (.invokestatic 262, 3) := by decide +kernel
theorem dX10_fits_29 : decode cX10_fits 29 = .ok (.invokevirtual 100, 3) := by decide +kernel
theorem dX10_fits_32 : decode cX10_fits 32 = .ok (.ireturn, 1) := by decide +kernel
theorem dX10_fitAt_0 : decode cX10_fitAt 0 = .ok (.aload_n 0, 1) := by decide +kernel
theorem dX10_fitAt_1 : decode cX10_fitAt 1 = .ok (.invokevirtual 255, 3) := by decide +kernel
theorem dX10_fitAt_4 : decode cX10_fitAt 4 = .ok (.ifCond .eq 7, 3) := by decide +kernel
theorem dX10_fitAt_7 : decode cX10_fitAt 7 = .ok (.iload_n 1, 1) := by decide +kernel
theorem dX10_fitAt_8 : decode cX10_fitAt 8 = .ok (.ifCond .ge 10, 3) := by decide +kernel
theorem dX10_fitAt_11 : decode cX10_fitAt 11 = .ok (.aload_n 0, 1) := by decide +kernel
theorem dX10_fitAt_12 : decode cX10_fitAt 12 = .ok (.iconst 1, 1) := by decide +kernel
theorem dX10_fitAt_13 : decode cX10_fitAt 13 = .ok (.iconst (-1), 1) := by decide +kernel
theorem dX10_fitAt_14 : decode cX10_fitAt 14 = .ok (.invokevirtual 83, 3) := by decide +kernel
theorem dX10_fitAt_17 : decode cX10_fitAt 17 = .ok (.ireturn, 1) := by decide +kernel
theorem dX10_fitAt_18 : decode cX10_fitAt 18 = .ok (.aload_n 0, 1) := by decide +kernel
theorem dX10_fitAt_19 : decode cX10_fitAt 19 = .ok (.getfield 19, 3) := by decide +kernel
theorem dX10_fitAt_22 : decode cX10_fitAt 22 = .ok (.aload_n 0, 1) := by decide +kernel
theorem dX10_fitAt_23 : decode cX10_fitAt 23 = .ok (.getfield 36, 3) := by decide +kernel
theorem dX10_fitAt_26 : decode cX10_fitAt 26 = .ok (.invokevirtual 258, 3) := by decide +kernel
theorem dX10_fitAt_29 : decode cX10_fitAt 29 = .ok (.istore_n 2, 1) := by decide +kernel
theorem dX10_fitAt_30 : decode cX10_fitAt 30 = .ok (.iconst 0, 1) := by decide +kernel
theorem dX10_fitAt_31 : decode cX10_fitAt 31 = .ok (.istore_n 3, 1) := by decide +kernel
theorem dX10_fitAt_32 : decode cX10_fitAt 32 = .ok (.iconst 0, 1) := by decide +kernel
theorem dX10_fitAt_33 : decode cX10_fitAt 33 = .ok (.istore 4, 2) := by decide +kernel
theorem dX10_fitAt_35 : decode cX10_fitAt 35 = .ok (.iload 4, 2) := by decide +kernel
theorem dX10_fitAt_37 : decode cX10_fitAt 37 = .ok (.aload_n 0, 1) := by decide +kernel
theorem dX10_fitAt_38 : decode cX10_fitAt 38 = .ok (.getfield 19, 3) := by decide +kernel
theorem dX10_fitAt_41 : decode cX10_fitAt 41 = .ok (.invokevirtual 267, 3) := by decide +kernel
theorem dX10_fitAt_44 : decode cX10_fitAt 44 = .ok (.if_icmp .ge 36, 3) := by decide +kernel
theorem dX10_fitAt_47 : decode cX10_fitAt 47 = .ok (.iload_n 2, 1) := by decide +kernel
theorem dX10_fitAt_48 : decode cX10_fitAt 48 = .ok (.iload 4, 2) := by decide +kernel
theorem dX10_fitAt_50 : decode cX10_fitAt 50 = .ok (.invokestatic 270, 3) := by decide +kernel
theorem dX10_fitAt_53 : decode cX10_fitAt 53 = .ok (.ifCond .ne 6, 3) := by decide +kernel
theorem dX10_fitAt_56 : decode cX10_fitAt 56 = .ok (.goto 18, 3) := by decide +kernel
theorem dX10_fitAt_59 : decode cX10_fitAt 59 = .ok (.iload_n 3, 1) := by decide +kernel
theorem dX10_fitAt_60 : decode cX10_fitAt 60 = .ok (.iload_n 1, 1) := by decide +kernel
theorem dX10_fitAt_61 : decode cX10_fitAt 61 = .ok (.if_icmp .ne 10, 3) := by decide +kernel
theorem dX10_fitAt_64 : decode cX10_fitAt 64 = .ok (.aload_n 0, 1) := by decide +kernel
theorem dX10_fitAt_65 : decode cX10_fitAt 65 = .ok (.iload 4, 2) := by decide +kernel
theorem dX10_fitAt_67 : decode cX10_fitAt 67 = .ok (.invokevirtual 100, 3) := by decide +kernel
theorem dX10_fitAt_70 : decode cX10_fitAt 70 = .ok (.ireturn, 1) := by decide +kernel
theorem dX10_fitAt_71 : decode cX10_fitAt 71 = .ok (.iinc 3 1, 3) := by decide +kernel
theorem dX10_fitAt_74 : decode cX10_fitAt 74 = .ok (.iinc 4 1, 3) := by decide +kernel
theorem dX10_fitAt_77 : decode cX10_fitAt 77 = .ok (.goto (-42), 3) := by decide +kernel
theorem dX10_fitAt_80 : decode cX10_fitAt 80 = .ok (.aload_n 0, 1) := by decide +kernel
theorem dX10_fitAt_81 : decode cX10_fitAt 81 = .ok (.iconst 1, 1) := by decide +kernel
theorem dX10_fitAt_82 : decode cX10_fitAt 82 = .ok (.iconst (-1), 1) := by decide +kernel
theorem dX10_fitAt_83 : decode cX10_fitAt 83 = .ok (.invokevirtual 83, 3) := by decide +kernel
theorem dX10_fitAt_86 : decode cX10_fitAt 86 = .ok (.ireturn, 1) := by decide +kernel
theorem dX10_could_0 : decode cX10_could 0 = .ok (.aload_n 0, 1) := by decide +kernel
theorem dX10_could_1 : decode cX10_could 1 = .ok (.invokevirtual 255, 3) := by decide +kernel
theorem dX10_could_4 : decode cX10_could 4 = .ok (.ifCond .ne 10, 3) := by decide +kernel
theorem dX10_could_7 : decode cX10_could 7 = .ok (.aload_n 0, 1) := by decide +kernel
theorem dX10_could_8 : decode cX10_could 8 = .ok (.iconst 1, 1) := by decide +kernel
theorem dX10_could_9 : decode cX10_could 9 = .ok (.iconst (-1), 1) := by decide +kernel
theorem dX10_could_10 : decode cX10_could 10 = .ok (.invokevirtual 83, 3) := by decide +kernel
theorem dX10_could_13 : decode cX10_could 13 = .ok (.ireturn, 1) := by decide +kernel
theorem dX10_could_14 : decode cX10_could 14 = .ok (.aload_n 0, 1) := by decide +kernel
theorem dX10_could_15 : decode cX10_could 15 = .ok (.getfield 19, 3) := by decide +kernel
theorem dX10_could_18 : decode cX10_could 18 = .ok (.aload_n 0, 1) := by decide +kernel
theorem dX10_could_19 : decode cX10_could 19 = .ok (.getfield 36, 3) := by decide +kernel
theorem dX10_could_22 : decode cX10_could 22 = .ok (.invokevirtual 258, 3) := by decide +kernel
theorem dX10_could_25 : decode cX10_could 25 = .ok (.istore_n 1, 1) := by decide +kernel
theorem dX10_could_26 : decode cX10_could 26 = .ok (.iconst 0, 1) := by decide +kernel
theorem dX10_could_27 : decode cX10_could 27 = .ok (.istore_n 2, 1) := by decide +kernel
theorem dX10_could_28 : decode cX10_could 28 = .ok (.iconst 0, 1) := by decide +kernel
theorem dX10_could_29 : decode cX10_could 29 = .ok (.istore_n 3, 1) := by decide +kernel
theorem dX10_could_30 : decode cX10_could 30 = .ok (.iload_n 3, 1) := by decide +kernel
theorem dX10_could_31 : decode cX10_could 31 = .ok (.aload_n 0, 1) := by decide +kernel
theorem dX10_could_32 : decode cX10_could 32 = .ok (.getfield 19, 3) := by decide +kernel
theorem dX10_could_35 : decode cX10_could 35 = .ok (.invokevirtual 267, 3) := by decide +kernel
theorem dX10_could_38 : decode cX10_could 38 = .ok (.if_icmp .ge 21, 3) := by decide +kernel
theorem dX10_could_41 : decode cX10_could 41 = .ok (.iload_n 1, 1) := by decide +kernel
theorem dX10_could_42 : decode cX10_could 42 = .ok (.iload_n 3, 1) := by decide +kernel
theorem dX10_could_43 : decode cX10_could 43 = .ok (.invokestatic 270, 3) := by decide +kernel
theorem dX10_could_46 : decode cX10_could 46 = .ok (.ifCond .eq 7, 3) := by decide +kernel
theorem dX10_could_49 : decode cX10_could 49 = .ok (.iload_n 2, 1) := by decide +kernel
theorem dX10_could_50 : decode cX10_could 50 = .ok (.iload_n 3, 1) := by decide +kernel
theorem dX10_could_51 : decode cX10_could 51 = .ok (.ior, 1) := by decide +kernel
theorem dX10_could_52 : decode cX10_could 52 = .ok (.istore_n 2, 1) := by decide +kernel
theorem dX10_could_53 : decode cX10_could 53 = .ok (.iinc 3 1, 3) := by decide +kernel
theorem dX10_could_56 : decode cX10_could 56 = .ok (.goto (-26), 3) := by decide +kernel
theorem dX10_could_59 : decode cX10_could 59 = .ok (.aload_n 0, 1) := by decide +kernel
theorem dX10_could_60 : decode cX10_could 60 = .ok (.iload_n 2, 1) := by decide +kernel
theorem dX10_could_61 : decode cX10_could 61 = .ok (.invokevirtual 100, 3) := by decide +kernel
theorem dX10_could_64 : decode cX10_could 64 = .ok (.ireturn, 1) := by decide +kernel
theorem dX10_surely_0 : decode cX10_surely 0 = .ok (.aload_n 0, 1) := by decide +kernel
theorem dX10_surely_1 : decode cX10_surely 1 = .ok (.invokevirtual 255, 3) := by decide +kernel
theorem dX10_surely_4 : decode cX10_surely 4 = .ok (.ifCond .ne 10, 3) := by decide +kernel
theorem dX10_surely_7 : decode cX10_surely 7 = .ok (.aload_n 0, 1) := by decide +kernel
theorem dX10_surely_8 : decode cX10_surely 8 = .ok (.iconst 1, 1) := by decide +kernel
theorem dX10_surely_9 : decode cX10_surely 9 = .ok (.iconst (-1), 1) := by decide +kernel
theorem dX10_surely_10 : decode cX10_surely 10 = .ok (.invokevirtual 83, 3) := by decide +kernel
theorem dX10_surely_13 : decode cX10_surely 13 = .ok (.ireturn, 1) := by decide +kernel
theorem dX10_surely_14 : decode cX10_surely 14 = .ok (.aload_n 0, 1) := by decide +kernel
theorem dX10_surely_15 : decode cX10_surely 15 = .ok (.getfield 19, 3) := by decide +kernel
theorem dX10_surely_18 : decode cX10_surely 18 = .ok (.aload_n 0, 1) := by decide +kernel
theorem dX10_surely_19 : decode cX10_surely 19 = .ok (.getfield 36, 3) := by decide +kernel
theorem dX10_surely_22 : decode cX10_surely 22 = .ok (.invokevirtual 258, 3) := by decide +kernel
theorem dX10_surely_25 : decode cX10_surely 25 = .ok (.istore_n 1, 1) := by decide +kernel
theorem dX10_surely_26 : decode cX10_surely 26 = .ok (.iload_n 1, 1) := by decide +kernel
theorem dX10_surely_27 : decode cX10_surely 27 = .ok (.ifCond .ne 9, 3) := by decide +kernel
theorem dX10_surely_30 : decode cX10_surely 30 = .ok (.aload_n 0, 1) := by decide +kernel
theorem dX10_surely_31 : decode cX10_surely 31 = .ok (.iconst 0, 1) := by decide +kernel
theorem dX10_surely_32 : decode cX10_surely 32 = .ok (.invokevirtual 100, 3) := by decide +kernel
theorem dX10_surely_35 : decode cX10_surely 35 = .ok (.ireturn, 1) := by decide +kernel
theorem dX10_surely_36 : decode cX10_surely 36 = .ok (.aload_n 0, 1) := by decide +kernel
theorem dX10_surely_37 : decode cX10_surely 37 = .ok (.getfield 19, 3) := by decide +kernel
theorem dX10_surely_40 : decode cX10_surely 40 = .ok (.invokevirtual 267, 3) := by decide +kernel
theorem dX10_surely_43 : decode cX10_surely 43 = .ok (.iconst 1, 1) := by decide +kernel
theorem dX10_surely_44 : decode cX10_surely 44 = .ok (.isub, 1) := by decide +kernel
theorem dX10_surely_45 : decode cX10_surely 45 = .ok (.istore_n 2, 1) := by decide +kernel
theorem dX10_surely_46 : decode cX10_surely 46 = .ok (.iconst 0, 1) := by decide +kernel
theorem dX10_surely_47 : decode cX10_surely 47 = .ok (.istore_n 3, 1) := by decide +kernel
theorem dX10_surely_48 : decode cX10_surely 48 = .ok (.iload_n 3, 1) := by decide +kernel
theorem dX10_surely_49 : decode cX10_surely 49 = .ok (.aload_n 0, 1) := by decide +kernel
theorem dX10_surely_50 : decode cX10_surely 50 = .ok (.getfield 19, 3) := by decide +kernel
theorem dX10_surely_53 : decode cX10_surely 53 = .ok (.invokevirtual 267, 3) := by decide +kernel
theorem dX10_surely_56 : decode cX10_surely 56 = .ok (.if_icmp .ge 21, 3) := by decide +kernel
theorem dX10_surely_59 : decode cX10_surely 59 = .ok (.iload_n 1, 1) := by decide +kernel
theorem dX10_surely_60 : decode cX10_surely 60 = .ok (.iload_n 3, 1) := by decide +kernel
theorem dX10_surely_61 : decode cX10_surely 61 = .ok (.invokestatic 270, 3) := by decide +kernel
theorem dX10_surely_64 : decode cX10_surely 64 = .ok (.ifCond .eq 7, 3) := by decide +kernel
theorem dX10_surely_67 : decode cX10_surely 67 = .ok (.iload_n 2, 1) := by decide +kernel
theorem dX10_surely_68 : decode cX10_surely 68 = .ok (.iload_n 3, 1) := by decide +kernel
theorem dX10_surely_69 : decode cX10_surely 69 = .ok (.iand, 1) := by decide +kernel
theorem dX10_surely_70 : decode cX10_surely 70 = .ok (.istore_n 2, 1) := by decide +kernel
theorem dX10_surely_71 : decode cX10_surely 71 = .ok (.iinc 3 1, 3) := by decide +kernel
theorem dX10_surely_74 : decode cX10_surely 74 = .ok (.goto (-26), 3) := by decide +kernel
theorem dX10_surely_77 : decode cX10_surely 77 = .ok (.aload_n 0, 1) := by decide +kernel
theorem dX10_surely_78 : decode cX10_surely 78 = .ok (.iload_n 2, 1) := by decide +kernel
theorem dX10_surely_79 : decode cX10_surely 79 = .ok (.invokevirtual 100, 3) := by decide +kernel
theorem dX10_surely_82 : decode cX10_surely 82 = .ok (.ireturn, 1) := by decide +kernel
theorem dX10_ask_0 : decode cX10_ask 0 = .ok (.aload_n 0, 1) := by decide +kernel
theorem dX10_ask_1 : decode cX10_ask 1 = .ok (.invokevirtual 255, 3) := by decide +kernel
theorem dX10_ask_4 : decode cX10_ask 4 = .ok (.ifCond .ne 10, 3) := by decide +kernel
theorem dX10_ask_7 : decode cX10_ask 7 = .ok (.aload_n 0, 1) := by decide +kernel
theorem dX10_ask_8 : decode cX10_ask 8 = .ok (.iconst 1, 1) := by decide +kernel
theorem dX10_ask_9 : decode cX10_ask 9 = .ok (.iconst (-1), 1) := by decide +kernel
theorem dX10_ask_10 : decode cX10_ask 10 = .ok (.invokevirtual 83, 3) := by decide +kernel
theorem dX10_ask_13 : decode cX10_ask 13 = .ok (.ireturn, 1) := by decide +kernel
theorem dX10_ask_14 : decode cX10_ask 14 = .ok (.aload_n 0, 1) := by decide +kernel
theorem dX10_ask_15 : decode cX10_ask 15 = .ok (.aload_n 0, 1) := by decide +kernel
theorem dX10_ask_16 : decode cX10_ask 16 = .ok (.getfield 19, 3) := by decide +kernel
theorem dX10_ask_19 : decode cX10_ask 19 = .ok (.aload_n 0, 1) := by decide +kernel
theorem dX10_ask_20 : decode cX10_ask 20 = .ok (.getfield 19, 3) := by decide +kernel
theorem dX10_ask_23 : decode cX10_ask 23 = .ok (.aload_n 0, 1) := by decide +kernel
theorem dX10_ask_24 : decode cX10_ask 24 = .ok (.getfield 36, 3) := by decide +kernel
theorem dX10_ask_27 : decode cX10_ask 27 = .ok (.invokevirtual 258, 3) := by decide +kernel
theorem dX10_ask_30 : decode cX10_ask 30 = .ok (.invokevirtual 273, 3) := by decide +kernel
theorem dX10_ask_33 : decode cX10_ask 33 = .ok (.invokevirtual 100, 3) := by decide +kernel
theorem dX10_ask_36 : decode cX10_ask 36 = .ok (.ireturn, 1) := by decide +kernel
theorem dX10_askLeaves_0 : decode cX10_askLeaves 0 = .ok (.aload_n 0, 1) := by decide +kernel
theorem dX10_askLeaves_1 : decode cX10_askLeaves 1 = .ok (.invokevirtual 255, 3) := by decide +kernel
theorem dX10_askLeaves_4 : decode cX10_askLeaves 4 = .ok (.ifCond .ne 10, 3) := by decide +kernel
theorem dX10_askLeaves_7 : decode cX10_askLeaves 7 = .ok (.aload_n 0, 1) := by decide +kernel
theorem dX10_askLeaves_8 : decode cX10_askLeaves 8 = .ok (.iconst 1, 1) := by decide +kernel
theorem dX10_askLeaves_9 : decode cX10_askLeaves 9 = .ok (.iconst (-1), 1) := by decide +kernel
theorem dX10_askLeaves_10 : decode cX10_askLeaves 10 = .ok (.invokevirtual 83, 3) := by decide +kernel
theorem dX10_askLeaves_13 : decode cX10_askLeaves 13 = .ok (.ireturn, 1) := by decide +kernel
theorem dX10_askLeaves_14 : decode cX10_askLeaves 14 = .ok (.aload_n 0, 1) := by decide +kernel
theorem dX10_askLeaves_15 : decode cX10_askLeaves 15 = .ok (.getfield 19, 3) := by decide +kernel
theorem dX10_askLeaves_18 : decode cX10_askLeaves 18 = .ok (.aload_n 0, 1) := by decide +kernel
theorem dX10_askLeaves_19 : decode cX10_askLeaves 19 = .ok (.getfield 36, 3) := by decide +kernel
theorem dX10_askLeaves_22 : decode cX10_askLeaves 22 = .ok (.invokevirtual 258, 3) := by decide +kernel
theorem dX10_askLeaves_25 : decode cX10_askLeaves 25 = .ok (.istore_n 1, 1) := by decide +kernel
theorem dX10_askLeaves_26 : decode cX10_askLeaves 26 = .ok (.aload_n 0, 1) := by decide +kernel
theorem dX10_askLeaves_27 : decode cX10_askLeaves 27 = .ok (.getfield 19, 3) := by decide +kernel
theorem dX10_askLeaves_30 : decode cX10_askLeaves 30 = .ok (.iload_n 1, 1) := by decide +kernel
theorem dX10_askLeaves_31 : decode cX10_askLeaves 31 = .ok (.invokevirtual 273, 3) := by decide +kernel
theorem dX10_askLeaves_34 : decode cX10_askLeaves 34 = .ok (.istore_n 2, 1) := by decide +kernel
theorem dX10_askLeaves_35 : decode cX10_askLeaves 35 = .ok (.aload_n 0, 1) := by decide +kernel
theorem dX10_askLeaves_36 : decode cX10_askLeaves 36 = .ok (.iload_n 2, 1) := by decide +kernel
theorem dX10_askLeaves_37 : decode cX10_askLeaves 37 = .ok (.bipush (-2), 2) := by decide +kernel
theorem dX10_askLeaves_39 : decode cX10_askLeaves 39 = .ok (.if_icmp .ne 8, 3) := by decide +kernel
theorem dX10_askLeaves_42 : decode cX10_askLeaves 42 = .ok (.bipush (-2), 2) := by decide +kernel
theorem dX10_askLeaves_44 : decode cX10_askLeaves 44 = .ok (.goto 12, 3) := by decide +kernel
theorem dX10_askLeaves_47 : decode cX10_askLeaves 47 = .ok (.aload_n 0, 1) := by decide +kernel
theorem dX10_askLeaves_48 : decode cX10_askLeaves 48 = .ok (.getfield 19, 3) := by decide +kernel
theorem dX10_askLeaves_51 : decode cX10_askLeaves 51 = .ok (.iload_n 1, 1) := by decide +kernel
theorem dX10_askLeaves_52 : decode cX10_askLeaves 52 = .ok (.iload_n 2, 1) := by decide +kernel
theorem dX10_askLeaves_53 : decode cX10_askLeaves 53 = .ok (.invokevirtual 276, 3) := by decide +kernel
theorem dX10_askLeaves_56 : decode cX10_askLeaves 56 = .ok (.invokevirtual 100, 3) := by decide +kernel
theorem dX10_askLeaves_59 : decode cX10_askLeaves 59 = .ok (.ireturn, 1) := by decide +kernel
theorem dX10_judge_0 : decode cX10_judge 0 = .ok (.aload_n 0, 1) := by decide +kernel
theorem dX10_judge_1 : decode cX10_judge 1 = .ok (.invokevirtual 255, 3) := by decide +kernel
theorem dX10_judge_4 : decode cX10_judge 4 = .ok (.ifCond .ne 10, 3) := by decide +kernel
theorem dX10_judge_7 : decode cX10_judge 7 = .ok (.aload_n 0, 1) := by decide +kernel
theorem dX10_judge_8 : decode cX10_judge 8 = .ok (.iconst 1, 1) := by decide +kernel
theorem dX10_judge_9 : decode cX10_judge 9 = .ok (.iconst (-1), 1) := by decide +kernel
theorem dX10_judge_10 : decode cX10_judge 10 = .ok (.invokevirtual 83, 3) := by decide +kernel
theorem dX10_judge_13 : decode cX10_judge 13 = .ok (.ireturn, 1) := by decide +kernel
theorem dX10_judge_14 : decode cX10_judge 14 = .ok (.iconst 0, 1) := by decide +kernel
theorem dX10_judge_15 : decode cX10_judge 15 = .ok (.istore_n 1, 1) := by decide +kernel
theorem dX10_judge_16 : decode cX10_judge 16 = .ok (.iload_n 1, 1) := by decide +kernel
theorem dX10_judge_17 : decode cX10_judge 17 = .ok (.aload_n 0, 1) := by decide +kernel
theorem dX10_judge_18 : decode cX10_judge 18 = .ok (.getfield 19, 3) := by decide +kernel
theorem dX10_judge_21 : decode cX10_judge 21 = .ok (.getfield 279, 3) := by decide +kernel
theorem dX10_judge_24 : decode cX10_judge 24 = .ok (.if_icmp .ge 31, 3) := by decide +kernel
theorem dX10_judge_27 : decode cX10_judge 27 = .ok (.aload_n 0, 1) := by decide +kernel
theorem dX10_judge_28 : decode cX10_judge 28 = .ok (.getfield 19, 3) := by decide +kernel
theorem dX10_judge_31 : decode cX10_judge 31 = .ok (.iload_n 1, 1) := by decide +kernel
theorem dX10_judge_32 : decode cX10_judge 32 = .ok (.iconst 0, 1) := by decide +kernel
theorem dX10_judge_33 : decode cX10_judge 33 = .ok (.aload_n 0, 1) := by decide +kernel
theorem dX10_judge_34 : decode cX10_judge 34 = .ok (.getfield 36, 3) := by decide +kernel
theorem dX10_judge_37 : decode cX10_judge 37 = .ok (.invokevirtual 282, 3) := by decide +kernel
theorem dX10_judge_40 : decode cX10_judge 40 = .ok (.ifCond .ne 9, 3) := by decide +kernel
theorem dX10_judge_43 : decode cX10_judge 43 = .ok (.aload_n 0, 1) := by decide +kernel
theorem dX10_judge_44 : decode cX10_judge 44 = .ok (.iload_n 1, 1) := by decide +kernel
theorem dX10_judge_45 : decode cX10_judge 45 = .ok (.invokevirtual 100, 3) := by decide +kernel
theorem dX10_judge_48 : decode cX10_judge 48 = .ok (.ireturn, 1) := by decide +kernel
theorem dX10_judge_49 : decode cX10_judge 49 = .ok (.iinc 1 1, 3) := by decide +kernel
theorem dX10_judge_52 : decode cX10_judge 52 = .ok (.goto (-36), 3) := by decide +kernel
theorem dX10_judge_55 : decode cX10_judge 55 = .ok (.aload_n 0, 1) := by decide +kernel
theorem dX10_judge_56 : decode cX10_judge 56 = .ok (.bipush (-2), 2) := by decide +kernel
theorem dX10_judge_58 : decode cX10_judge 58 = .ok (.invokevirtual 100, 3) := by decide +kernel
theorem dX10_judge_61 : decode cX10_judge 61 = .ok (.ireturn, 1) := by decide +kernel
theorem dX10_callers_0 : decode cX10_callers 0 = .ok (.aload_n 0, 1) := by decide +kernel
theorem dX10_callers_1 : decode cX10_callers 1 = .ok (.iload_n 1, 1) := by decide +kernel
theorem dX10_callers_2 : decode cX10_callers 2 = .ok (.iload_n 2, 1) := by decide +kernel
theorem dX10_callers_3 : decode cX10_callers 3 = .ok (.invokevirtual 286, 3) := by decide +kernel
theorem dX10_callers_6 : decode cX10_callers 6 = .ok (.istore_n 3, 1) := by decide +kernel
theorem dX10_callers_7 : decode cX10_callers 7 = .ok (.iload_n 3, 1) := by decide +kernel
theorem dX10_callers_8 : decode cX10_callers 8 = .ok (.ifCond .eq 10, 3) := by decide +kernel
theorem dX10_callers_11 : decode cX10_callers 11 = .ok (.aload_n 0, 1) := by decide +kernel
theorem dX10_callers_12 : decode cX10_callers 12 = .ok (.iload_n 3, 1) := by decide +kernel
theorem dX10_callers_13 : decode cX10_callers 13 = .ok (.iconst (-1), 1) := by decide +kernel
theorem dX10_callers_14 : decode cX10_callers 14 = .ok (.invokevirtual 83, 3) := by decide +kernel
theorem dX10_callers_17 : decode cX10_callers 17 = .ok (.ireturn, 1) := by decide +kernel
theorem dX10_callers_18 : decode cX10_callers 18 = .ok (.aload_n 0, 1) := by decide +kernel
theorem dX10_callers_19 : decode cX10_callers 19 = .ok (.getfield 36, 3) := by decide +kernel
theorem dX10_callers_22 : decode cX10_callers 22 = .ok (.getfield 123, 3) := by decide +kernel
theorem dX10_callers_25 : decode cX10_callers 25 = .ok (.aload_n 0, 1) := by decide +kernel
theorem dX10_callers_26 : decode cX10_callers 26 = .ok (.getfield 36, 3) := by decide +kernel
theorem dX10_callers_29 : decode cX10_callers 29 = .ok (.getfield 126, 3) := by decide +kernel
theorem dX10_callers_32 : decode cX10_callers 32 = .ok (.iload_n 2, 1) := by decide +kernel
theorem dX10_callers_33 : decode cX10_callers 33 = .ok (.invokestatic 289, 3) := by decide +kernel
theorem dX10_callers_36 : decode cX10_callers 36 = .ok (.istore 4, 2) := by decide +kernel
theorem dX10_callers_38 : decode cX10_callers 38 = .ok (.iload 4, 2) := by decide +kernel
theorem dX10_callers_40 : decode cX10_callers 40 = .ok (.iconst 1, 1) := by decide +kernel
theorem dX10_callers_41 : decode cX10_callers 41 = .ok (.if_icmp .ne 9, 3) := by decide +kernel
theorem dX10_callers_44 : decode cX10_callers 44 = .ok (.aload_n 0, 1) := by decide +kernel
theorem dX10_callers_45 : decode cX10_callers 45 = .ok (.iconst 1, 1) := by decide +kernel
theorem dX10_callers_46 : decode cX10_callers 46 = .ok (.invokevirtual 100, 3) := by decide +kernel
theorem dX10_callers_49 : decode cX10_callers 49 = .ok (.ireturn, 1) := by decide +kernel
theorem dX10_callers_50 : decode cX10_callers 50 = .ok (.aload_n 0, 1) := by decide +kernel
theorem dX10_callers_51 : decode cX10_callers 51 = .ok (.iload 4, 2) := by decide +kernel
theorem dX10_callers_53 : decode cX10_callers 53 = .ok (.iconst (-1), 1) := by decide +kernel
theorem dX10_callers_54 : decode cX10_callers 54 = .ok (.if_icmp .ne 7, 3) := by decide +kernel
theorem dX10_callers_57 : decode cX10_callers 57 = .ok (.iconst 2, 1) := by decide +kernel
theorem dX10_callers_58 : decode cX10_callers 58 = .ok (.goto 4, 3) := by decide +kernel
theorem dX10_callers_61 : decode cX10_callers 61 = .ok (.iconst 0, 1) := by decide +kernel
theorem dX10_callers_62 : decode cX10_callers 62 = .ok (.invokevirtual 100, 3) := by decide +kernel
theorem dX10_callers_65 : decode cX10_callers 65 = .ok (.ireturn, 1) := by decide +kernel
theorem dX10_callsBy_0 : decode cX10_callsBy 0 = .ok (.aload_n 0, 1) := by decide +kernel
theorem dX10_callsBy_1 : decode cX10_callsBy 1 = .ok (.iload_n 1, 1) := by decide +kernel
theorem dX10_callsBy_2 : decode cX10_callsBy 2 = .ok (.iload_n 2, 1) := by decide +kernel
theorem dX10_callsBy_3 : decode cX10_callsBy 3 = .ok (.invokevirtual 286, 3) := by decide +kernel
theorem dX10_callsBy_6 : decode cX10_callsBy 6 = .ok (.istore_n 3, 1) := by decide +kernel
theorem dX10_callsBy_7 : decode cX10_callsBy 7 = .ok (.iload_n 3, 1) := by decide +kernel
theorem dX10_callsBy_8 : decode cX10_callsBy 8 = .ok (.ifCond .eq 10, 3) := by decide +kernel
theorem dX10_callsBy_11 : decode cX10_callsBy 11 = .ok (.aload_n 0, 1) := by decide +kernel
theorem dX10_callsBy_12 : decode cX10_callsBy 12 = .ok (.iload_n 3, 1) := by decide +kernel
theorem dX10_callsBy_13 : decode cX10_callsBy 13 = .ok (.iconst (-1), 1) := by decide +kernel
theorem dX10_callsBy_14 : decode cX10_callsBy 14 = .ok (.invokevirtual 83, 3) := by decide +kernel
theorem dX10_callsBy_17 : decode cX10_callsBy 17 = .ok (.ireturn, 1) := by decide +kernel
theorem dX10_callsBy_18 : decode cX10_callsBy 18 = .ok (.aload_n 0, 1) := by decide +kernel
theorem dX10_callsBy_19 : decode cX10_callsBy 19 = .ok (.getfield 36, 3) := by decide +kernel
theorem dX10_callsBy_22 : decode cX10_callsBy 22 = .ok (.getfield 123, 3) := by decide +kernel
theorem dX10_callsBy_25 : decode cX10_callsBy 25 = .ok (.aload_n 0, 1) := by decide +kernel
theorem dX10_callsBy_26 : decode cX10_callsBy 26 = .ok (.getfield 36, 3) := by decide +kernel
theorem dX10_callsBy_29 : decode cX10_callsBy 29 = .ok (.getfield 126, 3) := by decide +kernel
theorem dX10_callsBy_32 : decode cX10_callsBy 32 = .ok (.iload_n 2, 1) := by decide +kernel
theorem dX10_callsBy_33 : decode cX10_callsBy 33 = .ok (.invokestatic 289, 3) := by decide +kernel
theorem dX10_callsBy_36 : decode cX10_callsBy 36 = .ok (.istore 4, 2) := by decide +kernel
theorem dX10_callsBy_38 : decode cX10_callsBy 38 = .ok (.iconst 0, 1) := by decide +kernel
theorem dX10_callsBy_39 : decode cX10_callsBy 39 = .ok (.istore 5, 2) := by decide +kernel
theorem dX10_callsBy_41 : decode cX10_callsBy 41 = .ok (.iload_n 2, 1) := by decide +kernel
theorem dX10_callsBy_42 : decode cX10_callsBy 42 = .ok (.ifCond .le 47, 3) := by decide +kernel
theorem dX10_callsBy_45 : decode cX10_callsBy 45 = .ok (.iload 5, 2) := by decide +kernel
theorem dX10_callsBy_47 : decode cX10_callsBy 47 = .ok (.iconst 2, 1) := by decide +kernel
theorem dX10_callsBy_48 : decode cX10_callsBy 48 = .ok (.if_icmp .gt 41, 3) := by decide +kernel
theorem dX10_callsBy_51 : decode cX10_callsBy 51 = .ok (.iload 5, 2) := by decide +kernel
theorem dX10_callsBy_53 : decode cX10_callsBy 53 = .ok (.aload_n 0, 1) := by decide +kernel
theorem dX10_callsBy_54 : decode cX10_callsBy 54 = .ok (.getfield 36, 3) := by decide +kernel
theorem dX10_callsBy_57 : decode cX10_callsBy 57 = .ok (.getfield 123, 3) := by decide +kernel
theorem dX10_callsBy_60 : decode cX10_callsBy 60 = .ok (.aload_n 0, 1) := by decide +kernel
theorem dX10_callsBy_61 : decode cX10_callsBy 61 = .ok (.getfield 36, 3) := by decide +kernel
theorem dX10_callsBy_64 : decode cX10_callsBy 64 = .ok (.getfield 126, 3) := by decide +kernel
theorem dX10_callsBy_67 : decode cX10_callsBy 67 = .ok (.iload_n 2, 1) := by decide +kernel
theorem dX10_callsBy_68 : decode cX10_callsBy 68 = .ok (.invokestatic 292, 3) := by decide +kernel
theorem dX10_callsBy_71 : decode cX10_callsBy 71 = .ok (.iload 4, 2) := by decide +kernel
theorem dX10_callsBy_73 : decode cX10_callsBy 73 = .ok (.if_icmp .ne 10, 3) := by decide +kernel
theorem dX10_callsBy_76 : decode cX10_callsBy 76 = .ok (.aload_n 0, 1) := by decide +kernel
theorem dX10_callsBy_77 : decode cX10_callsBy 77 = .ok (.iload 5, 2) := by decide +kernel
theorem dX10_callsBy_79 : decode cX10_callsBy 79 = .ok (.invokevirtual 100, 3) := by decide +kernel
theorem dX10_callsBy_82 : decode cX10_callsBy 82 = .ok (.ireturn, 1) := by decide +kernel
theorem dX10_callsBy_83 : decode cX10_callsBy 83 = .ok (.iinc 5 1, 3) := by decide +kernel
theorem dX10_callsBy_86 : decode cX10_callsBy 86 = .ok (.goto (-45), 3) := by decide +kernel
theorem dX10_callsBy_89 : decode cX10_callsBy 89 = .ok (.aload_n 0, 1) := by decide +kernel
theorem dX10_callsBy_90 : decode cX10_callsBy 90 = .ok (.bipush (-2), 2) := by decide +kernel
theorem dX10_callsBy_92 : decode cX10_callsBy 92 = .ok (.invokevirtual 100, 3) := by decide +kernel
theorem dX10_callsBy_95 : decode cX10_callsBy 95 = .ok (.ireturn, 1) := by decide +kernel
theorem dX10_bows_0 : decode cX10_bows 0 = .ok (.aload_n 0, 1) := by decide +kernel
theorem dX10_bows_1 : decode cX10_bows 1 = .ok (.iload_n 1, 1) := by decide +kernel
theorem dX10_bows_2 : decode cX10_bows 2 = .ok (.iconst 0, 1) := by decide +kernel
theorem dX10_bows_3 : decode cX10_bows 3 = .ok (.bipush 9, 2) := by decide +kernel
theorem dX10_bows_5 : decode cX10_bows 5 = .ok (.invokevirtual 221, 3) := by decide +kernel
theorem dX10_bows_8 : decode cX10_bows 8 = .ok (.istore 5, 2) := by decide +kernel
theorem dX10_bows_10 : decode cX10_bows 10 = .ok (.iload 5, 2) := by decide +kernel
theorem dX10_bows_12 : decode cX10_bows 12 = .ok (.ifCond .eq 12, 3) := by decide +kernel
theorem dX10_bows_15 : decode cX10_bows 15 = .ok (.aload_n 0, 1) := by decide +kernel
theorem dX10_bows_16 : decode cX10_bows 16 = .ok (.iload 5, 2) := by decide +kernel
theorem dX10_bows_18 : decode cX10_bows 18 = .ok (.bipush (-100), 2) := by decide +kernel
theorem dX10_bows_20 : decode cX10_bows 20 = .ok (.invokevirtual 83, 3) := by decide +kernel
theorem dX10_bows_23 : decode cX10_bows 23 = .ok (.ireturn, 1) := by decide +kernel
theorem dX10_bows_24 : decode cX10_bows 24 = .ok (.aload_n 0, 1) := by decide +kernel
theorem dX10_bows_25 : decode cX10_bows 25 = .ok (.iload 4, 2) := by decide +kernel
theorem dX10_bows_27 : decode cX10_bows 27 = .ok (.ifCond .eq 12, 3) := by decide +kernel
theorem dX10_bows_30 : decode cX10_bows 30 = .ok (.iload_n 1, 1) := by decide +kernel
theorem dX10_bows_31 : decode cX10_bows 31 = .ok (.iload_n 3, 1) := by decide +kernel
theorem dX10_bows_32 : decode cX10_bows 32 = .ok (.iload_n 2, 1) := by decide +kernel
theorem dX10_bows_33 : decode cX10_bows 33 = .ok (.invokestatic 296, 3) := by decide +kernel
theorem dX10_bows_36 : decode cX10_bows 36 = .ok (.goto 9, 3) := by decide +kernel
theorem dX10_bows_39 : decode cX10_bows 39 = .ok (.iload_n 1, 1) := by decide +kernel
theorem dX10_bows_40 : decode cX10_bows 40 = .ok (.iload_n 2, 1) := by decide +kernel
theorem dX10_bows_41 : decode cX10_bows 41 = .ok (.iload_n 3, 1) := by decide +kernel
theorem dX10_bows_42 : decode cX10_bows 42 = .ok (.invokestatic 296, 3) := by decide +kernel
theorem dX10_bows_45 : decode cX10_bows 45 = .ok (.invokevirtual 100, 3) := by decide +kernel
theorem dX10_bows_48 : decode cX10_bows 48 = .ok (.ireturn, 1) := by decide +kernel
theorem dX10_rests_0 : decode cX10_rests 0 = .ok (.aload_n 0, 1) := by decide +kernel
theorem dX10_rests_1 : decode cX10_rests 1 = .ok (.iload_n 1, 1) := by decide +kernel
theorem dX10_rests_2 : decode cX10_rests 2 = .ok (.iconst 0, 1) := by decide +kernel
theorem dX10_rests_3 : decode cX10_rests 3 = .ok (.bipush 9, 2) := by decide +kernel
theorem dX10_rests_5 : decode cX10_rests 5 = .ok (.invokevirtual 221, 3) := by decide +kernel
theorem dX10_rests_8 : decode cX10_rests 8 = .ok (.istore_n 2, 1) := by decide +kernel
theorem dX10_rests_9 : decode cX10_rests 9 = .ok (.iload_n 2, 1) := by decide +kernel
theorem dX10_rests_10 : decode cX10_rests 10 = .ok (.ifCond .eq 10, 3) := by decide +kernel
theorem dX10_rests_13 : decode cX10_rests 13 = .ok (.aload_n 0, 1) := by decide +kernel
theorem dX10_rests_14 : decode cX10_rests 14 = .ok (.iload_n 2, 1) := by decide +kernel
theorem dX10_rests_15 : decode cX10_rests 15 = .ok (.iconst (-1), 1) := by decide +kernel
theorem dX10_rests_16 : decode cX10_rests 16 = .ok (.invokevirtual 83, 3) := by decide +kernel
theorem dX10_rests_19 : decode cX10_rests 19 = .ok (.ireturn, 1) := by decide +kernel
theorem dX10_rests_20 : decode cX10_rests 20 = .ok (.iconst 0, 1) := by decide +kernel
theorem dX10_rests_21 : decode cX10_rests 21 = .ok (.istore_n 3, 1) := by decide +kernel
theorem dX10_rests_22 : decode cX10_rests 22 = .ok (.iconst 0, 1) := by decide +kernel
theorem dX10_rests_23 : decode cX10_rests 23 = .ok (.istore 4, 2) := by decide +kernel
theorem dX10_rests_25 : decode cX10_rests 25 = .ok (.iload 4, 2) := by decide +kernel
theorem dX10_rests_27 : decode cX10_rests 27 = .ok (.iconst 4, 1) := by decide +kernel
theorem dX10_rests_28 : decode cX10_rests 28 = .ok (.if_icmp .ge 43, 3) := by decide +kernel
theorem dX10_rests_31 : decode cX10_rests 31 = .ok (.iload_n 1, 1) := by decide +kernel
theorem dX10_rests_32 : decode cX10_rests 32 = .ok (.iload 4, 2) := by decide +kernel
theorem dX10_rests_34 : decode cX10_rests 34 = .ok (.iconst 2, 1) := by decide +kernel
theorem dX10_rests_35 : decode cX10_rests 35 = .ok (.if_icmp .lt 7, 3) := by decide +kernel
theorem dX10_rests_38 : decode cX10_rests 38 = .ok (.iconst 1, 1) := by decide +kernel
theorem dX10_rests_39 : decode cX10_rests 39 = .ok (.goto 4, 3) := by decide +kernel
theorem dX10_rests_42 : decode cX10_rests 42 = .ok (.iconst 0, 1) := by decide +kernel
theorem dX10_rests_43 : decode cX10_rests 43 = .ok (.iload 4, 2) := by decide +kernel
theorem dX10_rests_45 : decode cX10_rests 45 = .ok (.iconst 2, 1) := by decide +kernel
theorem dX10_rests_46 : decode cX10_rests 46 = .ok (.irem, 1) := by decide +kernel
theorem dX10_rests_47 : decode cX10_rests 47 = .ok (.iconst 1, 1) := by decide +kernel
theorem dX10_rests_48 : decode cX10_rests 48 = .ok (.if_icmp .ne 7, 3) := by decide +kernel
theorem dX10_rests_51 : decode cX10_rests 51 = .ok (.iconst 1, 1) := by decide +kernel
theorem dX10_rests_52 : decode cX10_rests 52 = .ok (.goto 4, 3) := by decide +kernel
theorem dX10_rests_55 : decode cX10_rests 55 = .ok (.iconst 0, 1) := by decide +kernel
theorem dX10_rests_56 : decode cX10_rests 56 = .ok (.invokestatic 300, 3) := by decide +kernel
theorem dX10_rests_59 : decode cX10_rests 59 = .ok (.ifCond .eq 6, 3) := by decide +kernel
theorem dX10_rests_62 : decode cX10_rests 62 = .ok (.iinc 3 1, 3) := by decide +kernel
theorem dX10_rests_65 : decode cX10_rests 65 = .ok (.iinc 4 1, 3) := by decide +kernel
theorem dX10_rests_68 : decode cX10_rests 68 = .ok (.goto (-43), 3) := by decide +kernel
theorem dX10_rests_71 : decode cX10_rests 71 = .ok (.aload_n 0, 1) := by decide +kernel
theorem dX10_rests_72 : decode cX10_rests 72 = .ok (.iload_n 3, 1) := by decide +kernel
theorem dX10_rests_73 : decode cX10_rests 73 = .ok (.invokevirtual 100, 3) := by decide +kernel
theorem dX10_rests_76 : decode cX10_rests 76 = .ok (.ireturn, 1) := by decide +kernel
theorem dX10_rest_0 : decode cX10_rest 0 = .ok (.aload_n 0, 1) := by decide +kernel
theorem dX10_rest_1 : decode cX10_rest 1 = .ok (.iload_n 1, 1) := by decide +kernel
theorem dX10_rest_2 : decode cX10_rest 2 = .ok (.iconst 0, 1) := by decide +kernel
theorem dX10_rest_3 : decode cX10_rest 3 = .ok (.bipush 9, 2) := by decide +kernel
theorem dX10_rest_5 : decode cX10_rest 5 = .ok (.invokevirtual 221, 3) := by decide +kernel
theorem dX10_rest_8 : decode cX10_rest 8 = .ok (.istore_n 2, 1) := by decide +kernel
theorem dX10_rest_9 : decode cX10_rest 9 = .ok (.iload_n 2, 1) := by decide +kernel
theorem dX10_rest_10 : decode cX10_rest 10 = .ok (.ifCond .eq 10, 3) := by decide +kernel
theorem dX10_rest_13 : decode cX10_rest 13 = .ok (.aload_n 0, 1) := by decide +kernel
theorem dX10_rest_14 : decode cX10_rest 14 = .ok (.iload_n 2, 1) := by decide +kernel
theorem dX10_rest_15 : decode cX10_rest 15 = .ok (.iconst (-1), 1) := by decide +kernel
theorem dX10_rest_16 : decode cX10_rest 16 = .ok (.invokevirtual 83, 3) := by decide +kernel
theorem dX10_rest_19 : decode cX10_rest 19 = .ok (.ireturn, 1) := by decide +kernel
theorem dX10_rest_20 : decode cX10_rest 20 = .ok (.iconst 0, 1) := by decide +kernel
theorem dX10_rest_21 : decode cX10_rest 21 = .ok (.istore_n 3, 1) := by decide +kernel
theorem dX10_rest_22 : decode cX10_rest 22 = .ok (.iload_n 3, 1) := by decide +kernel
theorem dX10_rest_23 : decode cX10_rest 23 = .ok (.iconst 4, 1) := by decide +kernel
theorem dX10_rest_24 : decode cX10_rest 24 = .ok (.if_icmp .ge 53, 3) := by decide +kernel
theorem dX10_rest_27 : decode cX10_rest 27 = .ok (.iload_n 1, 1) := by decide +kernel
theorem dX10_rest_28 : decode cX10_rest 28 = .ok (.iload_n 3, 1) := by decide +kernel
theorem dX10_rest_29 : decode cX10_rest 29 = .ok (.iconst 2, 1) := by decide +kernel
theorem dX10_rest_30 : decode cX10_rest 30 = .ok (.if_icmp .lt 7, 3) := by decide +kernel
theorem dX10_rest_33 : decode cX10_rest 33 = .ok (.iconst 1, 1) := by decide +kernel
theorem dX10_rest_34 : decode cX10_rest 34 = .ok (.goto 4, 3) := by decide +kernel
theorem dX10_rest_37 : decode cX10_rest 37 = .ok (.iconst 0, 1) := by decide +kernel
theorem dX10_rest_38 : decode cX10_rest 38 = .ok (.iload_n 3, 1) := by decide +kernel
theorem dX10_rest_39 : decode cX10_rest 39 = .ok (.iconst 2, 1) := by decide +kernel
theorem dX10_rest_40 : decode cX10_rest 40 = .ok (.irem, 1) := by decide +kernel
theorem dX10_rest_41 : decode cX10_rest 41 = .ok (.iconst 1, 1) := by decide +kernel
theorem dX10_rest_42 : decode cX10_rest 42 = .ok (.if_icmp .ne 7, 3) := by decide +kernel
theorem dX10_rest_45 : decode cX10_rest 45 = .ok (.iconst 1, 1) := by decide +kernel
theorem dX10_rest_46 : decode cX10_rest 46 = .ok (.goto 4, 3) := by decide +kernel
theorem dX10_rest_49 : decode cX10_rest 49 = .ok (.iconst 0, 1) := by decide +kernel
theorem dX10_rest_50 : decode cX10_rest 50 = .ok (.invokestatic 300, 3) := by decide +kernel
theorem dX10_rest_53 : decode cX10_rest 53 = .ok (.ifCond .eq 18, 3) := by decide +kernel
theorem dX10_rest_56 : decode cX10_rest 56 = .ok (.aload_n 0, 1) := by decide +kernel
theorem dX10_rest_57 : decode cX10_rest 57 = .ok (.iload_n 3, 1) := by decide +kernel
theorem dX10_rest_58 : decode cX10_rest 58 = .ok (.iconst 2, 1) := by decide +kernel
theorem dX10_rest_59 : decode cX10_rest 59 = .ok (.idiv, 1) := by decide +kernel
theorem dX10_rest_60 : decode cX10_rest 60 = .ok (.bipush 10, 2) := by decide +kernel
theorem dX10_rest_62 : decode cX10_rest 62 = .ok (.imul, 1) := by decide +kernel
theorem dX10_rest_63 : decode cX10_rest 63 = .ok (.iload_n 3, 1) := by decide +kernel
theorem dX10_rest_64 : decode cX10_rest 64 = .ok (.iconst 2, 1) := by decide +kernel
theorem dX10_rest_65 : decode cX10_rest 65 = .ok (.irem, 1) := by decide +kernel
theorem dX10_rest_66 : decode cX10_rest 66 = .ok (.iadd, 1) := by decide +kernel
theorem dX10_rest_67 : decode cX10_rest 67 = .ok (.invokevirtual 100, 3) := by decide +kernel
theorem dX10_rest_70 : decode cX10_rest 70 = .ok (.ireturn, 1) := by decide +kernel
theorem dX10_rest_71 : decode cX10_rest 71 = .ok (.iinc 3 1, 3) := by decide +kernel
theorem dX10_rest_74 : decode cX10_rest 74 = .ok (.goto (-52), 3) := by decide +kernel
theorem dX10_rest_77 : decode cX10_rest 77 = .ok (.aload_n 0, 1) := by decide +kernel
theorem dX10_rest_78 : decode cX10_rest 78 = .ok (.bipush (-2), 2) := by decide +kernel
theorem dX10_rest_80 : decode cX10_rest 80 = .ok (.invokevirtual 100, 3) := by decide +kernel
theorem dX10_rest_83 : decode cX10_rest 83 = .ok (.ireturn, 1) := by decide +kernel
theorem dX10_odds_0 : decode cX10_odds 0 = .ok (.aload_n 0, 1) := by decide +kernel
theorem dX10_odds_1 : decode cX10_odds 1 = .ok (.getfield 19, 3) := by decide +kernel
theorem dX10_odds_4 : decode cX10_odds 4 = .ok (.iload_n 1, 1) := by decide +kernel
theorem dX10_odds_5 : decode cX10_odds 5 = .ok (.invokevirtual 113, 3) := by decide +kernel
theorem dX10_odds_8 : decode cX10_odds 8 = .ok (.astore 6, 2) := by decide +kernel
theorem dX10_odds_10 : decode cX10_odds 10 = .ok (.aload 6, 2) := by decide +kernel
theorem dX10_odds_12 : decode cX10_odds 12 = .ok (.ifnull 12, 3) := by decide +kernel
theorem dX10_odds_15 : decode cX10_odds 15 = .ok (.iload_n 3, 1) := by decide +kernel
theorem dX10_odds_16 : decode cX10_odds 16 = .ok (.iload 4, 2) := by decide +kernel
theorem dX10_odds_18 : decode cX10_odds 18 = .ok (.invokestatic 159, 3) := by decide +kernel
theorem dX10_odds_21 : decode cX10_odds 21 = .ok (.ifCond .ne 11, 3) := by decide +kernel
theorem dX10_odds_24 : decode cX10_odds 24 = .ok (.aload_n 0, 1) := by decide +kernel
theorem dX10_odds_25 : decode cX10_odds 25 = .ok (.iconst 1, 1) := by decide +kernel
theorem dX10_odds_26 : decode cX10_odds 26 = .ok (.iconst (-1), 1) := by decide +kernel
theorem dX10_odds_27 : decode cX10_odds 27 = .ok (.invokevirtual 83, 3) := by decide +kernel
theorem dX10_odds_30 : decode cX10_odds 30 = .ok (.i2l, 1) := by decide +kernel
theorem dX10_odds_31 : decode cX10_odds 31 = .ok (.lreturn, 1) := by decide +kernel
theorem dX10_odds_32 : decode cX10_odds 32 = .ok (.aload_n 0, 1) := by decide +kernel
theorem dX10_odds_33 : decode cX10_odds 33 = .ok (.getfield 67, 3) := by decide +kernel
theorem dX10_odds_36 : decode cX10_odds 36 = .ok (.iconst 0, 1) := by decide +kernel
theorem dX10_odds_37 : decode cX10_odds 37 = .ok (.iload_n 3, 1) := by decide +kernel
theorem dX10_odds_38 : decode cX10_odds 38 = .ok (.iload 4, 2) := by decide +kernel
theorem dX10_odds_40 : decode cX10_odds 40 = .ok (.invokevirtual 304, 3) := by decide +kernel
theorem dX10_odds_43 : decode cX10_odds 43 = .ok (.aload_n 0, 1) := by decide +kernel
theorem dX10_odds_44 : decode cX10_odds 44 = .ok (.aload 6, 2) := by decide +kernel
theorem dX10_odds_46 : decode cX10_odds 46 = .ok (.iload_n 2, 1) := by decide +kernel
theorem dX10_odds_47 : decode cX10_odds 47 = .ok (.iload 5, 2) := by decide +kernel
theorem dX10_odds_49 : decode cX10_odds 49 = .ok (.invokevirtual 308, 3) := by decide +kernel
theorem dX10_odds_52 : decode cX10_odds 52 = .ok (.lreturn, 1) := by decide +kernel
theorem dX10_untied_0 : decode cX10_untied 0 = .ok (.aload_n 0, 1) := by decide +kernel
theorem dX10_untied_1 : decode cX10_untied 1 = .ok (.getfield 19, 3) := by decide +kernel
theorem dX10_untied_4 : decode cX10_untied 4 = .ok (.iload_n 1, 1) := by decide +kernel
theorem dX10_untied_5 : decode cX10_untied 5 = .ok (.invokevirtual 113, 3) := by decide +kernel
theorem dX10_untied_8 : decode cX10_untied 8 = .ok (.astore 4, 2) := by decide +kernel
theorem dX10_untied_10 : decode cX10_untied 10 = .ok (.aload 4, 2) := by decide +kernel
theorem dX10_untied_12 : decode cX10_untied 12 = .ok (.ifnonnull 11, 3) := by decide +kernel
theorem dX10_untied_15 : decode cX10_untied 15 = .ok (.aload_n 0, 1) := by decide +kernel
theorem dX10_untied_16 : decode cX10_untied 16 = .ok (.iconst 1, 1) := by decide +kernel
theorem dX10_untied_17 : decode cX10_untied 17 = .ok (.iconst (-1), 1) := by decide +kernel
theorem dX10_untied_18 : decode cX10_untied 18 = .ok (.invokevirtual 83, 3) := by decide +kernel
theorem dX10_untied_21 : decode cX10_untied 21 = .ok (.i2l, 1) := by decide +kernel
theorem dX10_untied_22 : decode cX10_untied 22 = .ok (.lreturn, 1) := by decide +kernel
theorem dX10_untied_23 : decode cX10_untied 23 = .ok (.aload_n 0, 1) := by decide +kernel
theorem dX10_untied_24 : decode cX10_untied 24 = .ok (.getfield 67, 3) := by decide +kernel
theorem dX10_untied_27 : decode cX10_untied 27 = .ok (.iconst 1, 1) := by decide +kernel
theorem dX10_untied_28 : decode cX10_untied 28 = .ok (.iconst (-1), 1) := by decide +kernel
theorem dX10_untied_29 : decode cX10_untied 29 = .ok (.iconst (-1), 1) := by decide +kernel
theorem dX10_untied_30 : decode cX10_untied 30 = .ok (.invokevirtual 304, 3) := by decide +kernel
theorem dX10_untied_33 : decode cX10_untied 33 = .ok (.aload_n 0, 1) := by decide +kernel
theorem dX10_untied_34 : decode cX10_untied 34 = .ok (.aload 4, 2) := by decide +kernel
theorem dX10_untied_36 : decode cX10_untied 36 = .ok (.iload_n 2, 1) := by decide +kernel
theorem dX10_untied_37 : decode cX10_untied 37 = .ok (.iload_n 3, 1) := by decide +kernel
theorem dX10_untied_38 : decode cX10_untied 38 = .ok (.invokevirtual 308, 3) := by decide +kernel
theorem dX10_untied_41 : decode cX10_untied 41 = .ok (.lreturn, 1) := by decide +kernel
theorem dX10_mean_0 : decode cX10_mean 0 = .ok (.aload_n 0, 1) := by decide +kernel
theorem dX10_mean_1 : decode cX10_mean 1 = .ok (.getfield 19, 3) := by decide +kernel
theorem dX10_mean_4 : decode cX10_mean 4 = .ok (.iload_n 1, 1) := by decide +kernel
theorem dX10_mean_5 : decode cX10_mean 5 = .ok (.invokevirtual 113, 3) := by decide +kernel
theorem dX10_mean_8 : decode cX10_mean 8 = .ok (.astore 4, 2) := by decide +kernel
theorem dX10_mean_10 : decode cX10_mean 10 = .ok (.aload 4, 2) := by decide +kernel
theorem dX10_mean_12 : decode cX10_mean 12 = .ok (.ifnonnull 11, 3) := by decide +kernel
theorem dX10_mean_15 : decode cX10_mean 15 = .ok (.aload_n 0, 1) := by decide +kernel
theorem dX10_mean_16 : decode cX10_mean 16 = .ok (.iconst 1, 1) := by decide +kernel
theorem dX10_mean_17 : decode cX10_mean 17 = .ok (.iconst (-1), 1) := by decide +kernel
theorem dX10_mean_18 : decode cX10_mean 18 = .ok (.invokevirtual 83, 3) := by decide +kernel
theorem dX10_mean_21 : decode cX10_mean 21 = .ok (.i2l, 1) := by decide +kernel
theorem dX10_mean_22 : decode cX10_mean 22 = .ok (.lreturn, 1) := by decide +kernel
theorem dX10_mean_23 : decode cX10_mean 23 = .ok (.aload_n 0, 1) := by decide +kernel
theorem dX10_mean_24 : decode cX10_mean 24 = .ok (.getfield 67, 3) := by decide +kernel
theorem dX10_mean_27 : decode cX10_mean 27 = .ok (.iconst 2, 1) := by decide +kernel
theorem dX10_mean_28 : decode cX10_mean 28 = .ok (.iconst (-1), 1) := by decide +kernel
theorem dX10_mean_29 : decode cX10_mean 29 = .ok (.iconst (-1), 1) := by decide +kernel
theorem dX10_mean_30 : decode cX10_mean 30 = .ok (.invokevirtual 304, 3) := by decide +kernel
theorem dX10_mean_33 : decode cX10_mean 33 = .ok (.aload_n 0, 1) := by decide +kernel
theorem dX10_mean_34 : decode cX10_mean 34 = .ok (.aload 4, 2) := by decide +kernel
theorem dX10_mean_36 : decode cX10_mean 36 = .ok (.iload_n 2, 1) := by decide +kernel
theorem dX10_mean_37 : decode cX10_mean 37 = .ok (.iload_n 3, 1) := by decide +kernel
theorem dX10_mean_38 : decode cX10_mean 38 = .ok (.invokevirtual 308, 3) := by decide +kernel
theorem dX10_mean_41 : decode cX10_mean 41 = .ok (.lreturn, 1) := by decide +kernel
theorem dX10_drawnUpper_0 : decode cX10_drawnUpper 0 = .ok (.aload_n 0, 1) := by decide +kernel
theorem dX10_drawnUpper_1 : decode cX10_drawnUpper 1 = .ok (.iload_n 1, 1) := by decide +kernel
theorem dX10_drawnUpper_2 : decode cX10_drawnUpper 2 = .ok (.iload_n 2, 1) := by decide +kernel
theorem dX10_drawnUpper_3 : decode cX10_drawnUpper 3 = .ok (.iload_n 3, 1) := by decide +kernel
theorem dX10_drawnUpper_4 : decode cX10_drawnUpper 4 = .ok (.invokevirtual 312, 3) := by decide +kernel
theorem dX10_drawnUpper_7 : decode cX10_drawnUpper 7 = .ok (.istore 4, 2) := by decide +kernel
theorem dX10_drawnUpper_9 : decode cX10_drawnUpper 9 = .ok (.iload 4, 2) := by decide +kernel
theorem dX10_drawnUpper_11 : decode cX10_drawnUpper 11 = .ok (.ifCond .ne 17, 3) := by decide +kernel
theorem dX10_drawnUpper_14 : decode cX10_drawnUpper 14 = .ok (.aload_n 0, 1) := by decide +kernel
theorem dX10_drawnUpper_15 : decode cX10_drawnUpper 15 = .ok (.aload_n 0, 1) := by decide +kernel
theorem dX10_drawnUpper_16 : decode cX10_drawnUpper 16 = .ok (.getfield 36, 3) := by decide +kernel
theorem dX10_drawnUpper_19 : decode cX10_drawnUpper 19 = .ok (.getfield 123, 3) := by decide +kernel
theorem dX10_drawnUpper_22 : decode cX10_drawnUpper 22 = .ok (.invokevirtual 100, 3) := by decide +kernel
theorem dX10_drawnUpper_25 : decode cX10_drawnUpper 25 = .ok (.goto 11, 3) := by decide +kernel
theorem dX10_drawnUpper_28 : decode cX10_drawnUpper 28 = .ok (.aload_n 0, 1) := by decide +kernel
theorem dX10_drawnUpper_29 : decode cX10_drawnUpper 29 = .ok (.iload 4, 2) := by decide +kernel
theorem dX10_drawnUpper_31 : decode cX10_drawnUpper 31 = .ok (.ldc 117, 2) := by decide +kernel
theorem dX10_drawnUpper_33 : decode cX10_drawnUpper 33 = .ok (.invokevirtual 83, 3) := by decide +kernel
theorem dX10_drawnUpper_36 : decode cX10_drawnUpper 36 = .ok (.ireturn, 1) := by decide +kernel
theorem dX10_drawnLower_0 : decode cX10_drawnLower 0 = .ok (.aload_n 0, 1) := by decide +kernel
theorem dX10_drawnLower_1 : decode cX10_drawnLower 1 = .ok (.iload_n 1, 1) := by decide +kernel
theorem dX10_drawnLower_2 : decode cX10_drawnLower 2 = .ok (.iload_n 2, 1) := by decide +kernel
theorem dX10_drawnLower_3 : decode cX10_drawnLower 3 = .ok (.iload_n 3, 1) := by decide +kernel
theorem dX10_drawnLower_4 : decode cX10_drawnLower 4 = .ok (.invokevirtual 312, 3) := by decide +kernel
theorem dX10_drawnLower_7 : decode cX10_drawnLower 7 = .ok (.istore 4, 2) := by decide +kernel
theorem dX10_drawnLower_9 : decode cX10_drawnLower 9 = .ok (.iload 4, 2) := by decide +kernel
theorem dX10_drawnLower_11 : decode cX10_drawnLower 11 = .ok (.ifCond .ne 17, 3) := by decide +kernel
theorem dX10_drawnLower_14 : decode cX10_drawnLower 14 = .ok (.aload_n 0, 1) := by decide +kernel
theorem dX10_drawnLower_15 : decode cX10_drawnLower 15 = .ok (.aload_n 0, 1) := by decide +kernel
theorem dX10_drawnLower_16 : decode cX10_drawnLower 16 = .ok (.getfield 36, 3) := by decide +kernel
theorem dX10_drawnLower_19 : decode cX10_drawnLower 19 = .ok (.getfield 126, 3) := by decide +kernel
theorem dX10_drawnLower_22 : decode cX10_drawnLower 22 = .ok (.invokevirtual 100, 3) := by decide +kernel
theorem dX10_drawnLower_25 : decode cX10_drawnLower 25 = .ok (.goto 10, 3) := by decide +kernel
theorem dX10_drawnLower_28 : decode cX10_drawnLower 28 = .ok (.aload_n 0, 1) := by decide +kernel
theorem dX10_drawnLower_29 : decode cX10_drawnLower 29 = .ok (.iload 4, 2) := by decide +kernel
theorem dX10_drawnLower_31 : decode cX10_drawnLower 31 = .ok (.iconst (-1), 1) := by decide +kernel
theorem dX10_drawnLower_32 : decode cX10_drawnLower 32 = .ok (.invokevirtual 83, 3) := by decide +kernel
theorem dX10_drawnLower_35 : decode cX10_drawnLower 35 = .ok (.ireturn, 1) := by decide +kernel
theorem dX10_call_0 : decode cX10_call 0 = .ok (.aload_n 0, 1) := by decide +kernel
theorem dX10_call_1 : decode cX10_call 1 = .ok (.getfield 19, 3) := by decide +kernel
theorem dX10_call_4 : decode cX10_call 4 = .ok (.iload_n 1, 1) := by decide +kernel
theorem dX10_call_5 : decode cX10_call 5 = .ok (.invokevirtual 113, 3) := by decide +kernel
theorem dX10_call_8 : decode cX10_call 8 = .ok (.astore_n 3, 1) := by decide +kernel
theorem dX10_call_9 : decode cX10_call 9 = .ok (.aload_n 3, 1) := by decide +kernel
theorem dX10_call_10 : decode cX10_call 10 = .ok (.ifnonnull 10, 3) := by decide +kernel
theorem dX10_call_13 : decode cX10_call 13 = .ok (.aload_n 0, 1) := by decide +kernel
theorem dX10_call_14 : decode cX10_call 14 = .ok (.iconst 1, 1) := by decide +kernel
theorem dX10_call_15 : decode cX10_call 15 = .ok (.iconst (-1), 1) := by decide +kernel
theorem dX10_call_16 : decode cX10_call 16 = .ok (.invokevirtual 83, 3) := by decide +kernel
theorem dX10_call_19 : decode cX10_call 19 = .ok (.ireturn, 1) := by decide +kernel
theorem dX10_call_20 : decode cX10_call 20 = .ok (.iload_n 2, 1) := by decide +kernel
theorem dX10_call_21 : decode cX10_call 21 = .ok (.ifCond .lt 8, 3) := by decide +kernel
theorem dX10_call_24 : decode cX10_call 24 = .ok (.iload_n 2, 1) := by decide +kernel
theorem dX10_call_25 : decode cX10_call 25 = .ok (.iconst 2, 1) := by decide +kernel
theorem dX10_call_26 : decode cX10_call 26 = .ok (.if_icmp .le 10, 3) := by decide +kernel
theorem dX10_call_29 : decode cX10_call 29 = .ok (.aload_n 0, 1) := by decide +kernel
theorem dX10_call_30 : decode cX10_call 30 = .ok (.iconst 2, 1) := by decide +kernel
theorem dX10_call_31 : decode cX10_call 31 = .ok (.iconst (-1), 1) := by decide +kernel
theorem dX10_call_32 : decode cX10_call 32 = .ok (.invokevirtual 83, 3) := by decide +kernel
theorem dX10_call_35 : decode cX10_call 35 = .ok (.ireturn, 1) := by decide +kernel
theorem dX10_call_36 : decode cX10_call 36 = .ok (.aload_n 3, 1) := by decide +kernel
theorem dX10_call_37 : decode cX10_call 37 = .ok (.getfield 118, 3) := by decide +kernel
theorem dX10_call_40 : decode cX10_call 40 = .ok (.astore 4, 2) := by decide +kernel
theorem dX10_call_42 : decode cX10_call 42 = .ok (.iload_n 2, 1) := by decide +kernel
theorem dX10_call_43 : decode cX10_call 43 = .ok (.aload 4, 2) := by decide +kernel
theorem dX10_call_45 : decode cX10_call 45 = .ok (.getfield 123, 3) := by decide +kernel
theorem dX10_call_48 : decode cX10_call 48 = .ok (.aload 4, 2) := by decide +kernel
theorem dX10_call_50 : decode cX10_call 50 = .ok (.getfield 126, 3) := by decide +kernel
theorem dX10_call_53 : decode cX10_call 53 = .ok (.invokestatic 315, 3) := by decide +kernel
theorem dX10_call_56 : decode cX10_call 56 = .ok (.istore 5, 2) := by decide +kernel
theorem dX10_call_58 : decode cX10_call 58 = .ok (.iload_n 2, 1) := by decide +kernel
theorem dX10_call_59 : decode cX10_call 59 = .ok (.aload 4, 2) := by decide +kernel
theorem dX10_call_61 : decode cX10_call 61 = .ok (.getfield 123, 3) := by decide +kernel
theorem dX10_call_64 : decode cX10_call 64 = .ok (.aload 4, 2) := by decide +kernel
theorem dX10_call_66 : decode cX10_call 66 = .ok (.getfield 126, 3) := by decide +kernel
theorem dX10_call_69 : decode cX10_call 69 = .ok (.invokestatic 318, 3) := by decide +kernel
theorem dX10_call_72 : decode cX10_call 72 = .ok (.istore 6, 2) := by decide +kernel
theorem dX10_call_74 : decode cX10_call 74 = .ok (.iload 5, 2) := by decide +kernel
theorem dX10_call_76 : decode cX10_call 76 = .ok (.iload 6, 2) := by decide +kernel
theorem dX10_call_78 : decode cX10_call 78 = .ok (.invokestatic 321, 3) := by decide +kernel
theorem dX10_call_81 : decode cX10_call 81 = .ok (.ifCond .eq 10, 3) := by decide +kernel
theorem dX10_call_84 : decode cX10_call 84 = .ok (.aload_n 0, 1) := by decide +kernel
theorem dX10_call_85 : decode cX10_call 85 = .ok (.iconst 3, 1) := by decide +kernel
theorem dX10_call_86 : decode cX10_call 86 = .ok (.iconst (-1), 1) := by decide +kernel
theorem dX10_call_87 : decode cX10_call 87 = .ok (.invokevirtual 83, 3) := by decide +kernel
theorem dX10_call_90 : decode cX10_call 90 = .ok (.ireturn, 1) := by decide +kernel
theorem dX10_call_91 : decode cX10_call 91 = .ok (.aload_n 0, 1) := by decide +kernel
theorem dX10_call_92 : decode cX10_call 92 = .ok (.iload_n 1, 1) := by decide +kernel
theorem dX10_call_93 : decode cX10_call 93 = .ok (.aload 4, 2) := by decide +kernel
theorem dX10_call_95 : decode cX10_call 95 = .ok (.iload 5, 2) := by decide +kernel
theorem dX10_call_97 : decode cX10_call 97 = .ok (.iload 6, 2) := by decide +kernel
theorem dX10_call_99 : decode cX10_call 99 = .ok (.invokevirtual 324, 3) := by decide +kernel
theorem dX10_call_102 : decode cX10_call 102 = .ok (.aload_n 0, 1) := by decide +kernel
theorem dX10_call_103 : decode cX10_call 103 = .ok (.aload 4, 2) := by decide +kernel
theorem dX10_call_105 : decode cX10_call 105 = .ok (.invokevirtual 143, 3) := by decide +kernel
theorem dX10_call_108 : decode cX10_call 108 = .ok (.invokevirtual 100, 3) := by decide +kernel
theorem dX10_call_111 : decode cX10_call 111 = .ok (.ireturn, 1) := by decide +kernel
theorem dX10_flip_0 : decode cX10_flip 0 = .ok (.aload_n 0, 1) := by decide +kernel
theorem dX10_flip_1 : decode cX10_flip 1 = .ok (.getfield 19, 3) := by decide +kernel
theorem dX10_flip_4 : decode cX10_flip 4 = .ok (.iload_n 1, 1) := by decide +kernel
theorem dX10_flip_5 : decode cX10_flip 5 = .ok (.invokevirtual 113, 3) := by decide +kernel
theorem dX10_flip_8 : decode cX10_flip 8 = .ok (.astore_n 2, 1) := by decide +kernel
theorem dX10_flip_9 : decode cX10_flip 9 = .ok (.aload_n 2, 1) := by decide +kernel
theorem dX10_flip_10 : decode cX10_flip 10 = .ok (.ifnonnull 9, 3) := by decide +kernel
theorem dX10_flip_13 : decode cX10_flip 13 = .ok (.aload_n 0, 1) := by decide +kernel
theorem dX10_flip_14 : decode cX10_flip 14 = .ok (.iconst 1, 1) := by decide +kernel
theorem dX10_flip_15 : decode cX10_flip 15 = .ok (.invokevirtual 328, 3) := by decide +kernel
theorem dX10_flip_18 : decode cX10_flip 18 = .ok (.ireturn, 1) := by decide +kernel
theorem dX10_flip_19 : decode cX10_flip 19 = .ok (.aload_n 2, 1) := by decide +kernel
theorem dX10_flip_20 : decode cX10_flip 20 = .ok (.getfield 118, 3) := by decide +kernel
theorem dX10_flip_23 : decode cX10_flip 23 = .ok (.astore_n 3, 1) := by decide +kernel
theorem dX10_flip_24 : decode cX10_flip 24 = .ok (.aload_n 3, 1) := by decide +kernel
theorem dX10_flip_25 : decode cX10_flip 25 = .ok (.getfield 123, 3) := by decide +kernel
theorem dX10_flip_28 : decode cX10_flip 28 = .ok (.ifCond .eq 10, 3) := by decide +kernel
theorem dX10_flip_31 : decode cX10_flip 31 = .ok (.aload_n 3, 1) := by decide +kernel
theorem dX10_flip_32 : decode cX10_flip 32 = .ok (.getfield 126, 3) := by decide +kernel
theorem dX10_flip_35 : decode cX10_flip 35 = .ok (.ifCond .ne 9, 3) := by decide +kernel
theorem dX10_flip_38 : decode cX10_flip 38 = .ok (.aload_n 0, 1) := by decide +kernel
theorem dX10_flip_39 : decode cX10_flip 39 = .ok (.iconst 5, 1) := by decide +kernel
theorem dX10_flip_40 : decode cX10_flip 40 = .ok (.invokevirtual 328, 3) := by decide +kernel
theorem dX10_flip_43 : decode cX10_flip 43 = .ok (.ireturn, 1) := by decide +kernel
theorem dX10_flip_44 : decode cX10_flip 44 = .ok (.aload_n 0, 1) := by decide +kernel
theorem dX10_flip_45 : decode cX10_flip 45 = .ok (.iload_n 1, 1) := by decide +kernel
theorem dX10_flip_46 : decode cX10_flip 46 = .ok (.aload_n 3, 1) := by decide +kernel
theorem dX10_flip_47 : decode cX10_flip 47 = .ok (.aload_n 3, 1) := by decide +kernel
theorem dX10_flip_48 : decode cX10_flip 48 = .ok (.getfield 123, 3) := by decide +kernel
theorem dX10_flip_51 : decode cX10_flip 51 = .ok (.ineg, 1) := by decide +kernel
theorem dX10_flip_52 : decode cX10_flip 52 = .ok (.aload_n 3, 1) := by decide +kernel
theorem dX10_flip_53 : decode cX10_flip 53 = .ok (.getfield 126, 3) := by decide +kernel
theorem dX10_flip_56 : decode cX10_flip 56 = .ok (.invokevirtual 324, 3) := by decide +kernel
theorem dX10_flip_59 : decode cX10_flip 59 = .ok (.aload_n 0, 1) := by decide +kernel
theorem dX10_flip_60 : decode cX10_flip 60 = .ok (.invokevirtual 331, 3) := by decide +kernel
theorem dX10_flip_63 : decode cX10_flip 63 = .ok (.ireturn, 1) := by decide +kernel
theorem dX10_reset_0 : decode cX10_reset 0 = .ok (.aload_n 0, 1) := by decide +kernel
theorem dX10_reset_1 : decode cX10_reset 1 = .ok (.getfield 19, 3) := by decide +kernel
theorem dX10_reset_4 : decode cX10_reset 4 = .ok (.iload_n 1, 1) := by decide +kernel
theorem dX10_reset_5 : decode cX10_reset 5 = .ok (.invokevirtual 113, 3) := by decide +kernel
theorem dX10_reset_8 : decode cX10_reset 8 = .ok (.astore_n 2, 1) := by decide +kernel
theorem dX10_reset_9 : decode cX10_reset 9 = .ok (.aload_n 2, 1) := by decide +kernel
theorem dX10_reset_10 : decode cX10_reset 10 = .ok (.ifnonnull 9, 3) := by decide +kernel
theorem dX10_reset_13 : decode cX10_reset 13 = .ok (.aload_n 0, 1) := by decide +kernel
theorem dX10_reset_14 : decode cX10_reset 14 = .ok (.iconst 1, 1) := by decide +kernel
theorem dX10_reset_15 : decode cX10_reset 15 = .ok (.invokevirtual 328, 3) := by decide +kernel
theorem dX10_reset_18 : decode cX10_reset 18 = .ok (.ireturn, 1) := by decide +kernel
theorem dX10_reset_19 : decode cX10_reset 19 = .ok (.aload_n 2, 1) := by decide +kernel
theorem dX10_reset_20 : decode cX10_reset 20 = .ok (.getfield 118, 3) := by decide +kernel
theorem dX10_reset_23 : decode cX10_reset 23 = .ok (.invokevirtual 171, 3) := by decide +kernel
theorem dX10_reset_26 : decode cX10_reset 26 = .ok (.ifCond .eq 9, 3) := by decide +kernel
theorem dX10_reset_29 : decode cX10_reset 29 = .ok (.aload_n 0, 1) := by decide +kernel
theorem dX10_reset_30 : decode cX10_reset 30 = .ok (.iconst 5, 1) := by decide +kernel
theorem dX10_reset_31 : decode cX10_reset 31 = .ok (.invokevirtual 328, 3) := by decide +kernel
theorem dX10_reset_34 : decode cX10_reset 34 = .ok (.ireturn, 1) := by decide +kernel
theorem dX10_reset_35 : decode cX10_reset 35 = .ok (.aload_n 0, 1) := by decide +kernel
theorem dX10_reset_36 : decode cX10_reset 36 = .ok (.iload_n 1, 1) := by decide +kernel
theorem dX10_reset_37 : decode cX10_reset 37 = .ok (.aload_n 2, 1) := by decide +kernel
theorem dX10_reset_38 : decode cX10_reset 38 = .ok (.getfield 118, 3) := by decide +kernel
theorem dX10_reset_41 : decode cX10_reset 41 = .ok (.iconst 0, 1) := by decide +kernel
theorem dX10_reset_42 : decode cX10_reset 42 = .ok (.iconst 1, 1) := by decide +kernel
theorem dX10_reset_43 : decode cX10_reset 43 = .ok (.invokevirtual 324, 3) := by decide +kernel
theorem dX10_reset_46 : decode cX10_reset 46 = .ok (.aload_n 0, 1) := by decide +kernel
theorem dX10_reset_47 : decode cX10_reset 47 = .ok (.invokevirtual 331, 3) := by decide +kernel
theorem dX10_reset_50 : decode cX10_reset 50 = .ok (.ireturn, 1) := by decide +kernel
theorem dX10_join_0 : decode cX10_join 0 = .ok (.aload_n 0, 1) := by decide +kernel
theorem dX10_join_1 : decode cX10_join 1 = .ok (.getfield 19, 3) := by decide +kernel
theorem dX10_join_4 : decode cX10_join 4 = .ok (.iload_n 1, 1) := by decide +kernel
theorem dX10_join_5 : decode cX10_join 5 = .ok (.invokevirtual 113, 3) := by decide +kernel
theorem dX10_join_8 : decode cX10_join 8 = .ok (.astore_n 3, 1) := by decide +kernel
theorem dX10_join_9 : decode cX10_join 9 = .ok (.aload_n 0, 1) := by decide +kernel
theorem dX10_join_10 : decode cX10_join 10 = .ok (.getfield 19, 3) := by decide +kernel
theorem dX10_join_13 : decode cX10_join 13 = .ok (.iload_n 2, 1) := by decide +kernel
theorem dX10_join_14 : decode cX10_join 14 = .ok (.invokevirtual 113, 3) := by decide +kernel
theorem dX10_join_17 : decode cX10_join 17 = .ok (.astore 4, 2) := by decide +kernel
theorem dX10_join_19 : decode cX10_join 19 = .ok (.aload_n 3, 1) := by decide +kernel
theorem dX10_join_20 : decode cX10_join 20 = .ok (.ifnull 13, 3) := by decide +kernel
theorem dX10_join_23 : decode cX10_join 23 = .ok (.aload 4, 2) := by decide +kernel
theorem dX10_join_25 : decode cX10_join 25 = .ok (.ifnull 8, 3) := by decide +kernel
theorem dX10_join_28 : decode cX10_join 28 = .ok (.iload_n 1, 1) := by decide +kernel
theorem dX10_join_29 : decode cX10_join 29 = .ok (.iload_n 2, 1) := by decide +kernel
theorem dX10_join_30 : decode cX10_join 30 = .ok (.if_icmp .ne 10, 3) := by decide +kernel
theorem dX10_join_33 : decode cX10_join 33 = .ok (.aload_n 0, 1) := by decide +kernel
theorem dX10_join_34 : decode cX10_join 34 = .ok (.iconst 1, 1) := by decide +kernel
theorem dX10_join_35 : decode cX10_join 35 = .ok (.iconst (-1), 1) := by decide +kernel
theorem dX10_join_36 : decode cX10_join 36 = .ok (.invokevirtual 83, 3) := by decide +kernel
theorem dX10_join_39 : decode cX10_join 39 = .ok (.ireturn, 1) := by decide +kernel
theorem dX10_join_40 : decode cX10_join 40 = .ok (.aload_n 3, 1) := by decide +kernel
theorem dX10_join_41 : decode cX10_join 41 = .ok (.getfield 118, 3) := by decide +kernel
theorem dX10_join_44 : decode cX10_join 44 = .ok (.astore 5, 2) := by decide +kernel
theorem dX10_join_46 : decode cX10_join 46 = .ok (.aload 4, 2) := by decide +kernel
theorem dX10_join_48 : decode cX10_join 48 = .ok (.getfield 118, 3) := by decide +kernel
theorem dX10_join_51 : decode cX10_join 51 = .ok (.astore 6, 2) := by decide +kernel
theorem dX10_join_53 : decode cX10_join 53 = .ok (.aload 6, 2) := by decide +kernel
theorem dX10_join_55 : decode cX10_join 55 = .ok (.getfield 126, 3) := by decide +kernel
theorem dX10_join_58 : decode cX10_join 58 = .ok (.iconst 1, 1) := by decide +kernel
theorem dX10_join_59 : decode cX10_join 59 = .ok (.if_icmp .ne 19, 3) := by decide +kernel
theorem dX10_join_62 : decode cX10_join 62 = .ok (.aload 6, 2) := by decide +kernel
theorem dX10_join_64 : decode cX10_join 64 = .ok (.getfield 123, 3) := by decide +kernel
theorem dX10_join_67 : decode cX10_join 67 = .ok (.ifCond .eq 11, 3) := by decide +kernel
theorem dX10_join_70 : decode cX10_join 70 = .ok (.aload 5, 2) := by decide +kernel
theorem dX10_join_72 : decode cX10_join 72 = .ok (.getfield 126, 3) := by decide +kernel
theorem dX10_join_75 : decode cX10_join 75 = .ok (.ifCond .ne 10, 3) := by decide +kernel
theorem dX10_join_78 : decode cX10_join 78 = .ok (.aload_n 0, 1) := by decide +kernel
theorem dX10_join_79 : decode cX10_join 79 = .ok (.iconst 5, 1) := by decide +kernel
theorem dX10_join_80 : decode cX10_join 80 = .ok (.iconst (-1), 1) := by decide +kernel
theorem dX10_join_81 : decode cX10_join 81 = .ok (.invokevirtual 83, 3) := by decide +kernel
theorem dX10_join_84 : decode cX10_join 84 = .ok (.ireturn, 1) := by decide +kernel
theorem dX10_join_85 : decode cX10_join 85 = .ok (.aload 5, 2) := by decide +kernel
theorem dX10_join_87 : decode cX10_join 87 = .ok (.getfield 123, 3) := by decide +kernel
theorem dX10_join_90 : decode cX10_join 90 = .ok (.aload 6, 2) := by decide +kernel
theorem dX10_join_92 : decode cX10_join 92 = .ok (.getfield 123, 3) := by decide +kernel
theorem dX10_join_95 : decode cX10_join 95 = .ok (.aload 5, 2) := by decide +kernel
theorem dX10_join_97 : decode cX10_join 97 = .ok (.getfield 126, 3) := by decide +kernel
theorem dX10_join_100 : decode cX10_join 100 = .ok (.imul, 1) := by decide +kernel
theorem dX10_join_101 : decode cX10_join 101 = .ok (.iadd, 1) := by decide +kernel
theorem dX10_join_102 : decode cX10_join 102 = .ok (.istore 7, 2) := by decide +kernel
theorem dX10_join_104 : decode cX10_join 104 = .ok (.iload 7, 2) := by decide +kernel
theorem dX10_join_106 : decode cX10_join 106 = .ok (.aload 5, 2) := by decide +kernel
theorem dX10_join_108 : decode cX10_join 108 = .ok (.getfield 126, 3) := by decide +kernel
theorem dX10_join_111 : decode cX10_join 111 = .ok (.invokestatic 321, 3) := by decide +kernel
theorem dX10_join_114 : decode cX10_join 114 = .ok (.ifCond .eq 10, 3) := by decide +kernel
theorem dX10_join_117 : decode cX10_join 117 = .ok (.aload_n 0, 1) := by decide +kernel
theorem dX10_join_118 : decode cX10_join 118 = .ok (.iconst 3, 1) := by decide +kernel
theorem dX10_join_119 : decode cX10_join 119 = .ok (.iconst (-1), 1) := by decide +kernel
theorem dX10_join_120 : decode cX10_join 120 = .ok (.invokevirtual 83, 3) := by decide +kernel
theorem dX10_join_123 : decode cX10_join 123 = .ok (.ireturn, 1) := by decide +kernel
theorem dX10_join_124 : decode cX10_join 124 = .ok (.aload_n 0, 1) := by decide +kernel
theorem dX10_join_125 : decode cX10_join 125 = .ok (.iload_n 1, 1) := by decide +kernel
theorem dX10_join_126 : decode cX10_join 126 = .ok (.aload 5, 2) := by decide +kernel
theorem dX10_join_128 : decode cX10_join 128 = .ok (.iload 7, 2) := by decide +kernel
theorem dX10_join_130 : decode cX10_join 130 = .ok (.aload 5, 2) := by decide +kernel
theorem dX10_join_132 : decode cX10_join 132 = .ok (.getfield 126, 3) := by decide +kernel
theorem dX10_join_135 : decode cX10_join 135 = .ok (.invokevirtual 324, 3) := by decide +kernel
theorem dX10_join_138 : decode cX10_join 138 = .ok (.aload_n 0, 1) := by decide +kernel
theorem dX10_join_139 : decode cX10_join 139 = .ok (.aload 5, 2) := by decide +kernel
theorem dX10_join_141 : decode cX10_join 141 = .ok (.invokevirtual 143, 3) := by decide +kernel
theorem dX10_join_144 : decode cX10_join 144 = .ok (.invokevirtual 100, 3) := by decide +kernel
theorem dX10_join_147 : decode cX10_join 147 = .ok (.ireturn, 1) := by decide +kernel
theorem dX10_undo_0 : decode cX10_undo 0 = .ok (.aload_n 0, 1) := by decide +kernel
theorem dX10_undo_1 : decode cX10_undo 1 = .ok (.getfield 29, 3) := by decide +kernel
theorem dX10_undo_4 : decode cX10_undo 4 = .ok (.getfield 334, 3) := by decide +kernel
theorem dX10_undo_7 : decode cX10_undo 7 = .ok (.ifCond .ne 10, 3) := by decide +kernel
theorem dX10_undo_10 : decode cX10_undo 10 = .ok (.aload_n 0, 1) := by decide +kernel
theorem dX10_undo_11 : decode cX10_undo 11 = .ok (.bipush 6, 2) := by decide +kernel
theorem dX10_undo_13 : decode cX10_undo 13 = .ok (.invokevirtual 328, 3) := by decide +kernel
theorem dX10_undo_16 : decode cX10_undo 16 = .ok (.ireturn, 1) := by decide +kernel
theorem dX10_undo_17 : decode cX10_undo 17 = .ok (.aload_n 0, 1) := by decide +kernel
theorem dX10_undo_18 : decode cX10_undo 18 = .ok (.getfield 29, 3) := by decide +kernel
theorem dX10_undo_21 : decode cX10_undo 21 = .ok (.aload_n 0, 1) := by decide +kernel
theorem dX10_undo_22 : decode cX10_undo 22 = .ok (.getfield 19, 3) := by decide +kernel
theorem dX10_undo_25 : decode cX10_undo 25 = .ok (.invokevirtual 337, 3) := by decide +kernel
theorem dX10_undo_28 : decode cX10_undo 28 = .ok (.aload_n 0, 1) := by decide +kernel
theorem dX10_undo_29 : decode cX10_undo 29 = .ok (.invokevirtual 331, 3) := by decide +kernel
theorem dX10_undo_32 : decode cX10_undo 32 = .ok (.ireturn, 1) := by decide +kernel
theorem dX10_image_0 : decode cX10_image 0 = .ok (.aload_n 0, 1) := by decide +kernel
theorem dX10_image_1 : decode cX10_image 1 = .ok (.invokevirtual 255, 3) := by decide +kernel
theorem dX10_image_4 : decode cX10_image 4 = .ok (.ifCond .ne 10, 3) := by decide +kernel
theorem dX10_image_7 : decode cX10_image 7 = .ok (.aload_n 0, 1) := by decide +kernel
theorem dX10_image_8 : decode cX10_image 8 = .ok (.iconst 1, 1) := by decide +kernel
theorem dX10_image_9 : decode cX10_image 9 = .ok (.iconst (-1), 1) := by decide +kernel
theorem dX10_image_10 : decode cX10_image 10 = .ok (.invokevirtual 83, 3) := by decide +kernel
theorem dX10_image_13 : decode cX10_image 13 = .ok (.ireturn, 1) := by decide +kernel
theorem dX10_image_14 : decode cX10_image 14 = .ok (.aload_n 0, 1) := by decide +kernel
theorem dX10_image_15 : decode cX10_image 15 = .ok (.getfield 29, 3) := by decide +kernel
theorem dX10_image_18 : decode cX10_image 18 = .ok (.getfield 341, 3) := by decide +kernel
theorem dX10_image_21 : decode cX10_image 21 = .ok (.iconst 3, 1) := by decide +kernel
theorem dX10_image_22 : decode cX10_image 22 = .ok (.if_icmp .lt 10, 3) := by decide +kernel
theorem dX10_image_25 : decode cX10_image 25 = .ok (.aload_n 0, 1) := by decide +kernel
theorem dX10_image_26 : decode cX10_image 26 = .ok (.iconst 3, 1) := by decide +kernel
theorem dX10_image_27 : decode cX10_image 27 = .ok (.iconst (-1), 1) := by decide +kernel
theorem dX10_image_28 : decode cX10_image 28 = .ok (.invokevirtual 83, 3) := by decide +kernel
theorem dX10_image_31 : decode cX10_image 31 = .ok (.ireturn, 1) := by decide +kernel
theorem dX10_image_32 : decode cX10_image 32 = .ok (.aload_n 0, 1) := by decide +kernel
theorem dX10_image_33 : decode cX10_image 33 = .ok (.getfield 29, 3) := by decide +kernel
theorem dX10_image_36 : decode cX10_image 36 = .ok (.aload_n 0, 1) := by decide +kernel
theorem dX10_image_37 : decode cX10_image 37 = .ok (.getfield 19, 3) := by decide +kernel
theorem dX10_image_40 : decode cX10_image 40 = .ok (.invokevirtual 344, 3) := by decide +kernel
theorem dX10_image_43 : decode cX10_image 43 = .ok (.aload_n 0, 1) := by decide +kernel
theorem dX10_image_44 : decode cX10_image 44 = .ok (.aload_n 0, 1) := by decide +kernel
theorem dX10_image_45 : decode cX10_image 45 = .ok (.getfield 29, 3) := by decide +kernel
theorem dX10_image_48 : decode cX10_image 48 = .ok (.getfield 341, 3) := by decide +kernel
theorem dX10_image_51 : decode cX10_image 51 = .ok (.iconst 1, 1) := by decide +kernel
theorem dX10_image_52 : decode cX10_image 52 = .ok (.isub, 1) := by decide +kernel
theorem dX10_image_53 : decode cX10_image 53 = .ok (.invokevirtual 100, 3) := by decide +kernel
theorem dX10_image_56 : decode cX10_image 56 = .ok (.ireturn, 1) := by decide +kernel
theorem dX10_back_0 : decode cX10_back 0 = .ok (.iload_n 1, 1) := by decide +kernel
theorem dX10_back_1 : decode cX10_back 1 = .ok (.ifCond .lt 14, 3) := by decide +kernel
theorem dX10_back_4 : decode cX10_back 4 = .ok (.iload_n 1, 1) := by decide +kernel
theorem dX10_back_5 : decode cX10_back 5 = .ok (.aload_n 0, 1) := by decide +kernel
theorem dX10_back_6 : decode cX10_back 6 = .ok (.getfield 29, 3) := by decide +kernel
theorem dX10_back_9 : decode cX10_back 9 = .ok (.getfield 341, 3) := by decide +kernel
theorem dX10_back_12 : decode cX10_back 12 = .ok (.if_icmp .lt 9, 3) := by decide +kernel
theorem dX10_back_15 : decode cX10_back 15 = .ok (.aload_n 0, 1) := by decide +kernel
theorem dX10_back_16 : decode cX10_back 16 = .ok (.iconst 1, 1) := by decide +kernel
theorem dX10_back_17 : decode cX10_back 17 = .ok (.invokevirtual 328, 3) := by decide +kernel
theorem dX10_back_20 : decode cX10_back 20 = .ok (.ireturn, 1) := by decide +kernel
theorem dX10_back_21 : decode cX10_back 21 = .ok (.aload_n 0, 1) := by decide +kernel
theorem dX10_back_22 : decode cX10_back 22 = .ok (.getfield 29, 3) := by decide +kernel
theorem dX10_back_25 : decode cX10_back 25 = .ok (.iload_n 1, 1) := by decide +kernel
theorem dX10_back_26 : decode cX10_back 26 = .ok (.aload_n 0, 1) := by decide +kernel
theorem dX10_back_27 : decode cX10_back 27 = .ok (.getfield 19, 3) := by decide +kernel
theorem dX10_back_30 : decode cX10_back 30 = .ok (.invokevirtual 347, 3) := by decide +kernel
theorem dX10_back_33 : decode cX10_back 33 = .ok (.aload_n 0, 1) := by decide +kernel
theorem dX10_back_34 : decode cX10_back 34 = .ok (.invokevirtual 331, 3) := by decide +kernel
theorem dX10_back_37 : decode cX10_back 37 = .ok (.ireturn, 1) := by decide +kernel
theorem dX10_led_0 : decode cX10_led 0 = .ok (.iconst 0, 1) := by decide +kernel
theorem dX10_led_1 : decode cX10_led 1 = .ok (.istore_n 2, 1) := by decide +kernel
theorem dX10_led_2 : decode cX10_led 2 = .ok (.iconst 0, 1) := by decide +kernel
theorem dX10_led_3 : decode cX10_led 3 = .ok (.istore_n 3, 1) := by decide +kernel
theorem dX10_led_4 : decode cX10_led 4 = .ok (.iload_n 3, 1) := by decide +kernel
theorem dX10_led_5 : decode cX10_led 5 = .ok (.aload_n 0, 1) := by decide +kernel
theorem dX10_led_6 : decode cX10_led 6 = .ok (.getfield 19, 3) := by decide +kernel
theorem dX10_led_9 : decode cX10_led 9 = .ok (.getfield 97, 3) := by decide +kernel
theorem dX10_led_12 : decode cX10_led 12 = .ok (.if_icmp .ge 48, 3) := by decide +kernel
theorem dX10_led_15 : decode cX10_led 15 = .ok (.aload_n 0, 1) := by decide +kernel
theorem dX10_led_16 : decode cX10_led 16 = .ok (.getfield 19, 3) := by decide +kernel
theorem dX10_led_19 : decode cX10_led 19 = .ok (.iload_n 3, 1) := by decide +kernel
theorem dX10_led_20 : decode cX10_led 20 = .ok (.invokevirtual 113, 3) := by decide +kernel
theorem dX10_led_23 : decode cX10_led 23 = .ok (.astore 4, 2) := by decide +kernel
theorem dX10_led_25 : decode cX10_led 25 = .ok (.aload 4, 2) := by decide +kernel
theorem dX10_led_27 : decode cX10_led 27 = .ok (.ifnull 27, 3) := by decide +kernel
theorem dX10_led_30 : decode cX10_led 30 = .ok (.aload 4, 2) := by decide +kernel
theorem dX10_led_32 : decode cX10_led 32 = .ok (.getfield 118, 3) := by decide +kernel
theorem dX10_led_35 : decode cX10_led 35 = .ok (.invokevirtual 171, 3) := by decide +kernel
theorem dX10_led_38 : decode cX10_led 38 = .ok (.ifCond .ne 6, 3) := by decide +kernel
theorem dX10_led_41 : decode cX10_led 41 = .ok (.goto 13, 3) := by decide +kernel
theorem dX10_led_44 : decode cX10_led 44 = .ok (.iload_n 2, 1) := by decide +kernel
theorem dX10_led_45 : decode cX10_led 45 = .ok (.iload_n 1, 1) := by decide +kernel
theorem dX10_led_46 : decode cX10_led 46 = .ok (.if_icmp .ne 5, 3) := by decide +kernel
theorem dX10_led_49 : decode cX10_led 49 = .ok (.iload_n 3, 1) := by decide +kernel
theorem dX10_led_50 : decode cX10_led 50 = .ok (.ireturn, 1) := by decide +kernel
theorem dX10_led_51 : decode cX10_led 51 = .ok (.iinc 2 1, 3) := by decide +kernel
theorem dX10_led_54 : decode cX10_led 54 = .ok (.iinc 3 1, 3) := by decide +kernel
theorem dX10_led_57 : decode cX10_led 57 = .ok (.goto (-53), 3) := by decide +kernel
theorem dX10_led_60 : decode cX10_led 60 = .ok (.new 351, 3) := by decide +kernel
theorem dX10_led_63 : decode cX10_led 63 = .ok (.dup, 1) := by decide +kernel
theorem dX10_led_64 : decode cX10_led 64 = .ok (.invokespecial 353, 3) := by decide +kernel
theorem dX10_led_67 : decode cX10_led 67 = .ok (.athrow, 1) := by decide +kernel
theorem dX10_size_0 : decode cX10_size 0 = .ok (.iload_n 1, 1) := by decide +kernel
theorem dX10_size_1 : decode cX10_size 1 = .ok (.tableswitch 99 0 6 #[43, 51, 59, 67, 75, 83, 91], 43) := by decide +kernel
theorem dX10_size_44 : decode cX10_size 44 = .ok (.aload_n 0, 1) := by decide +kernel
theorem dX10_size_45 : decode cX10_size 45 = .ok (.getfield 19, 3) := by decide +kernel
theorem dX10_size_48 : decode cX10_size 48 = .ok (.getfield 354, 3) := by decide +kernel
theorem dX10_size_51 : decode cX10_size 51 = .ok (.ireturn, 1) := by decide +kernel
theorem dX10_size_52 : decode cX10_size 52 = .ok (.aload_n 0, 1) := by decide +kernel
theorem dX10_size_53 : decode cX10_size 53 = .ok (.getfield 19, 3) := by decide +kernel
theorem dX10_size_56 : decode cX10_size 56 = .ok (.getfield 97, 3) := by decide +kernel
theorem dX10_size_59 : decode cX10_size 59 = .ok (.ireturn, 1) := by decide +kernel
theorem dX10_size_60 : decode cX10_size 60 = .ok (.aload_n 0, 1) := by decide +kernel
theorem dX10_size_61 : decode cX10_size 61 = .ok (.getfield 19, 3) := by decide +kernel
theorem dX10_size_64 : decode cX10_size 64 = .ok (.getfield 357, 3) := by decide +kernel
theorem dX10_size_67 : decode cX10_size 67 = .ok (.ireturn, 1) := by decide +kernel
theorem dX10_size_68 : decode cX10_size 68 = .ok (.aload_n 0, 1) := by decide +kernel
theorem dX10_size_69 : decode cX10_size 69 = .ok (.getfield 19, 3) := by decide +kernel
theorem dX10_size_72 : decode cX10_size 72 = .ok (.getfield 279, 3) := by decide +kernel
theorem dX10_size_75 : decode cX10_size 75 = .ok (.ireturn, 1) := by decide +kernel
theorem dX10_size_76 : decode cX10_size 76 = .ok (.aload_n 0, 1) := by decide +kernel
theorem dX10_size_77 : decode cX10_size 77 = .ok (.getfield 29, 3) := by decide +kernel
theorem dX10_size_80 : decode cX10_size 80 = .ok (.getfield 334, 3) := by decide +kernel
theorem dX10_size_83 : decode cX10_size 83 = .ok (.ireturn, 1) := by decide +kernel
theorem dX10_size_84 : decode cX10_size 84 = .ok (.aload_n 0, 1) := by decide +kernel
theorem dX10_size_85 : decode cX10_size 85 = .ok (.getfield 29, 3) := by decide +kernel
theorem dX10_size_88 : decode cX10_size 88 = .ok (.getfield 341, 3) := by decide +kernel
theorem dX10_size_91 : decode cX10_size 91 = .ok (.ireturn, 1) := by decide +kernel
theorem dX10_size_92 : decode cX10_size 92 = .ok (.aload_n 0, 1) := by decide +kernel
theorem dX10_size_93 : decode cX10_size 93 = .ok (.getfield 10, 3) := by decide +kernel
theorem dX10_size_96 : decode cX10_size 96 = .ok (.getfield 79, 3) := by decide +kernel
theorem dX10_size_99 : decode cX10_size 99 = .ok (.ireturn, 1) := by decide +kernel
theorem dX10_size_100 : decode cX10_size 100 = .ok (.iconst (-1), 1) := by decide +kernel
theorem dX10_size_101 : decode cX10_size 101 = .ok (.ireturn, 1) := by decide +kernel
theorem dX10_trouble_0 : decode cX10_trouble 0 = .ok (.aload_n 0, 1) := by decide +kernel
theorem dX10_trouble_1 : decode cX10_trouble 1 = .ok (.getfield 107, 3) := by decide +kernel
theorem dX10_trouble_4 : decode cX10_trouble 4 = .ok (.ireturn, 1) := by decide +kernel
theorem dX10_accept_0 : decode cX10_accept 0 = .ok (.aload_n 0, 1) := by decide +kernel
theorem dX10_accept_1 : decode cX10_accept 1 = .ok (.iconst 0, 1) := by decide +kernel
theorem dX10_accept_2 : decode cX10_accept 2 = .ok (.putfield 107, 3) := by decide +kernel
theorem dX10_accept_5 : decode cX10_accept 5 = .ok (.iload_n 1, 1) := by decide +kernel
theorem dX10_accept_6 : decode cX10_accept 6 = .ok (.ireturn, 1) := by decide +kernel
theorem dX10_refuse_0 : decode cX10_refuse 0 = .ok (.aload_n 0, 1) := by decide +kernel
theorem dX10_refuse_1 : decode cX10_refuse 1 = .ok (.iload_n 1, 1) := by decide +kernel
theorem dX10_refuse_2 : decode cX10_refuse 2 = .ok (.putfield 107, 3) := by decide +kernel
theorem dX10_refuse_5 : decode cX10_refuse 5 = .ok (.iload_n 2, 1) := by decide +kernel
theorem dX10_refuse_6 : decode cX10_refuse 6 = .ok (.ireturn, 1) := by decide +kernel
theorem dX10_grant_0 : decode cX10_grant 0 = .ok (.aload_n 0, 1) := by decide +kernel
theorem dX10_grant_1 : decode cX10_grant 1 = .ok (.iconst 0, 1) := by decide +kernel
theorem dX10_grant_2 : decode cX10_grant 2 = .ok (.putfield 107, 3) := by decide +kernel
theorem dX10_grant_5 : decode cX10_grant 5 = .ok (.iconst 1, 1) := by decide +kernel
theorem dX10_grant_6 : decode cX10_grant 6 = .ok (.ireturn, 1) := by decide +kernel
theorem dX10_deny_0 : decode cX10_deny 0 = .ok (.aload_n 0, 1) := by decide +kernel
theorem dX10_deny_1 : decode cX10_deny 1 = .ok (.iload_n 1, 1) := by decide +kernel
theorem dX10_deny_2 : decode cX10_deny 2 = .ok (.putfield 107, 3) := by decide +kernel
theorem dX10_deny_5 : decode cX10_deny 5 = .ok (.iconst 0, 1) := by decide +kernel
theorem dX10_deny_6 : decode cX10_deny 6 = .ok (.ireturn, 1) := by decide +kernel
theorem dX10_hasHall_0 : decode cX10_hasHall 0 = .ok (.aload_n 0, 1) := by decide +kernel
theorem dX10_hasHall_1 : decode cX10_hasHall 1 = .ok (.getfield 19, 3) := by decide +kernel
theorem dX10_hasHall_4 : decode cX10_hasHall 4 = .ok (.getfield 97, 3) := by decide +kernel
theorem dX10_hasHall_7 : decode cX10_hasHall 7 = .ok (.ifCond .le 7, 3) := by decide +kernel
theorem dX10_hasHall_10 : decode cX10_hasHall 10 = .ok (.iconst 1, 1) := by decide +kernel
theorem dX10_hasHall_11 : decode cX10_hasHall 11 = .ok (.goto 4, 3) := by decide +kernel
theorem dX10_hasHall_14 : decode cX10_hasHall 14 = .ok (.iconst 0, 1) := by decide +kernel
theorem dX10_hasHall_15 : decode cX10_hasHall 15 = .ok (.ireturn, 1) := by decide +kernel
theorem dX10_numberTrouble_0 : decode cX10_numberTrouble 0 = .ok (.aload_n 0, 1) := by decide +kernel
theorem dX10_numberTrouble_1 : decode cX10_numberTrouble 1 = .ok (.invokevirtual 255, 3) := by decide +kernel
theorem dX10_numberTrouble_4 : decode cX10_numberTrouble 4 = .ok (.ifCond .ne 5, 3) := by decide +kernel
theorem dX10_numberTrouble_7 : decode cX10_numberTrouble 7 = .ok (.iconst 1, 1) := by decide +kernel
theorem dX10_numberTrouble_8 : decode cX10_numberTrouble 8 = .ok (.ireturn, 1) := by decide +kernel
theorem dX10_numberTrouble_9 : decode cX10_numberTrouble 9 = .ok (.iload_n 1, 1) := by decide +kernel
theorem dX10_numberTrouble_10 : decode cX10_numberTrouble 10 = .ok (.iload_n 2, 1) := by decide +kernel
theorem dX10_numberTrouble_11 : decode cX10_numberTrouble 11 = .ok (.if_icmp .lt 8, 3) := by decide +kernel
theorem dX10_numberTrouble_14 : decode cX10_numberTrouble 14 = .ok (.iload_n 1, 1) := by decide +kernel
theorem dX10_numberTrouble_15 : decode cX10_numberTrouble 15 = .ok (.iload_n 3, 1) := by decide +kernel
theorem dX10_numberTrouble_16 : decode cX10_numberTrouble 16 = .ok (.if_icmp .le 7, 3) := by decide +kernel
theorem dX10_numberTrouble_19 : decode cX10_numberTrouble 19 = .ok (.iconst 2, 1) := by decide +kernel
theorem dX10_numberTrouble_20 : decode cX10_numberTrouble 20 = .ok (.goto 4, 3) := by decide +kernel
theorem dX10_numberTrouble_23 : decode cX10_numberTrouble 23 = .ok (.iconst 0, 1) := by decide +kernel
theorem dX10_numberTrouble_24 : decode cX10_numberTrouble 24 = .ok (.ireturn, 1) := by decide +kernel
theorem dX10_walkTrouble_0 : decode cX10_walkTrouble 0 = .ok (.aload_n 0, 1) := by decide +kernel
theorem dX10_walkTrouble_1 : decode cX10_walkTrouble 1 = .ok (.getfield 19, 3) := by decide +kernel
theorem dX10_walkTrouble_4 : decode cX10_walkTrouble 4 = .ok (.iload_n 1, 1) := by decide +kernel
theorem dX10_walkTrouble_5 : decode cX10_walkTrouble 5 = .ok (.invokevirtual 113, 3) := by decide +kernel
theorem dX10_walkTrouble_8 : decode cX10_walkTrouble 8 = .ok (.astore_n 3, 1) := by decide +kernel
theorem dX10_walkTrouble_9 : decode cX10_walkTrouble 9 = .ok (.aload_n 3, 1) := by decide +kernel
theorem dX10_walkTrouble_10 : decode cX10_walkTrouble 10 = .ok (.ifnonnull 5, 3) := by decide +kernel
theorem dX10_walkTrouble_13 : decode cX10_walkTrouble 13 = .ok (.iconst 1, 1) := by decide +kernel
theorem dX10_walkTrouble_14 : decode cX10_walkTrouble 14 = .ok (.ireturn, 1) := by decide +kernel
theorem dX10_walkTrouble_15 : decode cX10_walkTrouble 15 = .ok (.iload_n 2, 1) := by decide +kernel
theorem dX10_walkTrouble_16 : decode cX10_walkTrouble 16 = .ok (.ifCond .lt 11, 3) := by decide +kernel
theorem dX10_walkTrouble_19 : decode cX10_walkTrouble 19 = .ok (.iload_n 2, 1) := by decide +kernel
theorem dX10_walkTrouble_20 : decode cX10_walkTrouble 20 = .ok (.aload_n 3, 1) := by decide +kernel
theorem dX10_walkTrouble_21 : decode cX10_walkTrouble 21 = .ok (.getfield 146, 3) := by decide +kernel
theorem dX10_walkTrouble_24 : decode cX10_walkTrouble 24 = .ok (.if_icmp .le 5, 3) := by decide +kernel
theorem dX10_walkTrouble_27 : decode cX10_walkTrouble 27 = .ok (.iconst 2, 1) := by decide +kernel
theorem dX10_walkTrouble_28 : decode cX10_walkTrouble 28 = .ok (.ireturn, 1) := by decide +kernel
theorem dX10_walkTrouble_29 : decode cX10_walkTrouble 29 = .ok (.aload_n 3, 1) := by decide +kernel
theorem dX10_walkTrouble_30 : decode cX10_walkTrouble 30 = .ok (.iload_n 2, 1) := by decide +kernel
theorem dX10_walkTrouble_31 : decode cX10_walkTrouble 31 = .ok (.iconst 0, 1) := by decide +kernel
theorem dX10_walkTrouble_32 : decode cX10_walkTrouble 32 = .ok (.aload_n 0, 1) := by decide +kernel
theorem dX10_walkTrouble_33 : decode cX10_walkTrouble 33 = .ok (.getfield 36, 3) := by decide +kernel
theorem dX10_walkTrouble_36 : decode cX10_walkTrouble 36 = .ok (.invokevirtual 155, 3) := by decide +kernel
theorem dX10_walkTrouble_39 : decode cX10_walkTrouble 39 = .ok (.iconst 0, 1) := by decide +kernel
theorem dX10_walkTrouble_40 : decode cX10_walkTrouble 40 = .ok (.ireturn, 1) := by decide +kernel
theorem dX10_goalTrouble_0 : decode cX10_goalTrouble 0 = .ok (.aload_n 0, 1) := by decide +kernel
theorem dX10_goalTrouble_1 : decode cX10_goalTrouble 1 = .ok (.getfield 19, 3) := by decide +kernel
theorem dX10_goalTrouble_4 : decode cX10_goalTrouble 4 = .ok (.iload_n 1, 1) := by decide +kernel
theorem dX10_goalTrouble_5 : decode cX10_goalTrouble 5 = .ok (.invokevirtual 113, 3) := by decide +kernel
theorem dX10_goalTrouble_8 : decode cX10_goalTrouble 8 = .ok (.ifnonnull 5, 3) := by decide +kernel
theorem dX10_goalTrouble_11 : decode cX10_goalTrouble 11 = .ok (.iconst 1, 1) := by decide +kernel
theorem dX10_goalTrouble_12 : decode cX10_goalTrouble 12 = .ok (.ireturn, 1) := by decide +kernel
theorem dX10_goalTrouble_13 : decode cX10_goalTrouble 13 = .ok (.iload_n 2, 1) := by decide +kernel
theorem dX10_goalTrouble_14 : decode cX10_goalTrouble 14 = .ok (.iload_n 3, 1) := by decide +kernel
theorem dX10_goalTrouble_15 : decode cX10_goalTrouble 15 = .ok (.invokestatic 360, 3) := by decide +kernel
theorem dX10_goalTrouble_18 : decode cX10_goalTrouble 18 = .ok (.ifCond .eq 7, 3) := by decide +kernel
theorem dX10_goalTrouble_21 : decode cX10_goalTrouble 21 = .ok (.iconst 0, 1) := by decide +kernel
theorem dX10_goalTrouble_22 : decode cX10_goalTrouble 22 = .ok (.goto 4, 3) := by decide +kernel
theorem dX10_goalTrouble_25 : decode cX10_goalTrouble 25 = .ok (.iconst 2, 1) := by decide +kernel
theorem dX10_goalTrouble_26 : decode cX10_goalTrouble 26 = .ok (.ireturn, 1) := by decide +kernel
theorem dX10_betweenTrouble_0 : decode cX10_betweenTrouble 0 = .ok (.aload_n 0, 1) := by decide +kernel
theorem dX10_betweenTrouble_1 : decode cX10_betweenTrouble 1 = .ok (.getfield 19, 3) := by decide +kernel
theorem dX10_betweenTrouble_4 : decode cX10_betweenTrouble 4 = .ok (.iload_n 1, 1) := by decide +kernel
theorem dX10_betweenTrouble_5 : decode cX10_betweenTrouble 5 = .ok (.invokevirtual 113, 3) := by decide +kernel
theorem dX10_betweenTrouble_8 : decode cX10_betweenTrouble 8 = .ok (.astore_n 3, 1) := by decide +kernel
theorem dX10_betweenTrouble_9 : decode cX10_betweenTrouble 9 = .ok (.aload_n 0, 1) := by decide +kernel
theorem dX10_betweenTrouble_10 : decode cX10_betweenTrouble 10 = .ok (.getfield 19, 3) := by decide +kernel
theorem dX10_betweenTrouble_13 : decode cX10_betweenTrouble 13 = .ok (.iload_n 2, 1) := by decide +kernel
theorem dX10_betweenTrouble_14 : decode cX10_betweenTrouble 14 = .ok (.invokevirtual 113, 3) := by decide +kernel
theorem dX10_betweenTrouble_17 : decode cX10_betweenTrouble 17 = .ok (.astore 4, 2) := by decide +kernel
theorem dX10_betweenTrouble_19 : decode cX10_betweenTrouble 19 = .ok (.aload_n 3, 1) := by decide +kernel
theorem dX10_betweenTrouble_20 : decode cX10_betweenTrouble 20 = .ok (.ifnull 13, 3) := by decide +kernel
theorem dX10_betweenTrouble_23 : decode cX10_betweenTrouble 23 = .ok (.aload 4, 2) := by decide +kernel
theorem dX10_betweenTrouble_25 : decode cX10_betweenTrouble 25 = .ok (.ifnull 8, 3) := by decide +kernel
theorem dX10_betweenTrouble_28 : decode cX10_betweenTrouble 28 = .ok (.iload_n 1, 1) := by decide +kernel
theorem dX10_betweenTrouble_29 : decode cX10_betweenTrouble 29 = .ok (.iload_n 2, 1) := by decide +kernel
theorem dX10_betweenTrouble_30 : decode cX10_betweenTrouble 30 = .ok (.if_icmp .ne 5, 3) := by decide +kernel
theorem dX10_betweenTrouble_33 : decode cX10_betweenTrouble 33 = .ok (.iconst 1, 1) := by decide +kernel
theorem dX10_betweenTrouble_34 : decode cX10_betweenTrouble 34 = .ok (.ireturn, 1) := by decide +kernel
theorem dX10_betweenTrouble_35 : decode cX10_betweenTrouble 35 = .ok (.aload_n 3, 1) := by decide +kernel
theorem dX10_betweenTrouble_36 : decode cX10_betweenTrouble 36 = .ok (.getfield 118, 3) := by decide +kernel
theorem dX10_betweenTrouble_39 : decode cX10_betweenTrouble 39 = .ok (.astore 5, 2) := by decide +kernel
theorem dX10_betweenTrouble_41 : decode cX10_betweenTrouble 41 = .ok (.aload 4, 2) := by decide +kernel
theorem dX10_betweenTrouble_43 : decode cX10_betweenTrouble 43 = .ok (.getfield 118, 3) := by decide +kernel
theorem dX10_betweenTrouble_46 : decode cX10_betweenTrouble 46 = .ok (.astore 6, 2) := by decide +kernel
theorem dX10_betweenTrouble_48 : decode cX10_betweenTrouble 48 = .ok (.aload 5, 2) := by decide +kernel
theorem dX10_betweenTrouble_50 : decode cX10_betweenTrouble 50 = .ok (.getfield 126, 3) := by decide +kernel
theorem dX10_betweenTrouble_53 : decode cX10_betweenTrouble 53 = .ok (.ifCond .eq 21, 3) := by decide +kernel
theorem dX10_betweenTrouble_56 : decode cX10_betweenTrouble 56 = .ok (.aload 6, 2) := by decide +kernel
theorem dX10_betweenTrouble_58 : decode cX10_betweenTrouble 58 = .ok (.getfield 126, 3) := by decide +kernel
theorem dX10_betweenTrouble_61 : decode cX10_betweenTrouble 61 = .ok (.ifCond .eq 13, 3) := by decide +kernel
theorem dX10_betweenTrouble_64 : decode cX10_betweenTrouble 64 = .ok (.aload 5, 2) := by decide +kernel
theorem dX10_betweenTrouble_66 : decode cX10_betweenTrouble 66 = .ok (.aload 6, 2) := by decide +kernel
theorem dX10_betweenTrouble_68 : decode cX10_betweenTrouble 68 = .ok (.invokevirtual 363, 3) := by decide +kernel
theorem dX10_betweenTrouble_71 : decode cX10_betweenTrouble 71 = .ok (.ifCond .eq 5, 3) := by decide +kernel
theorem dX10_betweenTrouble_74 : decode cX10_betweenTrouble 74 = .ok (.iconst 5, 1) := by decide +kernel
theorem dX10_betweenTrouble_75 : decode cX10_betweenTrouble 75 = .ok (.ireturn, 1) := by decide +kernel
theorem dX10_betweenTrouble_76 : decode cX10_betweenTrouble 76 = .ok (.aload 5, 2) := by decide +kernel
theorem dX10_betweenTrouble_78 : decode cX10_betweenTrouble 78 = .ok (.getfield 123, 3) := by decide +kernel
theorem dX10_betweenTrouble_81 : decode cX10_betweenTrouble 81 = .ok (.aload 6, 2) := by decide +kernel
theorem dX10_betweenTrouble_83 : decode cX10_betweenTrouble 83 = .ok (.getfield 126, 3) := by decide +kernel
theorem dX10_betweenTrouble_86 : decode cX10_betweenTrouble 86 = .ok (.imul, 1) := by decide +kernel
theorem dX10_betweenTrouble_87 : decode cX10_betweenTrouble 87 = .ok (.aload 6, 2) := by decide +kernel
theorem dX10_betweenTrouble_89 : decode cX10_betweenTrouble 89 = .ok (.getfield 123, 3) := by decide +kernel
theorem dX10_betweenTrouble_92 : decode cX10_betweenTrouble 92 = .ok (.aload 5, 2) := by decide +kernel
theorem dX10_betweenTrouble_94 : decode cX10_betweenTrouble 94 = .ok (.getfield 126, 3) := by decide +kernel
theorem dX10_betweenTrouble_97 : decode cX10_betweenTrouble 97 = .ok (.imul, 1) := by decide +kernel
theorem dX10_betweenTrouble_98 : decode cX10_betweenTrouble 98 = .ok (.if_icmp .ge 17, 3) := by decide +kernel
theorem dX10_betweenTrouble_101 : decode cX10_betweenTrouble 101 = .ok (.aload 5, 2) := by decide +kernel
theorem dX10_betweenTrouble_103 : decode cX10_betweenTrouble 103 = .ok (.aload 6, 2) := by decide +kernel
theorem dX10_betweenTrouble_105 : decode cX10_betweenTrouble 105 = .ok (.aload_n 0, 1) := by decide +kernel
theorem dX10_betweenTrouble_106 : decode cX10_betweenTrouble 106 = .ok (.getfield 36, 3) := by decide +kernel
theorem dX10_betweenTrouble_109 : decode cX10_betweenTrouble 109 = .ok (.invokestatic 366, 3) := by decide +kernel
theorem dX10_betweenTrouble_112 : decode cX10_betweenTrouble 112 = .ok (.goto 14, 3) := by decide +kernel
theorem dX10_betweenTrouble_115 : decode cX10_betweenTrouble 115 = .ok (.aload 6, 2) := by decide +kernel
theorem dX10_betweenTrouble_117 : decode cX10_betweenTrouble 117 = .ok (.aload 5, 2) := by decide +kernel
theorem dX10_betweenTrouble_119 : decode cX10_betweenTrouble 119 = .ok (.aload_n 0, 1) := by decide +kernel
theorem dX10_betweenTrouble_120 : decode cX10_betweenTrouble 120 = .ok (.getfield 36, 3) := by decide +kernel
theorem dX10_betweenTrouble_123 : decode cX10_betweenTrouble 123 = .ok (.invokestatic 366, 3) := by decide +kernel
theorem dX10_betweenTrouble_126 : decode cX10_betweenTrouble 126 = .ok (.iconst 0, 1) := by decide +kernel
theorem dX10_betweenTrouble_127 : decode cX10_betweenTrouble 127 = .ok (.ireturn, 1) := by decide +kernel
theorem dX10_rungTrouble_0 : decode cX10_rungTrouble 0 = .ok (.aload_n 0, 1) := by decide +kernel
theorem dX10_rungTrouble_1 : decode cX10_rungTrouble 1 = .ok (.iload_n 1, 1) := by decide +kernel
theorem dX10_rungTrouble_2 : decode cX10_rungTrouble 2 = .ok (.iconst 1, 1) := by decide +kernel
theorem dX10_rungTrouble_3 : decode cX10_rungTrouble 3 = .ok (.sipush 200, 3) := by decide +kernel
theorem dX10_rungTrouble_6 : decode cX10_rungTrouble 6 = .ok (.invokevirtual 221, 3) := by decide +kernel
theorem dX10_rungTrouble_9 : decode cX10_rungTrouble 9 = .ok (.istore_n 3, 1) := by decide +kernel
theorem dX10_rungTrouble_10 : decode cX10_rungTrouble 10 = .ok (.iload_n 3, 1) := by decide +kernel
theorem dX10_rungTrouble_11 : decode cX10_rungTrouble 11 = .ok (.ifCond .eq 5, 3) := by decide +kernel
theorem dX10_rungTrouble_14 : decode cX10_rungTrouble 14 = .ok (.iload_n 3, 1) := by decide +kernel
theorem dX10_rungTrouble_15 : decode cX10_rungTrouble 15 = .ok (.ireturn, 1) := by decide +kernel
theorem dX10_rungTrouble_16 : decode cX10_rungTrouble 16 = .ok (.iload_n 2, 1) := by decide +kernel
theorem dX10_rungTrouble_17 : decode cX10_rungTrouble 17 = .ok (.ifCond .lt 16, 3) := by decide +kernel
theorem dX10_rungTrouble_20 : decode cX10_rungTrouble 20 = .ok (.aload_n 0, 1) := by decide +kernel
theorem dX10_rungTrouble_21 : decode cX10_rungTrouble 21 = .ok (.getfield 60, 3) := by decide +kernel
theorem dX10_rungTrouble_24 : decode cX10_rungTrouble 24 = .ok (.iload_n 1, 1) := by decide +kernel
theorem dX10_rungTrouble_25 : decode cX10_rungTrouble 25 = .ok (.iload_n 2, 1) := by decide +kernel
theorem dX10_rungTrouble_26 : decode cX10_rungTrouble 26 = .ok (.invokevirtual 230, 3) := by decide +kernel
theorem dX10_rungTrouble_29 : decode cX10_rungTrouble 29 = .ok (.iload_n 2, 1) := by decide +kernel
theorem dX10_rungTrouble_30 : decode cX10_rungTrouble 30 = .ok (.if_icmp .ge 8, 3) := by decide +kernel
theorem dX10_rungTrouble_33 : decode cX10_rungTrouble 33 = .ok (.bipush 6, 2) := by decide +kernel
theorem dX10_rungTrouble_35 : decode cX10_rungTrouble 35 = .ok (.goto 4, 3) := by decide +kernel
theorem dX10_rungTrouble_38 : decode cX10_rungTrouble 38 = .ok (.iconst 0, 1) := by decide +kernel
theorem dX10_rungTrouble_39 : decode cX10_rungTrouble 39 = .ok (.ireturn, 1) := by decide +kernel
theorem dX10_turnsTrouble_0 : decode cX10_turnsTrouble 0 = .ok (.aload_n 0, 1) := by decide +kernel
theorem dX10_turnsTrouble_1 : decode cX10_turnsTrouble 1 = .ok (.getfield 19, 3) := by decide +kernel
theorem dX10_turnsTrouble_4 : decode cX10_turnsTrouble 4 = .ok (.iload_n 1, 1) := by decide +kernel
theorem dX10_turnsTrouble_5 : decode cX10_turnsTrouble 5 = .ok (.invokevirtual 113, 3) := by decide +kernel
theorem dX10_turnsTrouble_8 : decode cX10_turnsTrouble 8 = .ok (.astore_n 3, 1) := by decide +kernel
theorem dX10_turnsTrouble_9 : decode cX10_turnsTrouble 9 = .ok (.aload_n 3, 1) := by decide +kernel
theorem dX10_turnsTrouble_10 : decode cX10_turnsTrouble 10 = .ok (.ifnonnull 5, 3) := by decide +kernel
theorem dX10_turnsTrouble_13 : decode cX10_turnsTrouble 13 = .ok (.iconst 1, 1) := by decide +kernel
theorem dX10_turnsTrouble_14 : decode cX10_turnsTrouble 14 = .ok (.ireturn, 1) := by decide +kernel
theorem dX10_turnsTrouble_15 : decode cX10_turnsTrouble 15 = .ok (.iload_n 2, 1) := by decide +kernel
theorem dX10_turnsTrouble_16 : decode cX10_turnsTrouble 16 = .ok (.ifCond .lt 9, 3) := by decide +kernel
theorem dX10_turnsTrouble_19 : decode cX10_turnsTrouble 19 = .ok (.iload_n 2, 1) := by decide +kernel
theorem dX10_turnsTrouble_20 : decode cX10_turnsTrouble 20 = .ok (.bipush 8, 2) := by decide +kernel
theorem dX10_turnsTrouble_22 : decode cX10_turnsTrouble 22 = .ok (.if_icmp .le 5, 3) := by decide +kernel
theorem dX10_turnsTrouble_25 : decode cX10_turnsTrouble 25 = .ok (.iconst 2, 1) := by decide +kernel
theorem dX10_turnsTrouble_26 : decode cX10_turnsTrouble 26 = .ok (.ireturn, 1) := by decide +kernel
theorem dX10_turnsTrouble_27 : decode cX10_turnsTrouble 27 = .ok (.aload_n 0, 1) := by decide +kernel
theorem dX10_turnsTrouble_28 : decode cX10_turnsTrouble 28 = .ok (.getfield 36, 3) := by decide +kernel
theorem dX10_turnsTrouble_31 : decode cX10_turnsTrouble 31 = .ok (.aload_n 3, 1) := by decide +kernel
theorem dX10_turnsTrouble_32 : decode cX10_turnsTrouble 32 = .ok (.getfield 118, 3) := by decide +kernel
theorem dX10_turnsTrouble_35 : decode cX10_turnsTrouble 35 = .ok (.invokevirtual 198, 3) := by decide +kernel
theorem dX10_turnsTrouble_38 : decode cX10_turnsTrouble 38 = .ok (.iconst 0, 1) := by decide +kernel
theorem dX10_turnsTrouble_39 : decode cX10_turnsTrouble 39 = .ok (.ireturn, 1) := by decide +kernel
theorem dX10_drawTrouble_0 : decode cX10_drawTrouble 0 = .ok (.aload_n 0, 1) := by decide +kernel
theorem dX10_drawTrouble_1 : decode cX10_drawTrouble 1 = .ok (.getfield 19, 3) := by decide +kernel
theorem dX10_drawTrouble_4 : decode cX10_drawTrouble 4 = .ok (.iload_n 1, 1) := by decide +kernel
theorem dX10_drawTrouble_5 : decode cX10_drawTrouble 5 = .ok (.invokevirtual 113, 3) := by decide +kernel
theorem dX10_drawTrouble_8 : decode cX10_drawTrouble 8 = .ok (.astore 4, 2) := by decide +kernel
theorem dX10_drawTrouble_10 : decode cX10_drawTrouble 10 = .ok (.aload 4, 2) := by decide +kernel
theorem dX10_drawTrouble_12 : decode cX10_drawTrouble 12 = .ok (.ifnonnull 5, 3) := by decide +kernel
theorem dX10_drawTrouble_15 : decode cX10_drawTrouble 15 = .ok (.iconst 1, 1) := by decide +kernel
theorem dX10_drawTrouble_16 : decode cX10_drawTrouble 16 = .ok (.ireturn, 1) := by decide +kernel
theorem dX10_drawTrouble_17 : decode cX10_drawTrouble 17 = .ok (.iload_n 2, 1) := by decide +kernel
theorem dX10_drawTrouble_18 : decode cX10_drawTrouble 18 = .ok (.ifCond .lt 23, 3) := by decide +kernel
theorem dX10_drawTrouble_21 : decode cX10_drawTrouble 21 = .ok (.iload_n 2, 1) := by decide +kernel
theorem dX10_drawTrouble_22 : decode cX10_drawTrouble 22 = .ok (.ldc_w 370, 3) := by decide +kernel
theorem dX10_drawTrouble_25 : decode cX10_drawTrouble 25 = .ok (.if_icmp .gt 16, 3) := by decide +kernel
theorem dX10_drawTrouble_28 : decode cX10_drawTrouble 28 = .ok (.iload_n 3, 1) := by decide +kernel
theorem dX10_drawTrouble_29 : decode cX10_drawTrouble 29 = .ok (.ifCond .lt 12, 3) := by decide +kernel
theorem dX10_drawTrouble_32 : decode cX10_drawTrouble 32 = .ok (.iload_n 3, 1) := by decide +kernel
theorem dX10_drawTrouble_33 : decode cX10_drawTrouble 33 = .ok (.aload 4, 2) := by decide +kernel
theorem dX10_drawTrouble_35 : decode cX10_drawTrouble 35 = .ok (.getfield 146, 3) := by decide +kernel
theorem dX10_drawTrouble_38 : decode cX10_drawTrouble 38 = .ok (.if_icmp .le 5, 3) := by decide +kernel
theorem dX10_drawTrouble_41 : decode cX10_drawTrouble 41 = .ok (.iconst 2, 1) := by decide +kernel
theorem dX10_drawTrouble_42 : decode cX10_drawTrouble 42 = .ok (.ireturn, 1) := by decide +kernel
theorem dX10_drawTrouble_43 : decode cX10_drawTrouble 43 = .ok (.aload 4, 2) := by decide +kernel
theorem dX10_drawTrouble_45 : decode cX10_drawTrouble 45 = .ok (.iload_n 3, 1) := by decide +kernel
theorem dX10_drawTrouble_46 : decode cX10_drawTrouble 46 = .ok (.iload_n 2, 1) := by decide +kernel
theorem dX10_drawTrouble_47 : decode cX10_drawTrouble 47 = .ok (.iload_n 3, 1) := by decide +kernel
theorem dX10_drawTrouble_48 : decode cX10_drawTrouble 48 = .ok (.aload_n 0, 1) := by decide +kernel
theorem dX10_drawTrouble_49 : decode cX10_drawTrouble 49 = .ok (.getfield 19, 3) := by decide +kernel
theorem dX10_drawTrouble_52 : decode cX10_drawTrouble 52 = .ok (.getfield 354, 3) := by decide +kernel
theorem dX10_drawTrouble_55 : decode cX10_drawTrouble 55 = .ok (.invokestatic 371, 3) := by decide +kernel
theorem dX10_drawTrouble_58 : decode cX10_drawTrouble 58 = .ok (.aload_n 0, 1) := by decide +kernel
theorem dX10_drawTrouble_59 : decode cX10_drawTrouble 59 = .ok (.getfield 36, 3) := by decide +kernel
theorem dX10_drawTrouble_62 : decode cX10_drawTrouble 62 = .ok (.invokevirtual 155, 3) := by decide +kernel
theorem dX10_drawTrouble_65 : decode cX10_drawTrouble 65 = .ok (.iconst 0, 1) := by decide +kernel
theorem dX10_drawTrouble_66 : decode cX10_drawTrouble 66 = .ok (.ireturn, 1) := by decide +kernel
theorem dX10_untieBy_0 : decode cX10_untieBy 0 = .ok (.aload_n 0, 1) := by decide +kernel
theorem dX10_untieBy_1 : decode cX10_untieBy 1 = .ok (.getfield 36, 3) := by decide +kernel
theorem dX10_untieBy_4 : decode cX10_untieBy 4 = .ok (.aload_n 1, 1) := by decide +kernel
theorem dX10_untieBy_5 : decode cX10_untieBy 5 = .ok (.getfield 118, 3) := by decide +kernel
theorem dX10_untieBy_8 : decode cX10_untieBy 8 = .ok (.invokevirtual 198, 3) := by decide +kernel
theorem dX10_untieBy_11 : decode cX10_untieBy 11 = .ok (.iconst 0, 1) := by decide +kernel
theorem dX10_untieBy_12 : decode cX10_untieBy 12 = .ok (.istore_n 3, 1) := by decide +kernel
theorem dX10_untieBy_13 : decode cX10_untieBy 13 = .ok (.iload_n 3, 1) := by decide +kernel
theorem dX10_untieBy_14 : decode cX10_untieBy 14 = .ok (.ldc 193, 2) := by decide +kernel
theorem dX10_untieBy_16 : decode cX10_untieBy 16 = .ok (.if_icmp .ge 38, 3) := by decide +kernel
theorem dX10_untieBy_19 : decode cX10_untieBy 19 = .ok (.iload_n 3, 1) := by decide +kernel
theorem dX10_untieBy_20 : decode cX10_untieBy 20 = .ok (.iload_n 2, 1) := by decide +kernel
theorem dX10_untieBy_21 : decode cX10_untieBy 21 = .ok (.if_icmp .ge 33, 3) := by decide +kernel
theorem dX10_untieBy_24 : decode cX10_untieBy 24 = .ok (.aload_n 0, 1) := by decide +kernel
theorem dX10_untieBy_25 : decode cX10_untieBy 25 = .ok (.getfield 36, 3) := by decide +kernel
theorem dX10_untieBy_28 : decode cX10_untieBy 28 = .ok (.invokevirtual 171, 3) := by decide +kernel
theorem dX10_untieBy_31 : decode cX10_untieBy 31 = .ok (.ifCond .ne 23, 3) := by decide +kernel
theorem dX10_untieBy_34 : decode cX10_untieBy 34 = .ok (.aload_n 0, 1) := by decide +kernel
theorem dX10_untieBy_35 : decode cX10_untieBy 35 = .ok (.getfield 36, 3) := by decide +kernel
theorem dX10_untieBy_38 : decode cX10_untieBy 38 = .ok (.aload_n 0, 1) := by decide +kernel
theorem dX10_untieBy_39 : decode cX10_untieBy 39 = .ok (.getfield 36, 3) := by decide +kernel
theorem dX10_untieBy_42 : decode cX10_untieBy 42 = .ok (.invokevirtual 202, 3) := by decide +kernel
theorem dX10_untieBy_45 : decode cX10_untieBy 45 = .ok (.invokevirtual 205, 3) := by decide +kernel
theorem dX10_untieBy_48 : decode cX10_untieBy 48 = .ok (.iinc 3 1, 3) := by decide +kernel
theorem dX10_untieBy_51 : decode cX10_untieBy 51 = .ok (.goto (-38), 3) := by decide +kernel
theorem dX10_untieBy_54 : decode cX10_untieBy 54 = .ok (.iload_n 3, 1) := by decide +kernel
theorem dX10_untieBy_55 : decode cX10_untieBy 55 = .ok (.ireturn, 1) := by decide +kernel
theorem dX10_rowFrom_0 : decode cX10_rowFrom 0 = .ok (.aload_n 0, 1) := by decide +kernel
theorem dX10_rowFrom_1 : decode cX10_rowFrom 1 = .ok (.getfield 19, 3) := by decide +kernel
theorem dX10_rowFrom_4 : decode cX10_rowFrom 4 = .ok (.iload_n 1, 1) := by decide +kernel
theorem dX10_rowFrom_5 : decode cX10_rowFrom 5 = .ok (.invokevirtual 113, 3) := by decide +kernel
theorem dX10_rowFrom_8 : decode cX10_rowFrom 8 = .ok (.astore 4, 2) := by decide +kernel
theorem dX10_rowFrom_10 : decode cX10_rowFrom 10 = .ok (.aload 4, 2) := by decide +kernel
theorem dX10_rowFrom_12 : decode cX10_rowFrom 12 = .ok (.ifnonnull 8, 3) := by decide +kernel
theorem dX10_rowFrom_15 : decode cX10_rowFrom 15 = .ok (.bipush (-2), 2) := by decide +kernel
theorem dX10_rowFrom_17 : decode cX10_rowFrom 17 = .ok (.goto 13, 3) := by decide +kernel
theorem dX10_rowFrom_20 : decode cX10_rowFrom 20 = .ok (.aload 4, 2) := by decide +kernel
theorem dX10_rowFrom_22 : decode cX10_rowFrom 22 = .ok (.getfield 118, 3) := by decide +kernel
theorem dX10_rowFrom_25 : decode cX10_rowFrom 25 = .ok (.iload_n 2, 1) := by decide +kernel
theorem dX10_rowFrom_26 : decode cX10_rowFrom 26 = .ok (.iload_n 3, 1) := by decide +kernel
theorem dX10_rowFrom_27 : decode cX10_rowFrom 27 = .ok (.invokestatic 374, 3) := by decide +kernel
theorem dX10_rowFrom_30 : decode cX10_rowFrom 30 = .ok (.ireturn, 1) := by decide +kernel
theorem dX10_compareRings_0 : decode cX10_compareRings 0 = .ok (.aload_n 0, 1) := by decide +kernel
theorem dX10_compareRings_1 : decode cX10_compareRings 1 = .ok (.getfield 19, 3) := by decide +kernel
theorem dX10_compareRings_4 : decode cX10_compareRings 4 = .ok (.iload_n 1, 1) := by decide +kernel
theorem dX10_compareRings_5 : decode cX10_compareRings 5 = .ok (.invokevirtual 113, 3) := by decide +kernel
theorem dX10_compareRings_8 : decode cX10_compareRings 8 = .ok (.astore 4, 2) := by decide +kernel
theorem dX10_compareRings_10 : decode cX10_compareRings 10 = .ok (.aload_n 0, 1) := by decide +kernel
theorem dX10_compareRings_11 : decode cX10_compareRings 11 = .ok (.getfield 19, 3) := by decide +kernel
theorem dX10_compareRings_14 : decode cX10_compareRings 14 = .ok (.iload_n 2, 1) := by decide +kernel
theorem dX10_compareRings_15 : decode cX10_compareRings 15 = .ok (.invokevirtual 113, 3) := by decide +kernel
theorem dX10_compareRings_18 : decode cX10_compareRings 18 = .ok (.astore 5, 2) := by decide +kernel
theorem dX10_compareRings_20 : decode cX10_compareRings 20 = .ok (.aload 4, 2) := by decide +kernel
theorem dX10_compareRings_22 : decode cX10_compareRings 22 = .ok (.ifnull 8, 3) := by decide +kernel
theorem dX10_compareRings_25 : decode cX10_compareRings 25 = .ok (.aload 5, 2) := by decide +kernel
theorem dX10_compareRings_27 : decode cX10_compareRings 27 = .ok (.ifnonnull 10, 3) := by decide +kernel
theorem dX10_compareRings_30 : decode cX10_compareRings 30 = .ok (.aload_n 0, 1) := by decide +kernel
theorem dX10_compareRings_31 : decode cX10_compareRings 31 = .ok (.iconst 1, 1) := by decide +kernel
theorem dX10_compareRings_32 : decode cX10_compareRings 32 = .ok (.iconst (-1), 1) := by decide +kernel
theorem dX10_compareRings_33 : decode cX10_compareRings 33 = .ok (.invokevirtual 83, 3) := by decide +kernel
theorem dX10_compareRings_36 : decode cX10_compareRings 36 = .ok (.ireturn, 1) := by decide +kernel
theorem dX10_compareRings_37 : decode cX10_compareRings 37 = .ok (.aload_n 0, 1) := by decide +kernel
theorem dX10_compareRings_38 : decode cX10_compareRings 38 = .ok (.aload 4, 2) := by decide +kernel
theorem dX10_compareRings_40 : decode cX10_compareRings 40 = .ok (.getfield 118, 3) := by decide +kernel
theorem dX10_compareRings_43 : decode cX10_compareRings 43 = .ok (.aload 5, 2) := by decide +kernel
theorem dX10_compareRings_45 : decode cX10_compareRings 45 = .ok (.getfield 118, 3) := by decide +kernel
theorem dX10_compareRings_48 : decode cX10_compareRings 48 = .ok (.iload_n 3, 1) := by decide +kernel
theorem dX10_compareRings_49 : decode cX10_compareRings 49 = .ok (.invokestatic 378, 3) := by decide +kernel
theorem dX10_compareRings_52 : decode cX10_compareRings 52 = .ok (.ifCond .eq 7, 3) := by decide +kernel
theorem dX10_compareRings_55 : decode cX10_compareRings 55 = .ok (.iconst 1, 1) := by decide +kernel
theorem dX10_compareRings_56 : decode cX10_compareRings 56 = .ok (.goto 4, 3) := by decide +kernel
theorem dX10_compareRings_59 : decode cX10_compareRings 59 = .ok (.iconst 0, 1) := by decide +kernel
theorem dX10_compareRings_60 : decode cX10_compareRings 60 = .ok (.invokevirtual 100, 3) := by decide +kernel
theorem dX10_compareRings_63 : decode cX10_compareRings 63 = .ok (.ireturn, 1) := by decide +kernel
theorem dX10_likely_0 : decode cX10_likely 0 = .ok (.iload_n 2, 1) := by decide +kernel
theorem dX10_likely_1 : decode cX10_likely 1 = .ok (.ifCond .lt 17, 3) := by decide +kernel
theorem dX10_likely_4 : decode cX10_likely 4 = .ok (.iload_n 2, 1) := by decide +kernel
theorem dX10_likely_5 : decode cX10_likely 5 = .ok (.bipush 8, 2) := by decide +kernel
theorem dX10_likely_7 : decode cX10_likely 7 = .ok (.if_icmp .gt 11, 3) := by decide +kernel
theorem dX10_likely_10 : decode cX10_likely 10 = .ok (.iload_n 2, 1) := by decide +kernel
theorem dX10_likely_11 : decode cX10_likely 11 = .ok (.aload_n 1, 1) := by decide +kernel
theorem dX10_likely_12 : decode cX10_likely 12 = .ok (.getfield 146, 3) := by decide +kernel
theorem dX10_likely_15 : decode cX10_likely 15 = .ok (.if_icmp .le 11, 3) := by decide +kernel
theorem dX10_likely_18 : decode cX10_likely 18 = .ok (.aload_n 0, 1) := by decide +kernel
theorem dX10_likely_19 : decode cX10_likely 19 = .ok (.iconst 2, 1) := by decide +kernel
theorem dX10_likely_20 : decode cX10_likely 20 = .ok (.iconst (-1), 1) := by decide +kernel
theorem dX10_likely_21 : decode cX10_likely 21 = .ok (.invokevirtual 83, 3) := by decide +kernel
theorem dX10_likely_24 : decode cX10_likely 24 = .ok (.i2l, 1) := by decide +kernel
theorem dX10_likely_25 : decode cX10_likely 25 = .ok (.lreturn, 1) := by decide +kernel
theorem dX10_likely_26 : decode cX10_likely 26 = .ok (.aload_n 0, 1) := by decide +kernel
theorem dX10_likely_27 : decode cX10_likely 27 = .ok (.iconst 0, 1) := by decide +kernel
theorem dX10_likely_28 : decode cX10_likely 28 = .ok (.putfield 107, 3) := by decide +kernel
theorem dX10_likely_31 : decode cX10_likely 31 = .ok (.aload_n 0, 1) := by decide +kernel
theorem dX10_likely_32 : decode cX10_likely 32 = .ok (.getfield 67, 3) := by decide +kernel
theorem dX10_likely_35 : decode cX10_likely 35 = .ok (.aload_n 1, 1) := by decide +kernel
theorem dX10_likely_36 : decode cX10_likely 36 = .ok (.iload_n 2, 1) := by decide +kernel
theorem dX10_likely_37 : decode cX10_likely 37 = .ok (.aload_n 0, 1) := by decide +kernel
theorem dX10_likely_38 : decode cX10_likely 38 = .ok (.getfield 19, 3) := by decide +kernel
theorem dX10_likely_41 : decode cX10_likely 41 = .ok (.getfield 354, 3) := by decide +kernel
theorem dX10_likely_44 : decode cX10_likely 44 = .ok (.iload_n 3, 1) := by decide +kernel
theorem dX10_likely_45 : decode cX10_likely 45 = .ok (.invokevirtual 382, 3) := by decide +kernel
theorem dX10_likely_48 : decode cX10_likely 48 = .ok (.lreturn, 1) := by decide +kernel
theorem dX10_become_0 : decode cX10_become 0 = .ok (.aload_n 0, 1) := by decide +kernel
theorem dX10_become_1 : decode cX10_become 1 = .ok (.getfield 29, 3) := by decide +kernel
theorem dX10_become_4 : decode cX10_become 4 = .ok (.iload_n 1, 1) := by decide +kernel
theorem dX10_become_5 : decode cX10_become 5 = .ok (.aload_n 2, 1) := by decide +kernel
theorem dX10_become_6 : decode cX10_become 6 = .ok (.invokevirtual 386, 3) := by decide +kernel
theorem dX10_become_9 : decode cX10_become 9 = .ok (.aload_n 2, 1) := by decide +kernel
theorem dX10_become_10 : decode cX10_become 10 = .ok (.iload_n 3, 1) := by decide +kernel
theorem dX10_become_11 : decode cX10_become 11 = .ok (.iload 4, 2) := by decide +kernel
theorem dX10_become_13 : decode cX10_become 13 = .ok (.invokevirtual 163, 3) := by decide +kernel
theorem dX10_become_16 : decode cX10_become 16 = .ok (.return_, 1) := by decide +kernel
theorem dX10_pay_0 : decode cX10_pay 0 = .ok (.iload_n 1, 1) := by decide +kernel
theorem dX10_pay_1 : decode cX10_pay 1 = .ok (.ifCond .eq 13, 3) := by decide +kernel
theorem dX10_pay_4 : decode cX10_pay 4 = .ok (.iload_n 2, 1) := by decide +kernel
theorem dX10_pay_5 : decode cX10_pay 5 = .ok (.ifCond .eq 7, 3) := by decide +kernel
theorem dX10_pay_8 : decode cX10_pay 8 = .ok (.iconst 1, 1) := by decide +kernel
theorem dX10_pay_9 : decode cX10_pay 9 = .ok (.goto 4, 3) := by decide +kernel
theorem dX10_pay_12 : decode cX10_pay 12 = .ok (.iconst 0, 1) := by decide +kernel
theorem dX10_pay_13 : decode cX10_pay 13 = .ok (.ireturn, 1) := by decide +kernel
theorem dX10_pay_14 : decode cX10_pay 14 = .ok (.iload_n 2, 1) := by decide +kernel
theorem dX10_pay_15 : decode cX10_pay 15 = .ok (.ifCond .eq 7, 3) := by decide +kernel
theorem dX10_pay_18 : decode cX10_pay 18 = .ok (.iconst 2, 1) := by decide +kernel
theorem dX10_pay_19 : decode cX10_pay 19 = .ok (.goto 5, 3) := by decide +kernel
theorem dX10_pay_22 : decode cX10_pay 22 = .ok (.iload_n 0, 1) := by decide +kernel
theorem dX10_pay_23 : decode cX10_pay 23 = .ok (.ineg, 1) := by decide +kernel
theorem dX10_pay_24 : decode cX10_pay 24 = .ok (.ireturn, 1) := by decide +kernel
theorem dX10_isRest_0 : decode cX10_isRest 0 = .ok (.iload_n 0, 1) := by decide +kernel
theorem dX10_isRest_1 : decode cX10_isRest 1 = .ok (.iload_n 1, 1) := by decide +kernel
theorem dX10_isRest_2 : decode cX10_isRest 2 = .ok (.iload_n 2, 1) := by decide +kernel
theorem dX10_isRest_3 : decode cX10_isRest 3 = .ok (.invokestatic 296, 3) := by decide +kernel
theorem dX10_isRest_6 : decode cX10_isRest 6 = .ok (.iload_n 0, 1) := by decide +kernel
theorem dX10_isRest_7 : decode cX10_isRest 7 = .ok (.iload_n 1, 1) := by decide +kernel
theorem dX10_isRest_8 : decode cX10_isRest 8 = .ok (.ifCond .ne 7, 3) := by decide +kernel
theorem dX10_isRest_11 : decode cX10_isRest 11 = .ok (.iconst 1, 1) := by decide +kernel
theorem dX10_isRest_12 : decode cX10_isRest 12 = .ok (.goto 4, 3) := by decide +kernel
theorem dX10_isRest_15 : decode cX10_isRest 15 = .ok (.iconst 0, 1) := by decide +kernel
theorem dX10_isRest_16 : decode cX10_isRest 16 = .ok (.iload_n 2, 1) := by decide +kernel
theorem dX10_isRest_17 : decode cX10_isRest 17 = .ok (.invokestatic 296, 3) := by decide +kernel
theorem dX10_isRest_20 : decode cX10_isRest 20 = .ok (.if_icmp .lt 30, 3) := by decide +kernel
theorem dX10_isRest_23 : decode cX10_isRest 23 = .ok (.iload_n 0, 1) := by decide +kernel
theorem dX10_isRest_24 : decode cX10_isRest 24 = .ok (.iload_n 2, 1) := by decide +kernel
theorem dX10_isRest_25 : decode cX10_isRest 25 = .ok (.iload_n 1, 1) := by decide +kernel
theorem dX10_isRest_26 : decode cX10_isRest 26 = .ok (.invokestatic 296, 3) := by decide +kernel
theorem dX10_isRest_29 : decode cX10_isRest 29 = .ok (.iload_n 0, 1) := by decide +kernel
theorem dX10_isRest_30 : decode cX10_isRest 30 = .ok (.iload_n 2, 1) := by decide +kernel
theorem dX10_isRest_31 : decode cX10_isRest 31 = .ok (.ifCond .ne 7, 3) := by decide +kernel
theorem dX10_isRest_34 : decode cX10_isRest 34 = .ok (.iconst 1, 1) := by decide +kernel
theorem dX10_isRest_35 : decode cX10_isRest 35 = .ok (.goto 4, 3) := by decide +kernel
theorem dX10_isRest_38 : decode cX10_isRest 38 = .ok (.iconst 0, 1) := by decide +kernel
theorem dX10_isRest_39 : decode cX10_isRest 39 = .ok (.iload_n 1, 1) := by decide +kernel
theorem dX10_isRest_40 : decode cX10_isRest 40 = .ok (.invokestatic 296, 3) := by decide +kernel
theorem dX10_isRest_43 : decode cX10_isRest 43 = .ok (.if_icmp .lt 7, 3) := by decide +kernel
theorem dX10_isRest_46 : decode cX10_isRest 46 = .ok (.iconst 1, 1) := by decide +kernel
theorem dX10_isRest_47 : decode cX10_isRest 47 = .ok (.goto 4, 3) := by decide +kernel
theorem dX10_isRest_50 : decode cX10_isRest 50 = .ok (.iconst 0, 1) := by decide +kernel
theorem dX10_isRest_51 : decode cX10_isRest 51 = .ok (.ireturn, 1) := by decide +kernel
theorem dX10_isCorner_0 : decode cX10_isCorner 0 = .ok (.iload_n 0, 1) := by decide +kernel
theorem dX10_isCorner_1 : decode cX10_isCorner 1 = .ok (.ifCond .lt 12, 3) := by decide +kernel
theorem dX10_isCorner_4 : decode cX10_isCorner 4 = .ok (.iload_n 0, 1) := by decide +kernel
theorem dX10_isCorner_5 : decode cX10_isCorner 5 = .ok (.iconst 4, 1) := by decide +kernel
theorem dX10_isCorner_6 : decode cX10_isCorner 6 = .ok (.if_icmp .ge 7, 3) := by decide +kernel
theorem dX10_isCorner_9 : decode cX10_isCorner 9 = .ok (.iconst 1, 1) := by decide +kernel
theorem dX10_isCorner_10 : decode cX10_isCorner 10 = .ok (.goto 4, 3) := by decide +kernel
theorem dX10_isCorner_13 : decode cX10_isCorner 13 = .ok (.iconst 0, 1) := by decide +kernel
theorem dX10_isCorner_14 : decode cX10_isCorner 14 = .ok (.ireturn, 1) := by decide +kernel
theorem dX10_isRope_0 : decode cX10_isRope 0 = .ok (.iload_n 0, 1) := by decide +kernel
theorem dX10_isRope_1 : decode cX10_isRope 1 = .ok (.invokestatic 129, 3) := by decide +kernel
theorem dX10_isRope_4 : decode cX10_isRope 4 = .ok (.ifCond .eq 19, 3) := by decide +kernel
theorem dX10_isRope_7 : decode cX10_isRope 7 = .ok (.iload_n 1, 1) := by decide +kernel
theorem dX10_isRope_8 : decode cX10_isRope 8 = .ok (.invokestatic 129, 3) := by decide +kernel
theorem dX10_isRope_11 : decode cX10_isRope 11 = .ok (.ifCond .eq 12, 3) := by decide +kernel
theorem dX10_isRope_14 : decode cX10_isRope 14 = .ok (.iload_n 0, 1) := by decide +kernel
theorem dX10_isRope_15 : decode cX10_isRope 15 = .ok (.iload_n 1, 1) := by decide +kernel
theorem dX10_isRope_16 : decode cX10_isRope 16 = .ok (.if_icmp .eq 7, 3) := by decide +kernel
theorem dX10_isRope_19 : decode cX10_isRope 19 = .ok (.iconst 1, 1) := by decide +kernel
theorem dX10_isRope_20 : decode cX10_isRope 20 = .ok (.goto 4, 3) := by decide +kernel
theorem dX10_isRope_23 : decode cX10_isRope 23 = .ok (.iconst 0, 1) := by decide +kernel
theorem dX10_isRope_24 : decode cX10_isRope 24 = .ok (.ireturn, 1) := by decide +kernel
theorem dX10_isFraction_0 : decode cX10_isFraction 0 = .ok (.iload_n 1, 1) := by decide +kernel
theorem dX10_isFraction_1 : decode cX10_isFraction 1 = .ok (.ifCond .lt 11, 3) := by decide +kernel
theorem dX10_isFraction_4 : decode cX10_isFraction 4 = .ok (.iload_n 0, 1) := by decide +kernel
theorem dX10_isFraction_5 : decode cX10_isFraction 5 = .ok (.iload_n 1, 1) := by decide +kernel
theorem dX10_isFraction_6 : decode cX10_isFraction 6 = .ok (.invokestatic 321, 3) := by decide +kernel
theorem dX10_isFraction_9 : decode cX10_isFraction 9 = .ok (.ifCond .eq 5, 3) := by decide +kernel
theorem dX10_isFraction_12 : decode cX10_isFraction 12 = .ok (.iconst 0, 1) := by decide +kernel
theorem dX10_isFraction_13 : decode cX10_isFraction 13 = .ok (.ireturn, 1) := by decide +kernel
theorem dX10_isFraction_14 : decode cX10_isFraction 14 = .ok (.iload_n 1, 1) := by decide +kernel
theorem dX10_isFraction_15 : decode cX10_isFraction 15 = .ok (.ifCond .ne 16, 3) := by decide +kernel
theorem dX10_isFraction_18 : decode cX10_isFraction 18 = .ok (.iload_n 0, 1) := by decide +kernel
theorem dX10_isFraction_19 : decode cX10_isFraction 19 = .ok (.iconst 1, 1) := by decide +kernel
theorem dX10_isFraction_20 : decode cX10_isFraction 20 = .ok (.if_icmp .ne 7, 3) := by decide +kernel
theorem dX10_isFraction_23 : decode cX10_isFraction 23 = .ok (.iconst 1, 1) := by decide +kernel
theorem dX10_isFraction_24 : decode cX10_isFraction 24 = .ok (.goto 24, 3) := by decide +kernel
theorem dX10_isFraction_27 : decode cX10_isFraction 27 = .ok (.iconst 0, 1) := by decide +kernel
theorem dX10_isFraction_28 : decode cX10_isFraction 28 = .ok (.goto 20, 3) := by decide +kernel
theorem dX10_isFraction_31 : decode cX10_isFraction 31 = .ok (.iload_n 0, 1) := by decide +kernel
theorem dX10_isFraction_32 : decode cX10_isFraction 32 = .ok (.i2l, 1) := by decide +kernel
theorem dX10_isFraction_33 : decode cX10_isFraction 33 = .ok (.iload_n 1, 1) := by decide +kernel
theorem dX10_isFraction_34 : decode cX10_isFraction 34 = .ok (.i2l, 1) := by decide +kernel
theorem dX10_isFraction_35 : decode cX10_isFraction 35 = .ok (.invokestatic 244, 3) := by decide +kernel
theorem dX10_isFraction_38 : decode cX10_isFraction 38 = .ok (.lconst 1, 1) := by decide +kernel
theorem dX10_isFraction_39 : decode cX10_isFraction 39 = .ok (.lcmp, 1) := by decide +kernel
theorem dX10_isFraction_40 : decode cX10_isFraction 40 = .ok (.ifCond .ne 7, 3) := by decide +kernel
theorem dX10_isFraction_43 : decode cX10_isFraction 43 = .ok (.iconst 1, 1) := by decide +kernel
theorem dX10_isFraction_44 : decode cX10_isFraction 44 = .ok (.goto 4, 3) := by decide +kernel
theorem dX10_isFraction_47 : decode cX10_isFraction 47 = .ok (.iconst 0, 1) := by decide +kernel
theorem dX10_isFraction_48 : decode cX10_isFraction 48 = .ok (.ireturn, 1) := by decide +kernel
theorem dX10_digits_0 : decode cX10_digits 0 = .ok (.iconst 0, 1) := by decide +kernel
theorem dX10_digits_1 : decode cX10_digits 1 = .ok (.istore_n 1, 1) := by decide +kernel
theorem dX10_digits_2 : decode cX10_digits 2 = .ok (.iload_n 0, 1) := by decide +kernel
theorem dX10_digits_3 : decode cX10_digits 3 = .ok (.istore_n 2, 1) := by decide +kernel
theorem dX10_digits_4 : decode cX10_digits 4 = .ok (.iload_n 2, 1) := by decide +kernel
theorem dX10_digits_5 : decode cX10_digits 5 = .ok (.ifCond .le 14, 3) := by decide +kernel
theorem dX10_digits_8 : decode cX10_digits 8 = .ok (.iinc 1 1, 3) := by decide +kernel
theorem dX10_digits_11 : decode cX10_digits 11 = .ok (.iload_n 2, 1) := by decide +kernel
theorem dX10_digits_12 : decode cX10_digits 12 = .ok (.bipush 10, 2) := by decide +kernel
theorem dX10_digits_14 : decode cX10_digits 14 = .ok (.idiv, 1) := by decide +kernel
theorem dX10_digits_15 : decode cX10_digits 15 = .ok (.istore_n 2, 1) := by decide +kernel
theorem dX10_digits_16 : decode cX10_digits 16 = .ok (.goto (-12), 3) := by decide +kernel
theorem dX10_digits_19 : decode cX10_digits 19 = .ok (.iload_n 1, 1) := by decide +kernel
theorem dX10_digits_20 : decode cX10_digits 20 = .ok (.ireturn, 1) := by decide +kernel
theorem dX10_shared_0 : decode cX10_shared 0 = .ok (.lload_n 0, 1) := by decide +kernel
theorem dX10_shared_1 : decode cX10_shared 1 = .ok (.invokestatic 390, 3) := by decide +kernel
theorem dX10_shared_4 : decode cX10_shared 4 = .ok (.lstore 4, 2) := by decide +kernel
theorem dX10_shared_6 : decode cX10_shared 6 = .ok (.lload_n 2, 1) := by decide +kernel
theorem dX10_shared_7 : decode cX10_shared 7 = .ok (.invokestatic 390, 3) := by decide +kernel
theorem dX10_shared_10 : decode cX10_shared 10 = .ok (.lstore 6, 2) := by decide +kernel
theorem dX10_shared_12 : decode cX10_shared 12 = .ok (.iconst 0, 1) := by decide +kernel
theorem dX10_shared_13 : decode cX10_shared 13 = .ok (.istore 8, 2) := by decide +kernel
theorem dX10_shared_15 : decode cX10_shared 15 = .ok (.iload 8, 2) := by decide +kernel
theorem dX10_shared_17 : decode cX10_shared 17 = .ok (.ldc 193, 2) := by decide +kernel
theorem dX10_shared_19 : decode cX10_shared 19 = .ok (.if_icmp .ge 31, 3) := by decide +kernel
theorem dX10_shared_22 : decode cX10_shared 22 = .ok (.lload 6, 2) := by decide +kernel
theorem dX10_shared_24 : decode cX10_shared 24 = .ok (.lconst 0, 1) := by decide +kernel
theorem dX10_shared_25 : decode cX10_shared 25 = .ok (.lcmp, 1) := by decide +kernel
theorem dX10_shared_26 : decode cX10_shared 26 = .ok (.ifCond .eq 24, 3) := by decide +kernel
theorem dX10_shared_29 : decode cX10_shared 29 = .ok (.lload 4, 2) := by decide +kernel
theorem dX10_shared_31 : decode cX10_shared 31 = .ok (.lload 6, 2) := by decide +kernel
theorem dX10_shared_33 : decode cX10_shared 33 = .ok (.lrem, 1) := by decide +kernel
theorem dX10_shared_34 : decode cX10_shared 34 = .ok (.lstore 9, 2) := by decide +kernel
theorem dX10_shared_36 : decode cX10_shared 36 = .ok (.lload 6, 2) := by decide +kernel
theorem dX10_shared_38 : decode cX10_shared 38 = .ok (.lstore 4, 2) := by decide +kernel
theorem dX10_shared_40 : decode cX10_shared 40 = .ok (.lload 9, 2) := by decide +kernel
theorem dX10_shared_42 : decode cX10_shared 42 = .ok (.lstore 6, 2) := by decide +kernel
theorem dX10_shared_44 : decode cX10_shared 44 = .ok (.iinc 8 1, 3) := by decide +kernel
theorem dX10_shared_47 : decode cX10_shared 47 = .ok (.goto (-32), 3) := by decide +kernel
theorem dX10_shared_50 : decode cX10_shared 50 = .ok (.lload 4, 2) := by decide +kernel
theorem dX10_shared_52 : decode cX10_shared 52 = .ok (.lreturn, 1) := by decide +kernel
theorem dX10_isIn_0 : decode cX10_isIn 0 = .ok (.iload_n 0, 1) := by decide +kernel
theorem dX10_isIn_1 : decode cX10_isIn 1 = .ok (.iload_n 1, 1) := by decide +kernel
theorem dX10_isIn_2 : decode cX10_isIn 2 = .ok (.ishr, 1) := by decide +kernel
theorem dX10_isIn_3 : decode cX10_isIn 3 = .ok (.iconst 1, 1) := by decide +kernel
theorem dX10_isIn_4 : decode cX10_isIn 4 = .ok (.iand, 1) := by decide +kernel
theorem dX10_isIn_5 : decode cX10_isIn 5 = .ok (.iconst 1, 1) := by decide +kernel
theorem dX10_isIn_6 : decode cX10_isIn 6 = .ok (.if_icmp .ne 7, 3) := by decide +kernel
theorem dX10_isIn_9 : decode cX10_isIn 9 = .ok (.iconst 1, 1) := by decide +kernel
theorem dX10_isIn_10 : decode cX10_isIn 10 = .ok (.goto 4, 3) := by decide +kernel
theorem dX10_isIn_13 : decode cX10_isIn 13 = .ok (.iconst 0, 1) := by decide +kernel
theorem dX10_isIn_14 : decode cX10_isIn 14 = .ok (.ireturn, 1) := by decide +kernel
theorem dX10_at_0 : decode cX10_at 0 = .ok (.iload_n 1, 1) := by decide +kernel
theorem dX10_at_1 : decode cX10_at 1 = .ok (.ifCond .lt 15, 3) := by decide +kernel
theorem dX10_at_4 : decode cX10_at 4 = .ok (.iload_n 1, 1) := by decide +kernel
theorem dX10_at_5 : decode cX10_at 5 = .ok (.aload_n 0, 1) := by decide +kernel
theorem dX10_at_6 : decode cX10_at 6 = .ok (.arraylength, 1) := by decide +kernel
theorem dX10_at_7 : decode cX10_at 7 = .ok (.if_icmp .ge 9, 3) := by decide +kernel
theorem dX10_at_10 : decode cX10_at 10 = .ok (.aload_n 0, 1) := by decide +kernel
theorem dX10_at_11 : decode cX10_at 11 = .ok (.iload_n 1, 1) := by decide +kernel
theorem dX10_at_12 : decode cX10_at 12 = .ok (.iaload, 1) := by decide +kernel
theorem dX10_at_13 : decode cX10_at 13 = .ok (.goto 4, 3) := by decide +kernel
theorem dX10_at_16 : decode cX10_at 16 = .ok (.iconst 0, 1) := by decide +kernel
theorem dX10_at_17 : decode cX10_at 17 = .ok (.ireturn, 1) := by decide +kernel
theorem dX10_putAt_0 : decode cX10_putAt 0 = .ok (.iload_n 1, 1) := by decide +kernel
theorem dX10_putAt_1 : decode cX10_putAt 1 = .ok (.ifCond .lt 13, 3) := by decide +kernel
theorem dX10_putAt_4 : decode cX10_putAt 4 = .ok (.iload_n 1, 1) := by decide +kernel
theorem dX10_putAt_5 : decode cX10_putAt 5 = .ok (.aload_n 0, 1) := by decide +kernel
theorem dX10_putAt_6 : decode cX10_putAt 6 = .ok (.arraylength, 1) := by decide +kernel
theorem dX10_putAt_7 : decode cX10_putAt 7 = .ok (.if_icmp .ge 7, 3) := by decide +kernel
theorem dX10_putAt_10 : decode cX10_putAt 10 = .ok (.aload_n 0, 1) := by decide +kernel
theorem dX10_putAt_11 : decode cX10_putAt 11 = .ok (.iload_n 1, 1) := by decide +kernel
theorem dX10_putAt_12 : decode cX10_putAt 12 = .ok (.iload_n 2, 1) := by decide +kernel
theorem dX10_putAt_13 : decode cX10_putAt 13 = .ok (.iastore, 1) := by decide +kernel
theorem dX10_putAt_14 : decode cX10_putAt 14 = .ok (.return_, 1) := by decide +kernel
theorem dX11_thrown_0 : decode cX11_thrown 0 = .ok (.aload_n 0, 1) := by decide +kernel
theorem dX11_thrown_1 : decode cX11_thrown 1 = .ok (.getfield 53, 3) := by decide +kernel
theorem dX11_thrown_4 : decode cX11_thrown 4 = .ok (.ireturn, 1) := by decide +kernel
theorem dX11_anew_0 : decode cX11_anew 0 = .ok (.aload_n 0, 1) := by decide +kernel
theorem dX11_anew_1 : decode cX11_anew 1 = .ok (.iconst 0, 1) := by decide +kernel
theorem dX11_anew_2 : decode cX11_anew 2 = .ok (.putfield 53, 3) := by decide +kernel
theorem dX11_anew_5 : decode cX11_anew 5 = .ok (.aload_n 0, 1) := by decide +kernel
theorem dX11_anew_6 : decode cX11_anew 6 = .ok (.iconst 0, 1) := by decide +kernel
theorem dX11_anew_7 : decode cX11_anew 7 = .ok (.putfield 56, 3) := by decide +kernel
theorem dX11_anew_10 : decode cX11_anew 10 = .ok (.return_, 1) := by decide +kernel
theorem dX11_no_0 : decode cX11_no 0 = .ok (.aload_n 0, 1) := by decide +kernel
theorem dX11_no_1 : decode cX11_no 1 = .ok (.iload_n 1, 1) := by decide +kernel
theorem dX11_no_2 : decode cX11_no 2 = .ok (.putfield 56, 3) := by decide +kernel
theorem dX11_no_5 : decode cX11_no 5 = .ok (.iconst (-1), 1) := by decide +kernel
theorem dX11_no_6 : decode cX11_no 6 = .ok (.ireturn, 1) := by decide +kernel
theorem dX11_nowhere_0 : decode cX11_nowhere 0 = .ok (.aload_n 0, 1) := by decide +kernel
theorem dX11_nowhere_1 : decode cX11_nowhere 1 = .ok (.iload_n 1, 1) := by decide +kernel
theorem dX11_nowhere_2 : decode cX11_nowhere 2 = .ok (.putfield 56, 3) := by decide +kernel
theorem dX11_nowhere_5 : decode cX11_nowhere 5 = .ok (.ldc 59, 2) := by decide +kernel
theorem dX11_nowhere_7 : decode cX11_nowhere 7 = .ok (.ireturn, 1) := by decide +kernel
theorem dX11_isNot_0 : decode cX11_isNot 0 = .ok (.aload_n 0, 1) := by decide +kernel
theorem dX11_isNot_1 : decode cX11_isNot 1 = .ok (.iload_n 1, 1) := by decide +kernel
theorem dX11_isNot_2 : decode cX11_isNot 2 = .ok (.putfield 56, 3) := by decide +kernel
theorem dX11_isNot_5 : decode cX11_isNot 5 = .ok (.iconst 0, 1) := by decide +kernel
theorem dX11_isNot_6 : decode cX11_isNot 6 = .ok (.ireturn, 1) := by decide +kernel
theorem dX11_in_0 : decode cX11_in 0 = .ok (.iload_n 0, 1) := by decide +kernel
theorem dX11_in_1 : decode cX11_in 1 = .ok (.iload_n 1, 1) := by decide +kernel
theorem dX11_in_2 : decode cX11_in 2 = .ok (.if_icmp .lt 12, 3) := by decide +kernel
theorem dX11_in_5 : decode cX11_in 5 = .ok (.iload_n 0, 1) := by decide +kernel
theorem dX11_in_6 : decode cX11_in 6 = .ok (.iload_n 2, 1) := by decide +kernel
theorem dX11_in_7 : decode cX11_in 7 = .ok (.if_icmp .gt 7, 3) := by decide +kernel
theorem dX11_in_10 : decode cX11_in 10 = .ok (.iconst 1, 1) := by decide +kernel
theorem dX11_in_11 : decode cX11_in 11 = .ok (.goto 4, 3) := by decide +kernel
theorem dX11_in_14 : decode cX11_in 14 = .ok (.iconst 0, 1) := by decide +kernel
theorem dX11_in_15 : decode cX11_in 15 = .ok (.ireturn, 1) := by decide +kernel
theorem dX11_hasBit_0 : decode cX11_hasBit 0 = .ok (.iload_n 0, 1) := by decide +kernel
theorem dX11_hasBit_1 : decode cX11_hasBit 1 = .ok (.iload_n 1, 1) := by decide +kernel
theorem dX11_hasBit_2 : decode cX11_hasBit 2 = .ok (.ishr, 1) := by decide +kernel
theorem dX11_hasBit_3 : decode cX11_hasBit 3 = .ok (.iconst 1, 1) := by decide +kernel
theorem dX11_hasBit_4 : decode cX11_hasBit 4 = .ok (.iand, 1) := by decide +kernel
theorem dX11_hasBit_5 : decode cX11_hasBit 5 = .ok (.iconst 1, 1) := by decide +kernel
theorem dX11_hasBit_6 : decode cX11_hasBit 6 = .ok (.if_icmp .ne 7, 3) := by decide +kernel
theorem dX11_hasBit_9 : decode cX11_hasBit 9 = .ok (.iconst 1, 1) := by decide +kernel
theorem dX11_hasBit_10 : decode cX11_hasBit 10 = .ok (.goto 4, 3) := by decide +kernel
theorem dX11_hasBit_13 : decode cX11_hasBit 13 = .ok (.iconst 0, 1) := by decide +kernel
theorem dX11_hasBit_14 : decode cX11_hasBit 14 = .ok (.ireturn, 1) := by decide +kernel
theorem dX11_away_0 : decode cX11_away 0 = .ok (.iload_n 0, 1) := by decide +kernel
theorem dX11_away_1 : decode cX11_away 1 = .ok (.ifCond .ge 8, 3) := by decide +kernel
theorem dX11_away_4 : decode cX11_away 4 = .ok (.iload_n 0, 1) := by decide +kernel
theorem dX11_away_5 : decode cX11_away 5 = .ok (.ineg, 1) := by decide +kernel
theorem dX11_away_6 : decode cX11_away 6 = .ok (.goto 4, 3) := by decide +kernel
theorem dX11_away_9 : decode cX11_away 9 = .ok (.iload_n 0, 1) := by decide +kernel
theorem dX11_away_10 : decode cX11_away 10 = .ok (.ireturn, 1) := by decide +kernel
theorem dX11_copy_0 : decode cX11_copy 0 = .ok (.iconst 0, 1) := by decide +kernel
theorem dX11_copy_1 : decode cX11_copy 1 = .ok (.istore 5, 2) := by decide +kernel
theorem dX11_copy_3 : decode cX11_copy 3 = .ok (.iload 5, 2) := by decide +kernel
theorem dX11_copy_5 : decode cX11_copy 5 = .ok (.iload 4, 2) := by decide +kernel
theorem dX11_copy_7 : decode cX11_copy 7 = .ok (.if_icmp .ge 21, 3) := by decide +kernel
theorem dX11_copy_10 : decode cX11_copy 10 = .ok (.aload_n 2, 1) := by decide +kernel
theorem dX11_copy_11 : decode cX11_copy 11 = .ok (.iload_n 3, 1) := by decide +kernel
theorem dX11_copy_12 : decode cX11_copy 12 = .ok (.iload 5, 2) := by decide +kernel
theorem dX11_copy_14 : decode cX11_copy 14 = .ok (.iadd, 1) := by decide +kernel
theorem dX11_copy_15 : decode cX11_copy 15 = .ok (.aload_n 0, 1) := by decide +kernel
theorem dX11_copy_16 : decode cX11_copy 16 = .ok (.iload_n 1, 1) := by decide +kernel
theorem dX11_copy_17 : decode cX11_copy 17 = .ok (.iload 5, 2) := by decide +kernel
theorem dX11_copy_19 : decode cX11_copy 19 = .ok (.iadd, 1) := by decide +kernel
theorem dX11_copy_20 : decode cX11_copy 20 = .ok (.iaload, 1) := by decide +kernel
theorem dX11_copy_21 : decode cX11_copy 21 = .ok (.iastore, 1) := by decide +kernel
theorem dX11_copy_22 : decode cX11_copy 22 = .ok (.iinc 5 1, 3) := by decide +kernel
theorem dX11_copy_25 : decode cX11_copy 25 = .ok (.goto (-22), 3) := by decide +kernel
theorem dX11_copy_28 : decode cX11_copy 28 = .ok (.return_, 1) := by decide +kernel
theorem dX11_common_0 : decode cX11_common 0 = .ok (.iload_n 0, 1) := by decide +kernel
theorem dX11_common_1 : decode cX11_common 1 = .ok (.invokestatic 60, 3) := by decide +kernel
theorem dX11_common_4 : decode cX11_common 4 = .ok (.istore_n 2, 1) := by decide +kernel
theorem dX11_common_5 : decode cX11_common 5 = .ok (.iload_n 1, 1) := by decide +kernel
theorem dX11_common_6 : decode cX11_common 6 = .ok (.invokestatic 60, 3) := by decide +kernel
theorem dX11_common_9 : decode cX11_common 9 = .ok (.istore_n 3, 1) := by decide +kernel
theorem dX11_common_10 : decode cX11_common 10 = .ok (.iload_n 3, 1) := by decide +kernel
theorem dX11_common_11 : decode cX11_common 11 = .ok (.ifCond .eq 16, 3) := by decide +kernel
theorem dX11_common_14 : decode cX11_common 14 = .ok (.iload_n 2, 1) := by decide +kernel
theorem dX11_common_15 : decode cX11_common 15 = .ok (.iload_n 3, 1) := by decide +kernel
theorem dX11_common_16 : decode cX11_common 16 = .ok (.irem, 1) := by decide +kernel
theorem dX11_common_17 : decode cX11_common 17 = .ok (.istore 4, 2) := by decide +kernel
theorem dX11_common_19 : decode cX11_common 19 = .ok (.iload_n 3, 1) := by decide +kernel
theorem dX11_common_20 : decode cX11_common 20 = .ok (.istore_n 2, 1) := by decide +kernel
theorem dX11_common_21 : decode cX11_common 21 = .ok (.iload 4, 2) := by decide +kernel
theorem dX11_common_23 : decode cX11_common 23 = .ok (.istore_n 3, 1) := by decide +kernel
theorem dX11_common_24 : decode cX11_common 24 = .ok (.goto (-14), 3) := by decide +kernel
theorem dX11_common_27 : decode cX11_common 27 = .ok (.iload_n 2, 1) := by decide +kernel
theorem dX11_common_28 : decode cX11_common 28 = .ok (.ireturn, 1) := by decide +kernel
theorem dX11_lowest_0 : decode cX11_lowest 0 = .ok (.lload_n 2, 1) := by decide +kernel
theorem dX11_lowest_1 : decode cX11_lowest 1 = .ok (.lstore 5, 2) := by decide +kernel
theorem dX11_lowest_3 : decode cX11_lowest 3 = .ok (.lload_n 0, 1) := by decide +kernel
theorem dX11_lowest_4 : decode cX11_lowest 4 = .ok (.lstore 7, 2) := by decide +kernel
theorem dX11_lowest_6 : decode cX11_lowest 6 = .ok (.lload 7, 2) := by decide +kernel
theorem dX11_lowest_8 : decode cX11_lowest 8 = .ok (.lconst 0, 1) := by decide +kernel
theorem dX11_lowest_9 : decode cX11_lowest 9 = .ok (.lcmp, 1) := by decide +kernel
theorem dX11_lowest_10 : decode cX11_lowest 10 = .ok (.ifCond .eq 21, 3) := by decide +kernel
theorem dX11_lowest_13 : decode cX11_lowest 13 = .ok (.lload 5, 2) := by decide +kernel
theorem dX11_lowest_15 : decode cX11_lowest 15 = .ok (.lload 7, 2) := by decide +kernel
theorem dX11_lowest_17 : decode cX11_lowest 17 = .ok (.lrem, 1) := by decide +kernel
theorem dX11_lowest_18 : decode cX11_lowest 18 = .ok (.lstore 9, 2) := by decide +kernel
theorem dX11_lowest_20 : decode cX11_lowest 20 = .ok (.lload 7, 2) := by decide +kernel
theorem dX11_lowest_22 : decode cX11_lowest 22 = .ok (.lstore 5, 2) := by decide +kernel
theorem dX11_lowest_24 : decode cX11_lowest 24 = .ok (.lload 9, 2) := by decide +kernel
theorem dX11_lowest_26 : decode cX11_lowest 26 = .ok (.lstore 7, 2) := by decide +kernel
theorem dX11_lowest_28 : decode cX11_lowest 28 = .ok (.goto (-22), 3) := by decide +kernel
theorem dX11_lowest_31 : decode cX11_lowest 31 = .ok (.iload 4, 2) := by decide +kernel
theorem dX11_lowest_33 : decode cX11_lowest 33 = .ok (.ifCond .eq 7, 3) := by decide +kernel
theorem dX11_lowest_36 : decode cX11_lowest 36 = .ok (.lload_n 2, 1) := by decide +kernel
theorem dX11_lowest_37 : decode cX11_lowest 37 = .ok (.goto 4, 3) := by decide +kernel
theorem dX11_lowest_40 : decode cX11_lowest 40 = .ok (.lload_n 0, 1) := by decide +kernel
theorem dX11_lowest_41 : decode cX11_lowest 41 = .ok (.lload 5, 2) := by decide +kernel
theorem dX11_lowest_43 : decode cX11_lowest 43 = .ok (.ldiv, 1) := by decide +kernel
theorem dX11_lowest_44 : decode cX11_lowest 44 = .ok (.lreturn, 1) := by decide +kernel
theorem dX11_feed_0 : decode cX11_feed 0 = .ok (.aload_n 0, 1) := by decide +kernel
theorem dX11_feed_1 : decode cX11_feed 1 = .ok (.iconst 0, 1) := by decide +kernel
theorem dX11_feed_2 : decode cX11_feed 2 = .ok (.putfield 53, 3) := by decide +kernel
theorem dX11_feed_5 : decode cX11_feed 5 = .ok (.aload_n 0, 1) := by decide +kernel
theorem dX11_feed_6 : decode cX11_feed 6 = .ok (.getfield 64, 3) := by decide +kernel
theorem dX11_feed_9 : decode cX11_feed 9 = .ok (.bipush 20, 2) := by decide +kernel
theorem dX11_feed_11 : decode cX11_feed 11 = .ok (.iadd, 1) := by decide +kernel
theorem dX11_feed_12 : decode cX11_feed 12 = .ok (.sipush 600, 3) := by decide +kernel
theorem dX11_feed_15 : decode cX11_feed 15 = .ok (.if_icmp .le 5, 3) := by decide +kernel
theorem dX11_feed_18 : decode cX11_feed 18 = .ok (.iconst (-1), 1) := by decide +kernel
theorem dX11_feed_19 : decode cX11_feed 19 = .ok (.ireturn, 1) := by decide +kernel
theorem dX11_feed_20 : decode cX11_feed 20 = .ok (.iconst 0, 1) := by decide +kernel
theorem dX11_feed_21 : decode cX11_feed 21 = .ok (.istore 6, 2) := by decide +kernel
theorem dX11_feed_23 : decode cX11_feed 23 = .ok (.iload 6, 2) := by decide +kernel
theorem dX11_feed_25 : decode cX11_feed 25 = .ok (.bipush 20, 2) := by decide +kernel
theorem dX11_feed_27 : decode cX11_feed 27 = .ok (.if_icmp .ge 93, 3) := by decide +kernel
theorem dX11_feed_30 : decode cX11_feed 30 = .ok (.iload 6, 2) := by decide +kernel
theorem dX11_feed_32 : decode cX11_feed 32 = .ok (.iconst 4, 1) := by decide +kernel
theorem dX11_feed_33 : decode cX11_feed 33 = .ok (.if_icmp .ge 7, 3) := by decide +kernel
theorem dX11_feed_36 : decode cX11_feed 36 = .ok (.iload_n 1, 1) := by decide +kernel
theorem dX11_feed_37 : decode cX11_feed 37 = .ok (.goto 39, 3) := by decide +kernel
theorem dX11_feed_40 : decode cX11_feed 40 = .ok (.iload 6, 2) := by decide +kernel
theorem dX11_feed_42 : decode cX11_feed 42 = .ok (.bipush 8, 2) := by decide +kernel
theorem dX11_feed_44 : decode cX11_feed 44 = .ok (.if_icmp .ge 7, 3) := by decide +kernel
theorem dX11_feed_47 : decode cX11_feed 47 = .ok (.iload_n 2, 1) := by decide +kernel
theorem dX11_feed_48 : decode cX11_feed 48 = .ok (.goto 28, 3) := by decide +kernel
theorem dX11_feed_51 : decode cX11_feed 51 = .ok (.iload 6, 2) := by decide +kernel
theorem dX11_feed_53 : decode cX11_feed 53 = .ok (.bipush 12, 2) := by decide +kernel
theorem dX11_feed_55 : decode cX11_feed 55 = .ok (.if_icmp .ge 7, 3) := by decide +kernel
theorem dX11_feed_58 : decode cX11_feed 58 = .ok (.iload_n 3, 1) := by decide +kernel
theorem dX11_feed_59 : decode cX11_feed 59 = .ok (.goto 17, 3) := by decide +kernel
theorem dX11_feed_62 : decode cX11_feed 62 = .ok (.iload 6, 2) := by decide +kernel
theorem dX11_feed_64 : decode cX11_feed 64 = .ok (.bipush 16, 2) := by decide +kernel
theorem dX11_feed_66 : decode cX11_feed 66 = .ok (.if_icmp .ge 8, 3) := by decide +kernel
theorem dX11_feed_69 : decode cX11_feed 69 = .ok (.iload 4, 2) := by decide +kernel
theorem dX11_feed_71 : decode cX11_feed 71 = .ok (.goto 5, 3) := by decide +kernel
theorem dX11_feed_74 : decode cX11_feed 74 = .ok (.iload 5, 2) := by decide +kernel
theorem dX11_feed_76 : decode cX11_feed 76 = .ok (.istore 7, 2) := by decide +kernel
theorem dX11_feed_78 : decode cX11_feed 78 = .ok (.aload_n 0, 1) := by decide +kernel
theorem dX11_feed_79 : decode cX11_feed 79 = .ok (.getfield 7, 3) := by decide +kernel
theorem dX11_feed_82 : decode cX11_feed 82 = .ok (.aload_n 0, 1) := by decide +kernel
theorem dX11_feed_83 : decode cX11_feed 83 = .ok (.getfield 64, 3) := by decide +kernel
theorem dX11_feed_86 : decode cX11_feed 86 = .ok (.iload 7, 2) := by decide +kernel
theorem dX11_feed_88 : decode cX11_feed 88 = .ok (.bipush 24, 2) := by decide +kernel
theorem dX11_feed_90 : decode cX11_feed 90 = .ok (.bipush 8, 2) := by decide +kernel
theorem dX11_feed_92 : decode cX11_feed 92 = .ok (.iload 6, 2) := by decide +kernel
theorem dX11_feed_94 : decode cX11_feed 94 = .ok (.iconst 4, 1) := by decide +kernel
theorem dX11_feed_95 : decode cX11_feed 95 = .ok (.irem, 1) := by decide +kernel
theorem dX11_feed_96 : decode cX11_feed 96 = .ok (.imul, 1) := by decide +kernel
theorem dX11_feed_97 : decode cX11_feed 97 = .ok (.isub, 1) := by decide +kernel
theorem dX11_feed_98 : decode cX11_feed 98 = .ok (.ishr, 1) := by decide +kernel
theorem dX11_feed_99 : decode cX11_feed 99 = .ok (.sipush 255, 3) := by decide +kernel
theorem dX11_feed_102 : decode cX11_feed 102 = .ok (.iand, 1) := by decide +kernel
theorem dX11_feed_103 : decode cX11_feed 103 = .ok (.iastore, 1) := by decide +kernel
theorem dX11_feed_104 : decode cX11_feed 104 = .ok (.aload_n 0, 1) := by decide +kernel
theorem dX11_feed_105 : decode cX11_feed 105 = .ok (.dup, 1) := by decide +kernel
theorem dX11_feed_106 : decode cX11_feed 106 = .ok (.getfield 64, 3) := by decide +kernel
theorem dX11_feed_109 : decode cX11_feed 109 = .ok (.iconst 1, 1) := by decide +kernel
theorem dX11_feed_110 : decode cX11_feed 110 = .ok (.iadd, 1) := by decide +kernel
theorem dX11_feed_111 : decode cX11_feed 111 = .ok (.putfield 64, 3) := by decide +kernel
theorem dX11_feed_114 : decode cX11_feed 114 = .ok (.iinc 6 1, 3) := by decide +kernel
theorem dX11_feed_117 : decode cX11_feed 117 = .ok (.goto (-94), 3) := by decide +kernel
theorem dX11_feed_120 : decode cX11_feed 120 = .ok (.aload_n 0, 1) := by decide +kernel
theorem dX11_feed_121 : decode cX11_feed 121 = .ok (.getfield 64, 3) := by decide +kernel
theorem dX11_feed_124 : decode cX11_feed 124 = .ok (.ireturn, 1) := by decide +kernel
theorem dX11_see_0 : decode cX11_see 0 = .ok (.iload_n 1, 1) := by decide +kernel
theorem dX11_see_1 : decode cX11_see 1 = .ok (.aload_n 0, 1) := by decide +kernel
theorem dX11_see_2 : decode cX11_see 2 = .ok (.getfield 67, 3) := by decide +kernel
theorem dX11_see_5 : decode cX11_see 5 = .ok (.if_icmp .ge 12, 3) := by decide +kernel
theorem dX11_see_8 : decode cX11_see 8 = .ok (.aload_n 0, 1) := by decide +kernel
theorem dX11_see_9 : decode cX11_see 9 = .ok (.getfield 7, 3) := by decide +kernel
theorem dX11_see_12 : decode cX11_see 12 = .ok (.iload_n 1, 1) := by decide +kernel
theorem dX11_see_13 : decode cX11_see 13 = .ok (.iaload, 1) := by decide +kernel
theorem dX11_see_14 : decode cX11_see 14 = .ok (.goto 4, 3) := by decide +kernel
theorem dX11_see_17 : decode cX11_see 17 = .ok (.iconst (-1), 1) := by decide +kernel
theorem dX11_see_18 : decode cX11_see 18 = .ok (.ireturn, 1) := by decide +kernel
theorem dX11_isSmall_0 : decode cX11_isSmall 0 = .ok (.iload_n 0, 1) := by decide +kernel
theorem dX11_isSmall_1 : decode cX11_isSmall 1 = .ok (.bipush 97, 2) := by decide +kernel
theorem dX11_isSmall_3 : decode cX11_isSmall 3 = .ok (.if_icmp .lt 13, 3) := by decide +kernel
theorem dX11_isSmall_6 : decode cX11_isSmall 6 = .ok (.iload_n 0, 1) := by decide +kernel
theorem dX11_isSmall_7 : decode cX11_isSmall 7 = .ok (.bipush 122, 2) := by decide +kernel
theorem dX11_isSmall_9 : decode cX11_isSmall 9 = .ok (.if_icmp .gt 7, 3) := by decide +kernel
theorem dX11_isSmall_12 : decode cX11_isSmall 12 = .ok (.iconst 1, 1) := by decide +kernel
theorem dX11_isSmall_13 : decode cX11_isSmall 13 = .ok (.goto 4, 3) := by decide +kernel
theorem dX11_isSmall_16 : decode cX11_isSmall 16 = .ok (.iconst 0, 1) := by decide +kernel
theorem dX11_isSmall_17 : decode cX11_isSmall 17 = .ok (.ireturn, 1) := by decide +kernel
theorem dX11_isDigit_0 : decode cX11_isDigit 0 = .ok (.iload_n 0, 1) := by decide +kernel
theorem dX11_isDigit_1 : decode cX11_isDigit 1 = .ok (.bipush 48, 2) := by decide +kernel
theorem dX11_isDigit_3 : decode cX11_isDigit 3 = .ok (.if_icmp .lt 13, 3) := by decide +kernel
theorem dX11_isDigit_6 : decode cX11_isDigit 6 = .ok (.iload_n 0, 1) := by decide +kernel
theorem dX11_isDigit_7 : decode cX11_isDigit 7 = .ok (.bipush 57, 2) := by decide +kernel
theorem dX11_isDigit_9 : decode cX11_isDigit 9 = .ok (.if_icmp .gt 7, 3) := by decide +kernel
theorem dX11_isDigit_12 : decode cX11_isDigit 12 = .ok (.iconst 1, 1) := by decide +kernel
theorem dX11_isDigit_13 : decode cX11_isDigit 13 = .ok (.goto 4, 3) := by decide +kernel
theorem dX11_isDigit_16 : decode cX11_isDigit 16 = .ok (.iconst 0, 1) := by decide +kernel
theorem dX11_isDigit_17 : decode cX11_isDigit 17 = .ok (.ireturn, 1) := by decide +kernel
theorem dX11_next_0 : decode cX11_next 0 = .ok (.aload_n 0, 1) := by decide +kernel
theorem dX11_next_1 : decode cX11_next 1 = .ok (.getfield 70, 3) := by decide +kernel
theorem dX11_next_4 : decode cX11_next 4 = .ok (.istore_n 1, 1) := by decide +kernel
theorem dX11_next_5 : decode cX11_next 5 = .ok (.aload_n 0, 1) := by decide +kernel
theorem dX11_next_6 : decode cX11_next 6 = .ok (.iload_n 1, 1) := by decide +kernel
theorem dX11_next_7 : decode cX11_next 7 = .ok (.invokevirtual 73, 3) := by decide +kernel
theorem dX11_next_10 : decode cX11_next 10 = .ok (.bipush 32, 2) := by decide +kernel
theorem dX11_next_12 : decode cX11_next 12 = .ok (.if_icmp .ne 9, 3) := by decide +kernel
theorem dX11_next_15 : decode cX11_next 15 = .ok (.iinc 1 1, 3) := by decide +kernel
theorem dX11_next_18 : decode cX11_next 18 = .ok (.goto (-13), 3) := by decide +kernel
theorem dX11_next_21 : decode cX11_next 21 = .ok (.aload_n 0, 1) := by decide +kernel
theorem dX11_next_22 : decode cX11_next 22 = .ok (.iload_n 1, 1) := by decide +kernel
theorem dX11_next_23 : decode cX11_next 23 = .ok (.putfield 76, 3) := by decide +kernel
theorem dX11_next_26 : decode cX11_next 26 = .ok (.aload_n 0, 1) := by decide +kernel
theorem dX11_next_27 : decode cX11_next 27 = .ok (.iload_n 1, 1) := by decide +kernel
theorem dX11_next_28 : decode cX11_next 28 = .ok (.invokevirtual 73, 3) := by decide +kernel
theorem dX11_next_31 : decode cX11_next 31 = .ok (.istore_n 2, 1) := by decide +kernel
theorem dX11_next_32 : decode cX11_next 32 = .ok (.aload_n 0, 1) := by decide +kernel
theorem dX11_next_33 : decode cX11_next 33 = .ok (.iconst 0, 1) := by decide +kernel
theorem dX11_next_34 : decode cX11_next 34 = .ok (.putfield 79, 3) := by decide +kernel
theorem dX11_next_37 : decode cX11_next 37 = .ok (.aload_n 0, 1) := by decide +kernel
theorem dX11_next_38 : decode cX11_next 38 = .ok (.iconst 0, 1) := by decide +kernel
theorem dX11_next_39 : decode cX11_next 39 = .ok (.putfield 82, 3) := by decide +kernel
theorem dX11_next_42 : decode cX11_next 42 = .ok (.iload_n 2, 1) := by decide +kernel
theorem dX11_next_43 : decode cX11_next 43 = .ok (.iconst (-1), 1) := by decide +kernel
theorem dX11_next_44 : decode cX11_next 44 = .ok (.if_icmp .ne 16, 3) := by decide +kernel
theorem dX11_next_47 : decode cX11_next 47 = .ok (.aload_n 0, 1) := by decide +kernel
theorem dX11_next_48 : decode cX11_next 48 = .ok (.iconst 0, 1) := by decide +kernel
theorem dX11_next_49 : decode cX11_next 49 = .ok (.putfield 85, 3) := by decide +kernel
theorem dX11_next_52 : decode cX11_next 52 = .ok (.aload_n 0, 1) := by decide +kernel
theorem dX11_next_53 : decode cX11_next 53 = .ok (.iload_n 1, 1) := by decide +kernel
theorem dX11_next_54 : decode cX11_next 54 = .ok (.putfield 70, 3) := by decide +kernel
theorem dX11_next_57 : decode cX11_next 57 = .ok (.goto 184, 3) := by decide +kernel
theorem dX11_next_60 : decode cX11_next 60 = .ok (.iload_n 2, 1) := by decide +kernel
theorem dX11_next_61 : decode cX11_next 61 = .ok (.invokestatic 88, 3) := by decide +kernel
theorem dX11_next_64 : decode cX11_next 64 = .ok (.ifCond .eq 79, 3) := by decide +kernel
theorem dX11_next_67 : decode cX11_next 67 = .ok (.aload_n 0, 1) := by decide +kernel
theorem dX11_next_68 : decode cX11_next 68 = .ok (.iload_n 1, 1) := by decide +kernel
theorem dX11_next_69 : decode cX11_next 69 = .ok (.invokevirtual 73, 3) := by decide +kernel
theorem dX11_next_72 : decode cX11_next 72 = .ok (.invokestatic 88, 3) := by decide +kernel
theorem dX11_next_75 : decode cX11_next 75 = .ok (.ifCond .eq 42, 3) := by decide +kernel
theorem dX11_next_78 : decode cX11_next 78 = .ok (.aload_n 0, 1) := by decide +kernel
theorem dX11_next_79 : decode cX11_next 79 = .ok (.getfield 79, 3) := by decide +kernel
theorem dX11_next_82 : decode cX11_next 82 = .ok (.bipush 12, 2) := by decide +kernel
theorem dX11_next_84 : decode cX11_next 84 = .ok (.if_icmp .ge 17, 3) := by decide +kernel
theorem dX11_next_87 : decode cX11_next 87 = .ok (.aload_n 0, 1) := by decide +kernel
theorem dX11_next_88 : decode cX11_next 88 = .ok (.getfield 17, 3) := by decide +kernel
theorem dX11_next_91 : decode cX11_next 91 = .ok (.aload_n 0, 1) := by decide +kernel
theorem dX11_next_92 : decode cX11_next 92 = .ok (.getfield 79, 3) := by decide +kernel
theorem dX11_next_95 : decode cX11_next 95 = .ok (.aload_n 0, 1) := by decide +kernel
theorem dX11_next_96 : decode cX11_next 96 = .ok (.iload_n 1, 1) := by decide +kernel
theorem dX11_next_97 : decode cX11_next 97 = .ok (.invokevirtual 73, 3) := by decide +kernel
theorem dX11_next_100 : decode cX11_next 100 = .ok (.iastore, 1) := by decide +kernel
theorem dX11_next_101 : decode cX11_next 101 = .ok (.aload_n 0, 1) := by decide +kernel
theorem dX11_next_102 : decode cX11_next 102 = .ok (.dup, 1) := by decide +kernel
theorem dX11_next_103 : decode cX11_next 103 = .ok (.getfield 79, 3) := by decide +kernel
theorem dX11_next_106 : decode cX11_next 106 = .ok (.iconst 1, 1) := by decide +kernel
theorem dX11_next_107 : decode cX11_next 107 = .ok (.iadd, 1) := by decide +kernel
theorem dX11_next_108 : decode cX11_next 108 = .ok (.putfield 79, 3) := by decide +kernel
theorem dX11_next_111 : decode cX11_next 111 = .ok (.iinc 1 1, 3) := by decide +kernel
theorem dX11_next_114 : decode cX11_next 114 = .ok (.goto (-47), 3) := by decide +kernel
theorem dX11_next_117 : decode cX11_next 117 = .ok (.aload_n 0, 1) := by decide +kernel
theorem dX11_next_118 : decode cX11_next 118 = .ok (.iload_n 1, 1) := by decide +kernel
theorem dX11_next_119 : decode cX11_next 119 = .ok (.putfield 70, 3) := by decide +kernel
theorem dX11_next_122 : decode cX11_next 122 = .ok (.aload_n 0, 1) := by decide +kernel
theorem dX11_next_123 : decode cX11_next 123 = .ok (.aload_n 0, 1) := by decide +kernel
theorem dX11_next_124 : decode cX11_next 124 = .ok (.getfield 79, 3) := by decide +kernel
theorem dX11_next_127 : decode cX11_next 127 = .ok (.bipush 12, 2) := by decide +kernel
theorem dX11_next_129 : decode cX11_next 129 = .ok (.if_icmp .le 7, 3) := by decide +kernel
theorem dX11_next_132 : decode cX11_next 132 = .ok (.iconst 1, 1) := by decide +kernel
theorem dX11_next_133 : decode cX11_next 133 = .ok (.goto 4, 3) := by decide +kernel
theorem dX11_next_136 : decode cX11_next 136 = .ok (.iconst 2, 1) := by decide +kernel
theorem dX11_next_137 : decode cX11_next 137 = .ok (.putfield 85, 3) := by decide +kernel
theorem dX11_next_140 : decode cX11_next 140 = .ok (.goto 101, 3) := by decide +kernel
theorem dX11_next_143 : decode cX11_next 143 = .ok (.iload_n 2, 1) := by decide +kernel
theorem dX11_next_144 : decode cX11_next 144 = .ok (.invokestatic 92, 3) := by decide +kernel
theorem dX11_next_147 : decode cX11_next 147 = .ok (.ifCond .eq 72, 3) := by decide +kernel
theorem dX11_next_150 : decode cX11_next 150 = .ok (.iconst 0, 1) := by decide +kernel
theorem dX11_next_151 : decode cX11_next 151 = .ok (.istore_n 3, 1) := by decide +kernel
theorem dX11_next_152 : decode cX11_next 152 = .ok (.aload_n 0, 1) := by decide +kernel
theorem dX11_next_153 : decode cX11_next 153 = .ok (.iload_n 1, 1) := by decide +kernel
theorem dX11_next_154 : decode cX11_next 154 = .ok (.invokevirtual 73, 3) := by decide +kernel
theorem dX11_next_157 : decode cX11_next 157 = .ok (.invokestatic 92, 3) := by decide +kernel
theorem dX11_next_160 : decode cX11_next 160 = .ok (.ifCond .eq 37, 3) := by decide +kernel
theorem dX11_next_163 : decode cX11_next 163 = .ok (.iload_n 3, 1) := by decide +kernel
theorem dX11_next_164 : decode cX11_next 164 = .ok (.iconst 3, 1) := by decide +kernel
theorem dX11_next_165 : decode cX11_next 165 = .ok (.if_icmp .ge 23, 3) := by decide +kernel
theorem dX11_next_168 : decode cX11_next 168 = .ok (.aload_n 0, 1) := by decide +kernel
theorem dX11_next_169 : decode cX11_next 169 = .ok (.bipush 10, 2) := by decide +kernel
theorem dX11_next_171 : decode cX11_next 171 = .ok (.aload_n 0, 1) := by decide +kernel
theorem dX11_next_172 : decode cX11_next 172 = .ok (.getfield 82, 3) := by decide +kernel
theorem dX11_next_175 : decode cX11_next 175 = .ok (.imul, 1) := by decide +kernel
theorem dX11_next_176 : decode cX11_next 176 = .ok (.aload_n 0, 1) := by decide +kernel
theorem dX11_next_177 : decode cX11_next 177 = .ok (.iload_n 1, 1) := by decide +kernel
theorem dX11_next_178 : decode cX11_next 178 = .ok (.invokevirtual 73, 3) := by decide +kernel
theorem dX11_next_181 : decode cX11_next 181 = .ok (.iadd, 1) := by decide +kernel
theorem dX11_next_182 : decode cX11_next 182 = .ok (.bipush 48, 2) := by decide +kernel
theorem dX11_next_184 : decode cX11_next 184 = .ok (.isub, 1) := by decide +kernel
theorem dX11_next_185 : decode cX11_next 185 = .ok (.putfield 82, 3) := by decide +kernel
theorem dX11_next_188 : decode cX11_next 188 = .ok (.iinc 3 1, 3) := by decide +kernel
theorem dX11_next_191 : decode cX11_next 191 = .ok (.iinc 1 1, 3) := by decide +kernel
theorem dX11_next_194 : decode cX11_next 194 = .ok (.goto (-42), 3) := by decide +kernel
theorem dX11_next_197 : decode cX11_next 197 = .ok (.aload_n 0, 1) := by decide +kernel
theorem dX11_next_198 : decode cX11_next 198 = .ok (.iload_n 1, 1) := by decide +kernel
theorem dX11_next_199 : decode cX11_next 199 = .ok (.putfield 70, 3) := by decide +kernel
theorem dX11_next_202 : decode cX11_next 202 = .ok (.aload_n 0, 1) := by decide +kernel
theorem dX11_next_203 : decode cX11_next 203 = .ok (.iload_n 3, 1) := by decide +kernel
theorem dX11_next_204 : decode cX11_next 204 = .ok (.iconst 3, 1) := by decide +kernel
theorem dX11_next_205 : decode cX11_next 205 = .ok (.if_icmp .le 7, 3) := by decide +kernel
theorem dX11_next_208 : decode cX11_next 208 = .ok (.iconst 1, 1) := by decide +kernel
theorem dX11_next_209 : decode cX11_next 209 = .ok (.goto 4, 3) := by decide +kernel
theorem dX11_next_212 : decode cX11_next 212 = .ok (.iconst 3, 1) := by decide +kernel
theorem dX11_next_213 : decode cX11_next 213 = .ok (.putfield 85, 3) := by decide +kernel
theorem dX11_next_216 : decode cX11_next 216 = .ok (.goto 25, 3) := by decide +kernel
theorem dX11_next_219 : decode cX11_next 219 = .ok (.aload_n 0, 1) := by decide +kernel
theorem dX11_next_220 : decode cX11_next 220 = .ok (.iload_n 1, 1) := by decide +kernel
theorem dX11_next_221 : decode cX11_next 221 = .ok (.iconst 1, 1) := by decide +kernel
theorem dX11_next_222 : decode cX11_next 222 = .ok (.iadd, 1) := by decide +kernel
theorem dX11_next_223 : decode cX11_next 223 = .ok (.putfield 70, 3) := by decide +kernel
theorem dX11_next_226 : decode cX11_next 226 = .ok (.aload_n 0, 1) := by decide +kernel
theorem dX11_next_227 : decode cX11_next 227 = .ok (.iload_n 2, 1) := by decide +kernel
theorem dX11_next_228 : decode cX11_next 228 = .ok (.bipush 59, 2) := by decide +kernel
theorem dX11_next_230 : decode cX11_next 230 = .ok (.if_icmp .ne 7, 3) := by decide +kernel
theorem dX11_next_233 : decode cX11_next 233 = .ok (.iload_n 2, 1) := by decide +kernel
theorem dX11_next_234 : decode cX11_next 234 = .ok (.goto 4, 3) := by decide +kernel
theorem dX11_next_237 : decode cX11_next 237 = .ok (.iconst 1, 1) := by decide +kernel
theorem dX11_next_238 : decode cX11_next 238 = .ok (.putfield 85, 3) := by decide +kernel
theorem dX11_next_241 : decode cX11_next 241 = .ok (.return_, 1) := by decide +kernel
theorem dX11_wrong_0 : decode cX11_wrong 0 = .ok (.aload_n 0, 1) := by decide +kernel
theorem dX11_wrong_1 : decode cX11_wrong 1 = .ok (.getfield 95, 3) := by decide +kernel
theorem dX11_wrong_4 : decode cX11_wrong 4 = .ok (.ifCond .eq 4, 3) := by decide +kernel
theorem dX11_wrong_7 : decode cX11_wrong 7 = .ok (.return_, 1) := by decide +kernel
theorem dX11_wrong_8 : decode cX11_wrong 8 = .ok (.aload_n 0, 1) := by decide +kernel
theorem dX11_wrong_9 : decode cX11_wrong 9 = .ok (.iconst 1, 1) := by decide +kernel
theorem dX11_wrong_10 : decode cX11_wrong 10 = .ok (.putfield 95, 3) := by decide +kernel
theorem dX11_wrong_13 : decode cX11_wrong 13 = .ok (.aload_n 0, 1) := by decide +kernel
theorem dX11_wrong_14 : decode cX11_wrong 14 = .ok (.iload_n 1, 1) := by decide +kernel
theorem dX11_wrong_15 : decode cX11_wrong 15 = .ok (.putfield 99, 3) := by decide +kernel
theorem dX11_wrong_18 : decode cX11_wrong 18 = .ok (.aload_n 0, 1) := by decide +kernel
theorem dX11_wrong_19 : decode cX11_wrong 19 = .ok (.iload_n 2, 1) := by decide +kernel
theorem dX11_wrong_20 : decode cX11_wrong 20 = .ok (.putfield 13, 3) := by decide +kernel
theorem dX11_wrong_23 : decode cX11_wrong 23 = .ok (.return_, 1) := by decide +kernel
theorem dX11_isWord_0 : decode cX11_isWord 0 = .ok (.aload_n 0, 1) := by decide +kernel
theorem dX11_isWord_1 : decode cX11_isWord 1 = .ok (.getfield 95, 3) := by decide +kernel
theorem dX11_isWord_4 : decode cX11_isWord 4 = .ok (.ifCond .ne 22, 3) := by decide +kernel
theorem dX11_isWord_7 : decode cX11_isWord 7 = .ok (.aload_n 0, 1) := by decide +kernel
theorem dX11_isWord_8 : decode cX11_isWord 8 = .ok (.getfield 85, 3) := by decide +kernel
theorem dX11_isWord_11 : decode cX11_isWord 11 = .ok (.iconst 2, 1) := by decide +kernel
theorem dX11_isWord_12 : decode cX11_isWord 12 = .ok (.if_icmp .ne 14, 3) := by decide +kernel
theorem dX11_isWord_15 : decode cX11_isWord 15 = .ok (.aload_n 0, 1) := by decide +kernel
theorem dX11_isWord_16 : decode cX11_isWord 16 = .ok (.getfield 79, 3) := by decide +kernel
theorem dX11_isWord_19 : decode cX11_isWord 19 = .ok (.aload_n 1, 1) := by decide +kernel
theorem dX11_isWord_20 : decode cX11_isWord 20 = .ok (.invokevirtual 102, 3) := by decide +kernel
theorem dX11_isWord_23 : decode cX11_isWord 23 = .ok (.if_icmp .eq 5, 3) := by decide +kernel
theorem dX11_isWord_26 : decode cX11_isWord 26 = .ok (.iconst 0, 1) := by decide +kernel
theorem dX11_isWord_27 : decode cX11_isWord 27 = .ok (.ireturn, 1) := by decide +kernel
theorem dX11_isWord_28 : decode cX11_isWord 28 = .ok (.iconst 1, 1) := by decide +kernel
theorem dX11_isWord_29 : decode cX11_isWord 29 = .ok (.istore_n 2, 1) := by decide +kernel
theorem dX11_isWord_30 : decode cX11_isWord 30 = .ok (.iconst 0, 1) := by decide +kernel
theorem dX11_isWord_31 : decode cX11_isWord 31 = .ok (.istore_n 3, 1) := by decide +kernel
theorem dX11_isWord_32 : decode cX11_isWord 32 = .ok (.iload_n 3, 1) := by decide +kernel
theorem dX11_isWord_33 : decode cX11_isWord 33 = .ok (.aload_n 0, 1) := by decide +kernel
theorem dX11_isWord_34 : decode cX11_isWord 34 = .ok (.getfield 79, 3) := by decide +kernel
theorem dX11_isWord_37 : decode cX11_isWord 37 = .ok (.if_icmp .ge 33, 3) := by decide +kernel
theorem dX11_isWord_40 : decode cX11_isWord 40 = .ok (.iload_n 2, 1) := by decide +kernel
theorem dX11_isWord_41 : decode cX11_isWord 41 = .ok (.ifCond .eq 21, 3) := by decide +kernel
theorem dX11_isWord_44 : decode cX11_isWord 44 = .ok (.aload_n 0, 1) := by decide +kernel
theorem dX11_isWord_45 : decode cX11_isWord 45 = .ok (.getfield 17, 3) := by decide +kernel
theorem dX11_isWord_48 : decode cX11_isWord 48 = .ok (.iload_n 3, 1) := by decide +kernel
theorem dX11_isWord_49 : decode cX11_isWord 49 = .ok (.iaload, 1) := by decide +kernel
theorem dX11_isWord_50 : decode cX11_isWord 50 = .ok (.aload_n 1, 1) := by decide +kernel
theorem dX11_isWord_51 : decode cX11_isWord 51 = .ok (.iload_n 3, 1) := by decide +kernel
theorem dX11_isWord_52 : decode cX11_isWord 52 = .ok (.invokevirtual 108, 3) := by decide +kernel
theorem dX11_isWord_55 : decode cX11_isWord 55 = .ok (.if_icmp .ne 7, 3) := by decide +kernel
theorem dX11_isWord_58 : decode cX11_isWord 58 = .ok (.iconst 1, 1) := by decide +kernel
theorem dX11_isWord_59 : decode cX11_isWord 59 = .ok (.goto 4, 3) := by decide +kernel
theorem dX11_isWord_62 : decode cX11_isWord 62 = .ok (.iconst 0, 1) := by decide +kernel
theorem dX11_isWord_63 : decode cX11_isWord 63 = .ok (.istore_n 2, 1) := by decide +kernel
theorem dX11_isWord_64 : decode cX11_isWord 64 = .ok (.iinc 3 1, 3) := by decide +kernel
theorem dX11_isWord_67 : decode cX11_isWord 67 = .ok (.goto (-35), 3) := by decide +kernel
theorem dX11_isWord_70 : decode cX11_isWord 70 = .ok (.iload_n 2, 1) := by decide +kernel
theorem dX11_isWord_71 : decode cX11_isWord 71 = .ok (.ireturn, 1) := by decide +kernel
theorem dX11_takesWord_0 : decode cX11_takesWord 0 = .ok (.aload_n 0, 1) := by decide +kernel
theorem dX11_takesWord_1 : decode cX11_takesWord 1 = .ok (.aload_n 1, 1) := by decide +kernel
theorem dX11_takesWord_2 : decode cX11_takesWord 2 = .ok (.invokevirtual 112, 3) := by decide +kernel
theorem dX11_takesWord_5 : decode cX11_takesWord 5 = .ok (.ifCond .ne 5, 3) := by decide +kernel
theorem dX11_takesWord_8 : decode cX11_takesWord 8 = .ok (.iconst 0, 1) := by decide +kernel
theorem dX11_takesWord_9 : decode cX11_takesWord 9 = .ok (.ireturn, 1) := by decide +kernel
theorem dX11_takesWord_10 : decode cX11_takesWord 10 = .ok (.aload_n 0, 1) := by decide +kernel
theorem dX11_takesWord_11 : decode cX11_takesWord 11 = .ok (.invokevirtual 116, 3) := by decide +kernel
theorem dX11_takesWord_14 : decode cX11_takesWord 14 = .ok (.iconst 1, 1) := by decide +kernel
theorem dX11_takesWord_15 : decode cX11_takesWord 15 = .ok (.ireturn, 1) := by decide +kernel
theorem dX11_must_0 : decode cX11_must 0 = .ok (.aload_n 0, 1) := by decide +kernel
theorem dX11_must_1 : decode cX11_must 1 = .ok (.getfield 95, 3) := by decide +kernel
theorem dX11_must_4 : decode cX11_must 4 = .ok (.ifCond .ne 20, 3) := by decide +kernel
theorem dX11_must_7 : decode cX11_must 7 = .ok (.aload_n 0, 1) := by decide +kernel
theorem dX11_must_8 : decode cX11_must 8 = .ok (.aload_n 1, 1) := by decide +kernel
theorem dX11_must_9 : decode cX11_must 9 = .ok (.invokevirtual 119, 3) := by decide +kernel
theorem dX11_must_12 : decode cX11_must 12 = .ok (.ifCond .ne 12, 3) := by decide +kernel
theorem dX11_must_15 : decode cX11_must 15 = .ok (.aload_n 0, 1) := by decide +kernel
theorem dX11_must_16 : decode cX11_must 16 = .ok (.iconst 1, 1) := by decide +kernel
theorem dX11_must_17 : decode cX11_must 17 = .ok (.aload_n 0, 1) := by decide +kernel
theorem dX11_must_18 : decode cX11_must 18 = .ok (.getfield 76, 3) := by decide +kernel
theorem dX11_must_21 : decode cX11_must 21 = .ok (.invokevirtual 122, 3) := by decide +kernel
theorem dX11_must_24 : decode cX11_must 24 = .ok (.return_, 1) := by decide +kernel
theorem dX11_mustName_0 : decode cX11_mustName 0 = .ok (.aload_n 0, 1) := by decide +kernel
theorem dX11_mustName_1 : decode cX11_mustName 1 = .ok (.getfield 85, 3) := by decide +kernel
theorem dX11_mustName_4 : decode cX11_mustName 4 = .ok (.iconst 2, 1) := by decide +kernel
theorem dX11_mustName_5 : decode cX11_mustName 5 = .ok (.if_icmp .ne 48, 3) := by decide +kernel
theorem dX11_mustName_8 : decode cX11_mustName 8 = .ok (.aload_n 0, 1) := by decide +kernel
theorem dX11_mustName_9 : decode cX11_mustName 9 = .ok (.getfield 79, 3) := by decide +kernel
theorem dX11_mustName_12 : decode cX11_mustName 12 = .ok (.bipush 8, 2) := by decide +kernel
theorem dX11_mustName_14 : decode cX11_mustName 14 = .ok (.if_icmp .gt 39, 3) := by decide +kernel
theorem dX11_mustName_17 : decode cX11_mustName 17 = .ok (.aload_n 0, 1) := by decide +kernel
theorem dX11_mustName_18 : decode cX11_mustName 18 = .ok (.ldc 126, 2) := by decide +kernel
theorem dX11_mustName_20 : decode cX11_mustName 20 = .ok (.invokevirtual 112, 3) := by decide +kernel
theorem dX11_mustName_23 : decode cX11_mustName 23 = .ok (.ifCond .ne 30, 3) := by decide +kernel
theorem dX11_mustName_26 : decode cX11_mustName 26 = .ok (.aload_n 0, 1) := by decide +kernel
theorem dX11_mustName_27 : decode cX11_mustName 27 = .ok (.ldc 128, 2) := by decide +kernel
theorem dX11_mustName_29 : decode cX11_mustName 29 = .ok (.invokevirtual 112, 3) := by decide +kernel
theorem dX11_mustName_32 : decode cX11_mustName 32 = .ok (.ifCond .ne 21, 3) := by decide +kernel
theorem dX11_mustName_35 : decode cX11_mustName 35 = .ok (.aload_n 0, 1) := by decide +kernel
theorem dX11_mustName_36 : decode cX11_mustName 36 = .ok (.ldc 130, 2) := by decide +kernel
theorem dX11_mustName_38 : decode cX11_mustName 38 = .ok (.invokevirtual 112, 3) := by decide +kernel
theorem dX11_mustName_41 : decode cX11_mustName 41 = .ok (.ifCond .ne 12, 3) := by decide +kernel
theorem dX11_mustName_44 : decode cX11_mustName 44 = .ok (.aload_n 0, 1) := by decide +kernel
theorem dX11_mustName_45 : decode cX11_mustName 45 = .ok (.ldc 132, 2) := by decide +kernel
theorem dX11_mustName_47 : decode cX11_mustName 47 = .ok (.invokevirtual 112, 3) := by decide +kernel
theorem dX11_mustName_50 : decode cX11_mustName 50 = .ok (.ifCond .eq 12, 3) := by decide +kernel
theorem dX11_mustName_53 : decode cX11_mustName 53 = .ok (.aload_n 0, 1) := by decide +kernel
theorem dX11_mustName_54 : decode cX11_mustName 54 = .ok (.iconst 1, 1) := by decide +kernel
theorem dX11_mustName_55 : decode cX11_mustName 55 = .ok (.aload_n 0, 1) := by decide +kernel
theorem dX11_mustName_56 : decode cX11_mustName 56 = .ok (.getfield 76, 3) := by decide +kernel
theorem dX11_mustName_59 : decode cX11_mustName 59 = .ok (.invokevirtual 122, 3) := by decide +kernel
theorem dX11_mustName_62 : decode cX11_mustName 62 = .ok (.return_, 1) := by decide +kernel
theorem dX11_find_0 : decode cX11_find 0 = .ok (.iconst 0, 1) := by decide +kernel
theorem dX11_find_1 : decode cX11_find 1 = .ok (.istore_n 1, 1) := by decide +kernel
theorem dX11_find_2 : decode cX11_find 2 = .ok (.iload_n 1, 1) := by decide +kernel
theorem dX11_find_3 : decode cX11_find 3 = .ok (.iconst 5, 1) := by decide +kernel
theorem dX11_find_4 : decode cX11_find 4 = .ok (.if_icmp .ge 98, 3) := by decide +kernel
theorem dX11_find_7 : decode cX11_find 7 = .ok (.aload_n 0, 1) := by decide +kernel
theorem dX11_find_8 : decode cX11_find 8 = .ok (.getfield 23, 3) := by decide +kernel
theorem dX11_find_11 : decode cX11_find 11 = .ok (.bipush 101, 2) := by decide +kernel
theorem dX11_find_13 : decode cX11_find 13 = .ok (.iload_n 1, 1) := by decide +kernel
theorem dX11_find_14 : decode cX11_find 14 = .ok (.iadd, 1) := by decide +kernel
theorem dX11_find_15 : decode cX11_find 15 = .ok (.iaload, 1) := by decide +kernel
theorem dX11_find_16 : decode cX11_find 16 = .ok (.ifCond .le 23, 3) := by decide +kernel
theorem dX11_find_19 : decode cX11_find 19 = .ok (.aload_n 0, 1) := by decide +kernel
theorem dX11_find_20 : decode cX11_find 20 = .ok (.getfield 23, 3) := by decide +kernel
theorem dX11_find_23 : decode cX11_find 23 = .ok (.bipush 101, 2) := by decide +kernel
theorem dX11_find_25 : decode cX11_find 25 = .ok (.iload_n 1, 1) := by decide +kernel
theorem dX11_find_26 : decode cX11_find 26 = .ok (.iadd, 1) := by decide +kernel
theorem dX11_find_27 : decode cX11_find 27 = .ok (.iaload, 1) := by decide +kernel
theorem dX11_find_28 : decode cX11_find 28 = .ok (.aload_n 0, 1) := by decide +kernel
theorem dX11_find_29 : decode cX11_find 29 = .ok (.getfield 79, 3) := by decide +kernel
theorem dX11_find_32 : decode cX11_find 32 = .ok (.if_icmp .ne 7, 3) := by decide +kernel
theorem dX11_find_35 : decode cX11_find 35 = .ok (.iconst 1, 1) := by decide +kernel
theorem dX11_find_36 : decode cX11_find 36 = .ok (.goto 4, 3) := by decide +kernel
theorem dX11_find_39 : decode cX11_find 39 = .ok (.iconst 0, 1) := by decide +kernel
theorem dX11_find_40 : decode cX11_find 40 = .ok (.istore_n 2, 1) := by decide +kernel
theorem dX11_find_41 : decode cX11_find 41 = .ok (.iconst 0, 1) := by decide +kernel
theorem dX11_find_42 : decode cX11_find 42 = .ok (.istore_n 3, 1) := by decide +kernel
theorem dX11_find_43 : decode cX11_find 43 = .ok (.iload_n 3, 1) := by decide +kernel
theorem dX11_find_44 : decode cX11_find 44 = .ok (.aload_n 0, 1) := by decide +kernel
theorem dX11_find_45 : decode cX11_find 45 = .ok (.getfield 79, 3) := by decide +kernel
theorem dX11_find_48 : decode cX11_find 48 = .ok (.if_icmp .ge 42, 3) := by decide +kernel
theorem dX11_find_51 : decode cX11_find 51 = .ok (.iload_n 2, 1) := by decide +kernel
theorem dX11_find_52 : decode cX11_find 52 = .ok (.ifCond .eq 38, 3) := by decide +kernel
theorem dX11_find_55 : decode cX11_find 55 = .ok (.aload_n 0, 1) := by decide +kernel
theorem dX11_find_56 : decode cX11_find 56 = .ok (.getfield 23, 3) := by decide +kernel
theorem dX11_find_59 : decode cX11_find 59 = .ok (.bipush 106, 2) := by decide +kernel
theorem dX11_find_61 : decode cX11_find 61 = .ok (.bipush 8, 2) := by decide +kernel
theorem dX11_find_63 : decode cX11_find 63 = .ok (.iload_n 1, 1) := by decide +kernel
theorem dX11_find_64 : decode cX11_find 64 = .ok (.imul, 1) := by decide +kernel
theorem dX11_find_65 : decode cX11_find 65 = .ok (.iadd, 1) := by decide +kernel
theorem dX11_find_66 : decode cX11_find 66 = .ok (.iload_n 3, 1) := by decide +kernel
theorem dX11_find_67 : decode cX11_find 67 = .ok (.iadd, 1) := by decide +kernel
theorem dX11_find_68 : decode cX11_find 68 = .ok (.iaload, 1) := by decide +kernel
theorem dX11_find_69 : decode cX11_find 69 = .ok (.aload_n 0, 1) := by decide +kernel
theorem dX11_find_70 : decode cX11_find 70 = .ok (.getfield 17, 3) := by decide +kernel
theorem dX11_find_73 : decode cX11_find 73 = .ok (.iload_n 3, 1) := by decide +kernel
theorem dX11_find_74 : decode cX11_find 74 = .ok (.iaload, 1) := by decide +kernel
theorem dX11_find_75 : decode cX11_find 75 = .ok (.if_icmp .ne 7, 3) := by decide +kernel
theorem dX11_find_78 : decode cX11_find 78 = .ok (.iconst 1, 1) := by decide +kernel
theorem dX11_find_79 : decode cX11_find 79 = .ok (.goto 4, 3) := by decide +kernel
theorem dX11_find_82 : decode cX11_find 82 = .ok (.iconst 0, 1) := by decide +kernel
theorem dX11_find_83 : decode cX11_find 83 = .ok (.istore_n 2, 1) := by decide +kernel
theorem dX11_find_84 : decode cX11_find 84 = .ok (.iinc 3 1, 3) := by decide +kernel
theorem dX11_find_87 : decode cX11_find 87 = .ok (.goto (-44), 3) := by decide +kernel
theorem dX11_find_90 : decode cX11_find 90 = .ok (.iload_n 2, 1) := by decide +kernel
theorem dX11_find_91 : decode cX11_find 91 = .ok (.ifCond .eq 5, 3) := by decide +kernel
theorem dX11_find_94 : decode cX11_find 94 = .ok (.iload_n 1, 1) := by decide +kernel
theorem dX11_find_95 : decode cX11_find 95 = .ok (.ireturn, 1) := by decide +kernel
theorem dX11_find_96 : decode cX11_find 96 = .ok (.iinc 1 1, 3) := by decide +kernel
theorem dX11_find_99 : decode cX11_find 99 = .ok (.goto (-97), 3) := by decide +kernel
theorem dX11_find_102 : decode cX11_find 102 = .ok (.iconst (-1), 1) := by decide +kernel
theorem dX11_find_103 : decode cX11_find 103 = .ok (.ireturn, 1) := by decide +kernel
theorem dX11_newName_0 : decode cX11_newName 0 = .ok (.aload_n 0, 1) := by decide +kernel
theorem dX11_newName_1 : decode cX11_newName 1 = .ok (.getfield 95, 3) := by decide +kernel
theorem dX11_newName_4 : decode cX11_newName 4 = .ok (.ifCond .eq 4, 3) := by decide +kernel
theorem dX11_newName_7 : decode cX11_newName 7 = .ok (.return_, 1) := by decide +kernel
theorem dX11_newName_8 : decode cX11_newName 8 = .ok (.aload_n 0, 1) := by decide +kernel
theorem dX11_newName_9 : decode cX11_newName 9 = .ok (.invokevirtual 134, 3) := by decide +kernel
theorem dX11_newName_12 : decode cX11_newName 12 = .ok (.aload_n 0, 1) := by decide +kernel
theorem dX11_newName_13 : decode cX11_newName 13 = .ok (.getfield 95, 3) := by decide +kernel
theorem dX11_newName_16 : decode cX11_newName 16 = .ok (.ifCond .ne 19, 3) := by decide +kernel
theorem dX11_newName_19 : decode cX11_newName 19 = .ok (.aload_n 0, 1) := by decide +kernel
theorem dX11_newName_20 : decode cX11_newName 20 = .ok (.invokevirtual 137, 3) := by decide +kernel
theorem dX11_newName_23 : decode cX11_newName 23 = .ok (.ifCond .lt 12, 3) := by decide +kernel
theorem dX11_newName_26 : decode cX11_newName 26 = .ok (.aload_n 0, 1) := by decide +kernel
theorem dX11_newName_27 : decode cX11_newName 27 = .ok (.iconst 3, 1) := by decide +kernel
theorem dX11_newName_28 : decode cX11_newName 28 = .ok (.aload_n 0, 1) := by decide +kernel
theorem dX11_newName_29 : decode cX11_newName 29 = .ok (.getfield 76, 3) := by decide +kernel
theorem dX11_newName_32 : decode cX11_newName 32 = .ok (.invokevirtual 122, 3) := by decide +kernel
theorem dX11_newName_35 : decode cX11_newName 35 = .ok (.aload_n 0, 1) := by decide +kernel
theorem dX11_newName_36 : decode cX11_newName 36 = .ok (.getfield 95, 3) := by decide +kernel
theorem dX11_newName_39 : decode cX11_newName 39 = .ok (.ifCond .eq 4, 3) := by decide +kernel
theorem dX11_newName_42 : decode cX11_newName 42 = .ok (.return_, 1) := by decide +kernel
theorem dX11_newName_43 : decode cX11_newName 43 = .ok (.iconst 0, 1) := by decide +kernel
theorem dX11_newName_44 : decode cX11_newName 44 = .ok (.istore_n 2, 1) := by decide +kernel
theorem dX11_newName_45 : decode cX11_newName 45 = .ok (.iload_n 2, 1) := by decide +kernel
theorem dX11_newName_46 : decode cX11_newName 46 = .ok (.aload_n 0, 1) := by decide +kernel
theorem dX11_newName_47 : decode cX11_newName 47 = .ok (.getfield 79, 3) := by decide +kernel
theorem dX11_newName_50 : decode cX11_newName 50 = .ok (.if_icmp .ge 29, 3) := by decide +kernel
theorem dX11_newName_53 : decode cX11_newName 53 = .ok (.aload_n 0, 1) := by decide +kernel
theorem dX11_newName_54 : decode cX11_newName 54 = .ok (.getfield 23, 3) := by decide +kernel
theorem dX11_newName_57 : decode cX11_newName 57 = .ok (.bipush 106, 2) := by decide +kernel
theorem dX11_newName_59 : decode cX11_newName 59 = .ok (.bipush 8, 2) := by decide +kernel
theorem dX11_newName_61 : decode cX11_newName 61 = .ok (.iload_n 1, 1) := by decide +kernel
theorem dX11_newName_62 : decode cX11_newName 62 = .ok (.imul, 1) := by decide +kernel
theorem dX11_newName_63 : decode cX11_newName 63 = .ok (.iadd, 1) := by decide +kernel
theorem dX11_newName_64 : decode cX11_newName 64 = .ok (.iload_n 2, 1) := by decide +kernel
theorem dX11_newName_65 : decode cX11_newName 65 = .ok (.iadd, 1) := by decide +kernel
theorem dX11_newName_66 : decode cX11_newName 66 = .ok (.aload_n 0, 1) := by decide +kernel
theorem dX11_newName_67 : decode cX11_newName 67 = .ok (.getfield 17, 3) := by decide +kernel
theorem dX11_newName_70 : decode cX11_newName 70 = .ok (.iload_n 2, 1) := by decide +kernel
theorem dX11_newName_71 : decode cX11_newName 71 = .ok (.iaload, 1) := by decide +kernel
theorem dX11_newName_72 : decode cX11_newName 72 = .ok (.iastore, 1) := by decide +kernel
theorem dX11_newName_73 : decode cX11_newName 73 = .ok (.iinc 2 1, 3) := by decide +kernel
theorem dX11_newName_76 : decode cX11_newName 76 = .ok (.goto (-31), 3) := by decide +kernel
theorem dX11_newName_79 : decode cX11_newName 79 = .ok (.aload_n 0, 1) := by decide +kernel
theorem dX11_newName_80 : decode cX11_newName 80 = .ok (.getfield 23, 3) := by decide +kernel
theorem dX11_newName_83 : decode cX11_newName 83 = .ok (.bipush 101, 2) := by decide +kernel
theorem dX11_newName_85 : decode cX11_newName 85 = .ok (.iload_n 1, 1) := by decide +kernel
theorem dX11_newName_86 : decode cX11_newName 86 = .ok (.iadd, 1) := by decide +kernel
theorem dX11_newName_87 : decode cX11_newName 87 = .ok (.aload_n 0, 1) := by decide +kernel
theorem dX11_newName_88 : decode cX11_newName 88 = .ok (.getfield 79, 3) := by decide +kernel
theorem dX11_newName_91 : decode cX11_newName 91 = .ok (.iastore, 1) := by decide +kernel
theorem dX11_newName_92 : decode cX11_newName 92 = .ok (.aload_n 0, 1) := by decide +kernel
theorem dX11_newName_93 : decode cX11_newName 93 = .ok (.invokevirtual 116, 3) := by decide +kernel
theorem dX11_newName_96 : decode cX11_newName 96 = .ok (.return_, 1) := by decide +kernel
theorem dX11_pass_0 : decode cX11_pass 0 = .ok (.aload_n 0, 1) := by decide +kernel
theorem dX11_pass_1 : decode cX11_pass 1 = .ok (.getfield 95, 3) := by decide +kernel
theorem dX11_pass_4 : decode cX11_pass 4 = .ok (.ifCond .ne 7, 3) := by decide +kernel
theorem dX11_pass_7 : decode cX11_pass 7 = .ok (.aload_n 0, 1) := by decide +kernel
theorem dX11_pass_8 : decode cX11_pass 8 = .ok (.invokevirtual 116, 3) := by decide +kernel
theorem dX11_pass_11 : decode cX11_pass 11 = .ok (.return_, 1) := by decide +kernel
theorem dX11_dancePassed_0 : decode cX11_dancePassed 0 = .ok (.aload_n 0, 1) := by decide +kernel
theorem dX11_dancePassed_1 : decode cX11_dancePassed 1 = .ok (.getfield 95, 3) := by decide +kernel
theorem dX11_dancePassed_4 : decode cX11_dancePassed 4 = .ok (.ifCond .eq 5, 3) := by decide +kernel
theorem dX11_dancePassed_7 : decode cX11_dancePassed 7 = .ok (.iconst 0, 1) := by decide +kernel
theorem dX11_dancePassed_8 : decode cX11_dancePassed 8 = .ok (.ireturn, 1) := by decide +kernel
theorem dX11_dancePassed_9 : decode cX11_dancePassed 9 = .ok (.aload_n 0, 1) := by decide +kernel
theorem dX11_dancePassed_10 : decode cX11_dancePassed 10 = .ok (.invokevirtual 134, 3) := by decide +kernel
theorem dX11_dancePassed_13 : decode cX11_dancePassed 13 = .ok (.aload_n 0, 1) := by decide +kernel
theorem dX11_dancePassed_14 : decode cX11_dancePassed 14 = .ok (.getfield 95, 3) := by decide +kernel
theorem dX11_dancePassed_17 : decode cX11_dancePassed 17 = .ok (.ifCond .eq 5, 3) := by decide +kernel
theorem dX11_dancePassed_20 : decode cX11_dancePassed 20 = .ok (.iconst 0, 1) := by decide +kernel
theorem dX11_dancePassed_21 : decode cX11_dancePassed 21 = .ok (.ireturn, 1) := by decide +kernel
theorem dX11_dancePassed_22 : decode cX11_dancePassed 22 = .ok (.aload_n 0, 1) := by decide +kernel
theorem dX11_dancePassed_23 : decode cX11_dancePassed 23 = .ok (.invokevirtual 137, 3) := by decide +kernel
theorem dX11_dancePassed_26 : decode cX11_dancePassed 26 = .ok (.istore_n 1, 1) := by decide +kernel
theorem dX11_dancePassed_27 : decode cX11_dancePassed 27 = .ok (.iload_n 1, 1) := by decide +kernel
theorem dX11_dancePassed_28 : decode cX11_dancePassed 28 = .ok (.ifCond .ge 12, 3) := by decide +kernel
theorem dX11_dancePassed_31 : decode cX11_dancePassed 31 = .ok (.aload_n 0, 1) := by decide +kernel
theorem dX11_dancePassed_32 : decode cX11_dancePassed 32 = .ok (.iconst 2, 1) := by decide +kernel
theorem dX11_dancePassed_33 : decode cX11_dancePassed 33 = .ok (.aload_n 0, 1) := by decide +kernel
theorem dX11_dancePassed_34 : decode cX11_dancePassed 34 = .ok (.getfield 76, 3) := by decide +kernel
theorem dX11_dancePassed_37 : decode cX11_dancePassed 37 = .ok (.invokevirtual 122, 3) := by decide +kernel
theorem dX11_dancePassed_40 : decode cX11_dancePassed 40 = .ok (.aload_n 0, 1) := by decide +kernel
theorem dX11_dancePassed_41 : decode cX11_dancePassed 41 = .ok (.invokevirtual 140, 3) := by decide +kernel
theorem dX11_dancePassed_44 : decode cX11_dancePassed 44 = .ok (.aload_n 0, 1) := by decide +kernel
theorem dX11_dancePassed_45 : decode cX11_dancePassed 45 = .ok (.getfield 95, 3) := by decide +kernel
theorem dX11_dancePassed_48 : decode cX11_dancePassed 48 = .ok (.ifCond .eq 7, 3) := by decide +kernel
theorem dX11_dancePassed_51 : decode cX11_dancePassed 51 = .ok (.iconst 0, 1) := by decide +kernel
theorem dX11_dancePassed_52 : decode cX11_dancePassed 52 = .ok (.goto 4, 3) := by decide +kernel
theorem dX11_dancePassed_55 : decode cX11_dancePassed 55 = .ok (.iload_n 1, 1) := by decide +kernel
theorem dX11_dancePassed_56 : decode cX11_dancePassed 56 = .ok (.ireturn, 1) := by decide +kernel
theorem dX11_numberHere_0 : decode cX11_numberHere 0 = .ok (.aload_n 0, 1) := by decide +kernel
theorem dX11_numberHere_1 : decode cX11_numberHere 1 = .ok (.getfield 95, 3) := by decide +kernel
theorem dX11_numberHere_4 : decode cX11_numberHere 4 = .ok (.ifCond .eq 5, 3) := by decide +kernel
theorem dX11_numberHere_7 : decode cX11_numberHere 7 = .ok (.iload_n 1, 1) := by decide +kernel
theorem dX11_numberHere_8 : decode cX11_numberHere 8 = .ok (.ireturn, 1) := by decide +kernel
theorem dX11_numberHere_9 : decode cX11_numberHere 9 = .ok (.aload_n 0, 1) := by decide +kernel
theorem dX11_numberHere_10 : decode cX11_numberHere 10 = .ok (.getfield 85, 3) := by decide +kernel
theorem dX11_numberHere_13 : decode cX11_numberHere 13 = .ok (.iconst 3, 1) := by decide +kernel
theorem dX11_numberHere_14 : decode cX11_numberHere 14 = .ok (.if_icmp .eq 15, 3) := by decide +kernel
theorem dX11_numberHere_17 : decode cX11_numberHere 17 = .ok (.aload_n 0, 1) := by decide +kernel
theorem dX11_numberHere_18 : decode cX11_numberHere 18 = .ok (.iconst 1, 1) := by decide +kernel
theorem dX11_numberHere_19 : decode cX11_numberHere 19 = .ok (.aload_n 0, 1) := by decide +kernel
theorem dX11_numberHere_20 : decode cX11_numberHere 20 = .ok (.getfield 76, 3) := by decide +kernel
theorem dX11_numberHere_23 : decode cX11_numberHere 23 = .ok (.invokevirtual 122, 3) := by decide +kernel
theorem dX11_numberHere_26 : decode cX11_numberHere 26 = .ok (.goto 24, 3) := by decide +kernel
theorem dX11_numberHere_29 : decode cX11_numberHere 29 = .ok (.aload_n 0, 1) := by decide +kernel
theorem dX11_numberHere_30 : decode cX11_numberHere 30 = .ok (.getfield 82, 3) := by decide +kernel
theorem dX11_numberHere_33 : decode cX11_numberHere 33 = .ok (.iload_n 1, 1) := by decide +kernel
theorem dX11_numberHere_34 : decode cX11_numberHere 34 = .ok (.iload_n 2, 1) := by decide +kernel
theorem dX11_numberHere_35 : decode cX11_numberHere 35 = .ok (.invokestatic 143, 3) := by decide +kernel
theorem dX11_numberHere_38 : decode cX11_numberHere 38 = .ok (.ifCond .ne 12, 3) := by decide +kernel
theorem dX11_numberHere_41 : decode cX11_numberHere 41 = .ok (.aload_n 0, 1) := by decide +kernel
theorem dX11_numberHere_42 : decode cX11_numberHere 42 = .ok (.iconst 4, 1) := by decide +kernel
theorem dX11_numberHere_43 : decode cX11_numberHere 43 = .ok (.aload_n 0, 1) := by decide +kernel
theorem dX11_numberHere_44 : decode cX11_numberHere 44 = .ok (.getfield 76, 3) := by decide +kernel
theorem dX11_numberHere_47 : decode cX11_numberHere 47 = .ok (.invokevirtual 122, 3) := by decide +kernel
theorem dX11_numberHere_50 : decode cX11_numberHere 50 = .ok (.aload_n 0, 1) := by decide +kernel
theorem dX11_numberHere_51 : decode cX11_numberHere 51 = .ok (.getfield 95, 3) := by decide +kernel
theorem dX11_numberHere_54 : decode cX11_numberHere 54 = .ok (.ifCond .eq 7, 3) := by decide +kernel
theorem dX11_numberHere_57 : decode cX11_numberHere 57 = .ok (.iload_n 1, 1) := by decide +kernel
theorem dX11_numberHere_58 : decode cX11_numberHere 58 = .ok (.goto 7, 3) := by decide +kernel
theorem dX11_numberHere_61 : decode cX11_numberHere 61 = .ok (.aload_n 0, 1) := by decide +kernel
theorem dX11_numberHere_62 : decode cX11_numberHere 62 = .ok (.getfield 82, 3) := by decide +kernel
theorem dX11_numberHere_65 : decode cX11_numberHere 65 = .ok (.ireturn, 1) := by decide +kernel
theorem dX11_hall_0 : decode cX11_hall 0 = .ok (.aload_n 0, 1) := by decide +kernel
theorem dX11_hall_1 : decode cX11_hall 1 = .ok (.invokevirtual 147, 3) := by decide +kernel
theorem dX11_hall_4 : decode cX11_hall 4 = .ok (.iload_n 1, 1) := by decide +kernel
theorem dX11_hall_5 : decode cX11_hall 5 = .ok (.iconst 0, 1) := by decide +kernel
theorem dX11_hall_6 : decode cX11_hall 6 = .ok (.aload_n 0, 1) := by decide +kernel
theorem dX11_hall_7 : decode cX11_hall 7 = .ok (.getfield 64, 3) := by decide +kernel
theorem dX11_hall_10 : decode cX11_hall 10 = .ok (.invokestatic 143, 3) := by decide +kernel
theorem dX11_hall_13 : decode cX11_hall 13 = .ok (.ifCond .ne 9, 3) := by decide +kernel
theorem dX11_hall_16 : decode cX11_hall 16 = .ok (.aload_n 0, 1) := by decide +kernel
theorem dX11_hall_17 : decode cX11_hall 17 = .ok (.iconst 2, 1) := by decide +kernel
theorem dX11_hall_18 : decode cX11_hall 18 = .ok (.invokevirtual 150, 3) := by decide +kernel
theorem dX11_hall_21 : decode cX11_hall 21 = .ok (.ireturn, 1) := by decide +kernel
theorem dX11_hall_22 : decode cX11_hall 22 = .ok (.aload_n 0, 1) := by decide +kernel
theorem dX11_hall_23 : decode cX11_hall 23 = .ok (.iconst 0, 1) := by decide +kernel
theorem dX11_hall_24 : decode cX11_hall 24 = .ok (.putfield 64, 3) := by decide +kernel
theorem dX11_hall_27 : decode cX11_hall 27 = .ok (.aload_n 0, 1) := by decide +kernel
theorem dX11_hall_28 : decode cX11_hall 28 = .ok (.iconst 0, 1) := by decide +kernel
theorem dX11_hall_29 : decode cX11_hall 29 = .ok (.putfield 99, 3) := by decide +kernel
theorem dX11_hall_32 : decode cX11_hall 32 = .ok (.aload_n 0, 1) := by decide +kernel
theorem dX11_hall_33 : decode cX11_hall 33 = .ok (.iconst 0, 1) := by decide +kernel
theorem dX11_hall_34 : decode cX11_hall 34 = .ok (.putfield 95, 3) := by decide +kernel
theorem dX11_hall_37 : decode cX11_hall 37 = .ok (.aload_n 0, 1) := by decide +kernel
theorem dX11_hall_38 : decode cX11_hall 38 = .ok (.iconst 0, 1) := by decide +kernel
theorem dX11_hall_39 : decode cX11_hall 39 = .ok (.putfield 153, 3) := by decide +kernel
theorem dX11_hall_42 : decode cX11_hall 42 = .ok (.iconst 0, 1) := by decide +kernel
theorem dX11_hall_43 : decode cX11_hall 43 = .ok (.istore_n 2, 1) := by decide +kernel
theorem dX11_hall_44 : decode cX11_hall 44 = .ok (.iload_n 2, 1) := by decide +kernel
theorem dX11_hall_45 : decode cX11_hall 45 = .ok (.sipush 146, 3) := by decide +kernel
theorem dX11_hall_48 : decode cX11_hall 48 = .ok (.if_icmp .ge 16, 3) := by decide +kernel
theorem dX11_hall_51 : decode cX11_hall 51 = .ok (.aload_n 0, 1) := by decide +kernel
theorem dX11_hall_52 : decode cX11_hall 52 = .ok (.getfield 23, 3) := by decide +kernel
theorem dX11_hall_55 : decode cX11_hall 55 = .ok (.iload_n 2, 1) := by decide +kernel
theorem dX11_hall_56 : decode cX11_hall 56 = .ok (.iconst 0, 1) := by decide +kernel
theorem dX11_hall_57 : decode cX11_hall 57 = .ok (.iastore, 1) := by decide +kernel
theorem dX11_hall_58 : decode cX11_hall 58 = .ok (.iinc 2 1, 3) := by decide +kernel
theorem dX11_hall_61 : decode cX11_hall 61 = .ok (.goto (-17), 3) := by decide +kernel
theorem dX11_hall_64 : decode cX11_hall 64 = .ok (.aload_n 0, 1) := by decide +kernel
theorem dX11_hall_65 : decode cX11_hall 65 = .ok (.iload_n 1, 1) := by decide +kernel
theorem dX11_hall_66 : decode cX11_hall 66 = .ok (.putfield 67, 3) := by decide +kernel
theorem dX11_hall_69 : decode cX11_hall 69 = .ok (.aload_n 0, 1) := by decide +kernel
theorem dX11_hall_70 : decode cX11_hall 70 = .ok (.iconst 0, 1) := by decide +kernel
theorem dX11_hall_71 : decode cX11_hall 71 = .ok (.putfield 70, 3) := by decide +kernel
theorem dX11_hall_74 : decode cX11_hall 74 = .ok (.aload_n 0, 1) := by decide +kernel
theorem dX11_hall_75 : decode cX11_hall 75 = .ok (.invokevirtual 116, 3) := by decide +kernel
theorem dX11_hall_78 : decode cX11_hall 78 = .ok (.aload_n 0, 1) := by decide +kernel
theorem dX11_hall_79 : decode cX11_hall 79 = .ok (.invokevirtual 156, 3) := by decide +kernel
theorem dX11_hall_82 : decode cX11_hall 82 = .ok (.aload_n 0, 1) := by decide +kernel
theorem dX11_hall_83 : decode cX11_hall 83 = .ok (.getfield 95, 3) := by decide +kernel
theorem dX11_hall_86 : decode cX11_hall 86 = .ok (.ifCond .ne 23, 3) := by decide +kernel
theorem dX11_hall_89 : decode cX11_hall 89 = .ok (.aload_n 0, 1) := by decide +kernel
theorem dX11_hall_90 : decode cX11_hall 90 = .ok (.getfield 85, 3) := by decide +kernel
theorem dX11_hall_93 : decode cX11_hall 93 = .ok (.bipush 59, 2) := by decide +kernel
theorem dX11_hall_95 : decode cX11_hall 95 = .ok (.if_icmp .ne 14, 3) := by decide +kernel
theorem dX11_hall_98 : decode cX11_hall 98 = .ok (.aload_n 0, 1) := by decide +kernel
theorem dX11_hall_99 : decode cX11_hall 99 = .ok (.invokevirtual 116, 3) := by decide +kernel
theorem dX11_hall_102 : decode cX11_hall 102 = .ok (.aload_n 0, 1) := by decide +kernel
theorem dX11_hall_103 : decode cX11_hall 103 = .ok (.invokevirtual 156, 3) := by decide +kernel
theorem dX11_hall_106 : decode cX11_hall 106 = .ok (.goto (-24), 3) := by decide +kernel
theorem dX11_hall_109 : decode cX11_hall 109 = .ok (.aload_n 0, 1) := by decide +kernel
theorem dX11_hall_110 : decode cX11_hall 110 = .ok (.getfield 95, 3) := by decide +kernel
theorem dX11_hall_113 : decode cX11_hall 113 = .ok (.ifCond .ne 19, 3) := by decide +kernel
theorem dX11_hall_116 : decode cX11_hall 116 = .ok (.aload_n 0, 1) := by decide +kernel
theorem dX11_hall_117 : decode cX11_hall 117 = .ok (.getfield 85, 3) := by decide +kernel
theorem dX11_hall_120 : decode cX11_hall 120 = .ok (.ifCond .eq 12, 3) := by decide +kernel
theorem dX11_hall_123 : decode cX11_hall 123 = .ok (.aload_n 0, 1) := by decide +kernel
theorem dX11_hall_124 : decode cX11_hall 124 = .ok (.iconst 1, 1) := by decide +kernel
theorem dX11_hall_125 : decode cX11_hall 125 = .ok (.aload_n 0, 1) := by decide +kernel
theorem dX11_hall_126 : decode cX11_hall 126 = .ok (.getfield 76, 3) := by decide +kernel
theorem dX11_hall_129 : decode cX11_hall 129 = .ok (.invokevirtual 122, 3) := by decide +kernel
theorem dX11_hall_132 : decode cX11_hall 132 = .ok (.aload_n 0, 1) := by decide +kernel
theorem dX11_hall_133 : decode cX11_hall 133 = .ok (.getfield 95, 3) := by decide +kernel
theorem dX11_hall_136 : decode cX11_hall 136 = .ok (.ifCond .ne 29, 3) := by decide +kernel
theorem dX11_hall_139 : decode cX11_hall 139 = .ok (.aload_n 0, 1) := by decide +kernel
theorem dX11_hall_140 : decode cX11_hall 140 = .ok (.getfield 153, 3) := by decide +kernel
theorem dX11_hall_143 : decode cX11_hall 143 = .ok (.ifCond .eq 12, 3) := by decide +kernel
theorem dX11_hall_146 : decode cX11_hall 146 = .ok (.aload_n 0, 1) := by decide +kernel
theorem dX11_hall_147 : decode cX11_hall 147 = .ok (.getfield 23, 3) := by decide +kernel
theorem dX11_hall_150 : decode cX11_hall 150 = .ok (.iconst 1, 1) := by decide +kernel
theorem dX11_hall_151 : decode cX11_hall 151 = .ok (.iaload, 1) := by decide +kernel
theorem dX11_hall_152 : decode cX11_hall 152 = .ok (.ifCond .ne 13, 3) := by decide +kernel
theorem dX11_hall_155 : decode cX11_hall 155 = .ok (.aload_n 0, 1) := by decide +kernel
theorem dX11_hall_156 : decode cX11_hall 156 = .ok (.bipush 6, 2) := by decide +kernel
theorem dX11_hall_158 : decode cX11_hall 158 = .ok (.aload_n 0, 1) := by decide +kernel
theorem dX11_hall_159 : decode cX11_hall 159 = .ok (.getfield 76, 3) := by decide +kernel
theorem dX11_hall_162 : decode cX11_hall 162 = .ok (.invokevirtual 122, 3) := by decide +kernel
theorem dX11_hall_165 : decode cX11_hall 165 = .ok (.aload_n 0, 1) := by decide +kernel
theorem dX11_hall_166 : decode cX11_hall 166 = .ok (.getfield 95, 3) := by decide +kernel
theorem dX11_hall_169 : decode cX11_hall 169 = .ok (.ifCond .eq 9, 3) := by decide +kernel
theorem dX11_hall_172 : decode cX11_hall 172 = .ok (.aload_n 0, 1) := by decide +kernel
theorem dX11_hall_173 : decode cX11_hall 173 = .ok (.iconst 4, 1) := by decide +kernel
theorem dX11_hall_174 : decode cX11_hall 174 = .ok (.invokevirtual 150, 3) := by decide +kernel
theorem dX11_hall_177 : decode cX11_hall 177 = .ok (.ireturn, 1) := by decide +kernel
theorem dX11_hall_178 : decode cX11_hall 178 = .ok (.aload_n 0, 1) := by decide +kernel
theorem dX11_hall_179 : decode cX11_hall 179 = .ok (.getfield 23, 3) := by decide +kernel
theorem dX11_hall_182 : decode cX11_hall 182 = .ok (.iconst 0, 1) := by decide +kernel
theorem dX11_hall_183 : decode cX11_hall 183 = .ok (.aload_n 0, 1) := by decide +kernel
theorem dX11_hall_184 : decode cX11_hall 184 = .ok (.getfield 20, 3) := by decide +kernel
theorem dX11_hall_187 : decode cX11_hall 187 = .ok (.iconst 0, 1) := by decide +kernel
theorem dX11_hall_188 : decode cX11_hall 188 = .ok (.sipush 146, 3) := by decide +kernel
theorem dX11_hall_191 : decode cX11_hall 191 = .ok (.invokestatic 159, 3) := by decide +kernel
theorem dX11_hall_194 : decode cX11_hall 194 = .ok (.aload_n 0, 1) := by decide +kernel
theorem dX11_hall_195 : decode cX11_hall 195 = .ok (.iconst 1, 1) := by decide +kernel
theorem dX11_hall_196 : decode cX11_hall 196 = .ok (.putfield 163, 3) := by decide +kernel
theorem dX11_hall_199 : decode cX11_hall 199 = .ok (.iconst 0, 1) := by decide +kernel
theorem dX11_hall_200 : decode cX11_hall 200 = .ok (.istore_n 2, 1) := by decide +kernel
theorem dX11_hall_201 : decode cX11_hall 201 = .ok (.iload_n 2, 1) := by decide +kernel
theorem dX11_hall_202 : decode cX11_hall 202 = .ok (.aload_n 0, 1) := by decide +kernel
theorem dX11_hall_203 : decode cX11_hall 203 = .ok (.getfield 20, 3) := by decide +kernel
theorem dX11_hall_206 : decode cX11_hall 206 = .ok (.iconst 1, 1) := by decide +kernel
theorem dX11_hall_207 : decode cX11_hall 207 = .ok (.iaload, 1) := by decide +kernel
theorem dX11_hall_208 : decode cX11_hall 208 = .ok (.if_icmp .ge 46, 3) := by decide +kernel
theorem dX11_hall_211 : decode cX11_hall 211 = .ok (.aload_n 0, 1) := by decide +kernel
theorem dX11_hall_212 : decode cX11_hall 212 = .ok (.iload_n 2, 1) := by decide +kernel
theorem dX11_hall_213 : decode cX11_hall 213 = .ok (.aload_n 0, 1) := by decide +kernel
theorem dX11_hall_214 : decode cX11_hall 214 = .ok (.getfield 20, 3) := by decide +kernel
theorem dX11_hall_217 : decode cX11_hall 217 = .ok (.iconst 4, 1) := by decide +kernel
theorem dX11_hall_218 : decode cX11_hall 218 = .ok (.iload_n 2, 1) := by decide +kernel
theorem dX11_hall_219 : decode cX11_hall 219 = .ok (.iadd, 1) := by decide +kernel
theorem dX11_hall_220 : decode cX11_hall 220 = .ok (.iaload, 1) := by decide +kernel
theorem dX11_hall_221 : decode cX11_hall 221 = .ok (.iconst 0, 1) := by decide +kernel
theorem dX11_hall_222 : decode cX11_hall 222 = .ok (.iconst 0, 1) := by decide +kernel
theorem dX11_hall_223 : decode cX11_hall 223 = .ok (.invokevirtual 166, 3) := by decide +kernel
theorem dX11_hall_226 : decode cX11_hall 226 = .ok (.aload_n 0, 1) := by decide +kernel
theorem dX11_hall_227 : decode cX11_hall 227 = .ok (.getfield 26, 3) := by decide +kernel
theorem dX11_hall_230 : decode cX11_hall 230 = .ok (.iload_n 2, 1) := by decide +kernel
theorem dX11_hall_231 : decode cX11_hall 231 = .ok (.aload_n 0, 1) := by decide +kernel
theorem dX11_hall_232 : decode cX11_hall 232 = .ok (.getfield 169, 3) := by decide +kernel
theorem dX11_hall_235 : decode cX11_hall 235 = .ok (.iastore, 1) := by decide +kernel
theorem dX11_hall_236 : decode cX11_hall 236 = .ok (.aload_n 0, 1) := by decide +kernel
theorem dX11_hall_237 : decode cX11_hall 237 = .ok (.getfield 26, 3) := by decide +kernel
theorem dX11_hall_240 : decode cX11_hall 240 = .ok (.iconst 5, 1) := by decide +kernel
theorem dX11_hall_241 : decode cX11_hall 241 = .ok (.iload_n 2, 1) := by decide +kernel
theorem dX11_hall_242 : decode cX11_hall 242 = .ok (.iadd, 1) := by decide +kernel
theorem dX11_hall_243 : decode cX11_hall 243 = .ok (.aload_n 0, 1) := by decide +kernel
theorem dX11_hall_244 : decode cX11_hall 244 = .ok (.getfield 172, 3) := by decide +kernel
theorem dX11_hall_247 : decode cX11_hall 247 = .ok (.iastore, 1) := by decide +kernel
theorem dX11_hall_248 : decode cX11_hall 248 = .ok (.iinc 2 1, 3) := by decide +kernel
theorem dX11_hall_251 : decode cX11_hall 251 = .ok (.goto (-50), 3) := by decide +kernel
theorem dX11_hall_254 : decode cX11_hall 254 = .ok (.aload_n 0, 1) := by decide +kernel
theorem dX11_hall_255 : decode cX11_hall 255 = .ok (.iconst 0, 1) := by decide +kernel
theorem dX11_hall_256 : decode cX11_hall 256 = .ok (.putfield 175, 3) := by decide +kernel
theorem dX11_hall_259 : decode cX11_hall 259 = .ok (.aload_n 0, 1) := by decide +kernel
theorem dX11_hall_260 : decode cX11_hall 260 = .ok (.iconst 0, 1) := by decide +kernel
theorem dX11_hall_261 : decode cX11_hall 261 = .ok (.putfield 178, 3) := by decide +kernel
theorem dX11_hall_264 : decode cX11_hall 264 = .ok (.aload_n 0, 1) := by decide +kernel
theorem dX11_hall_265 : decode cX11_hall 265 = .ok (.getfield 20, 3) := by decide +kernel
theorem dX11_hall_268 : decode cX11_hall 268 = .ok (.iconst 1, 1) := by decide +kernel
theorem dX11_hall_269 : decode cX11_hall 269 = .ok (.iaload, 1) := by decide +kernel
theorem dX11_hall_270 : decode cX11_hall 270 = .ok (.ireturn, 1) := by decide +kernel
theorem dX11_begins_0 : decode cX11_begins 0 = .ok (.aload_n 0, 1) := by decide +kernel
theorem dX11_begins_1 : decode cX11_begins 1 = .ok (.aload_n 1, 1) := by decide +kernel
theorem dX11_begins_2 : decode cX11_begins 2 = .ok (.invokevirtual 112, 3) := by decide +kernel
theorem dX11_begins_5 : decode cX11_begins 5 = .ok (.ifCond .ne 5, 3) := by decide +kernel
theorem dX11_begins_8 : decode cX11_begins 8 = .ok (.iconst 0, 1) := by decide +kernel
theorem dX11_begins_9 : decode cX11_begins 9 = .ok (.ireturn, 1) := by decide +kernel
theorem dX11_begins_10 : decode cX11_begins 10 = .ok (.iload_n 2, 1) := by decide +kernel
theorem dX11_begins_11 : decode cX11_begins 11 = .ok (.ifCond .ne 12, 3) := by decide +kernel
theorem dX11_begins_14 : decode cX11_begins 14 = .ok (.aload_n 0, 1) := by decide +kernel
theorem dX11_begins_15 : decode cX11_begins 15 = .ok (.iconst 5, 1) := by decide +kernel
theorem dX11_begins_16 : decode cX11_begins 16 = .ok (.aload_n 0, 1) := by decide +kernel
theorem dX11_begins_17 : decode cX11_begins 17 = .ok (.getfield 76, 3) := by decide +kernel
theorem dX11_begins_20 : decode cX11_begins 20 = .ok (.invokevirtual 122, 3) := by decide +kernel
theorem dX11_begins_23 : decode cX11_begins 23 = .ok (.aload_n 0, 1) := by decide +kernel
theorem dX11_begins_24 : decode cX11_begins 24 = .ok (.getfield 153, 3) := by decide +kernel
theorem dX11_begins_27 : decode cX11_begins 27 = .ok (.ifCond .ne 13, 3) := by decide +kernel
theorem dX11_begins_30 : decode cX11_begins 30 = .ok (.aload_n 0, 1) := by decide +kernel
theorem dX11_begins_31 : decode cX11_begins 31 = .ok (.bipush 6, 2) := by decide +kernel
theorem dX11_begins_33 : decode cX11_begins 33 = .ok (.aload_n 0, 1) := by decide +kernel
theorem dX11_begins_34 : decode cX11_begins 34 = .ok (.getfield 76, 3) := by decide +kernel
theorem dX11_begins_37 : decode cX11_begins 37 = .ok (.invokevirtual 122, 3) := by decide +kernel
theorem dX11_begins_40 : decode cX11_begins 40 = .ok (.aload_n 0, 1) := by decide +kernel
theorem dX11_begins_41 : decode cX11_begins 41 = .ok (.invokevirtual 140, 3) := by decide +kernel
theorem dX11_begins_44 : decode cX11_begins 44 = .ok (.iconst 1, 1) := by decide +kernel
theorem dX11_begins_45 : decode cX11_begins 45 = .ok (.ireturn, 1) := by decide +kernel
theorem dX11_readLine_0 : decode cX11_readLine 0 = .ok (.aload_n 0, 1) := by decide +kernel
theorem dX11_readLine_1 : decode cX11_readLine 1 = .ok (.ldc 126, 2) := by decide +kernel
theorem dX11_readLine_3 : decode cX11_readLine 3 = .ok (.invokevirtual 112, 3) := by decide +kernel
theorem dX11_readLine_6 : decode cX11_readLine 6 = .ok (.ifCond .eq 10, 3) := by decide +kernel
theorem dX11_readLine_9 : decode cX11_readLine 9 = .ok (.aload_n 0, 1) := by decide +kernel
theorem dX11_readLine_10 : decode cX11_readLine 10 = .ok (.invokevirtual 181, 3) := by decide +kernel
theorem dX11_readLine_13 : decode cX11_readLine 13 = .ok (.goto 106, 3) := by decide +kernel
theorem dX11_readLine_16 : decode cX11_readLine 16 = .ok (.aload_n 0, 1) := by decide +kernel
theorem dX11_readLine_17 : decode cX11_readLine 17 = .ok (.ldc 128, 2) := by decide +kernel
theorem dX11_readLine_19 : decode cX11_readLine 19 = .ok (.aload_n 0, 1) := by decide +kernel
theorem dX11_readLine_20 : decode cX11_readLine 20 = .ok (.getfield 23, 3) := by decide +kernel
theorem dX11_readLine_23 : decode cX11_readLine 23 = .ok (.iconst 1, 1) := by decide +kernel
theorem dX11_readLine_24 : decode cX11_readLine 24 = .ok (.iaload, 1) := by decide +kernel
theorem dX11_readLine_25 : decode cX11_readLine 25 = .ok (.iconst 5, 1) := by decide +kernel
theorem dX11_readLine_26 : decode cX11_readLine 26 = .ok (.if_icmp .ge 7, 3) := by decide +kernel
theorem dX11_readLine_29 : decode cX11_readLine 29 = .ok (.iconst 1, 1) := by decide +kernel
theorem dX11_readLine_30 : decode cX11_readLine 30 = .ok (.goto 4, 3) := by decide +kernel
theorem dX11_readLine_33 : decode cX11_readLine 33 = .ok (.iconst 0, 1) := by decide +kernel
theorem dX11_readLine_34 : decode cX11_readLine 34 = .ok (.invokevirtual 184, 3) := by decide +kernel
theorem dX11_readLine_37 : decode cX11_readLine 37 = .ok (.ifCond .eq 10, 3) := by decide +kernel
theorem dX11_readLine_40 : decode cX11_readLine 40 = .ok (.aload_n 0, 1) := by decide +kernel
theorem dX11_readLine_41 : decode cX11_readLine 41 = .ok (.invokevirtual 188, 3) := by decide +kernel
theorem dX11_readLine_44 : decode cX11_readLine 44 = .ok (.goto 75, 3) := by decide +kernel
theorem dX11_readLine_47 : decode cX11_readLine 47 = .ok (.aload_n 0, 1) := by decide +kernel
theorem dX11_readLine_48 : decode cX11_readLine 48 = .ok (.ldc 130, 2) := by decide +kernel
theorem dX11_readLine_50 : decode cX11_readLine 50 = .ok (.aload_n 0, 1) := by decide +kernel
theorem dX11_readLine_51 : decode cX11_readLine 51 = .ok (.getfield 23, 3) := by decide +kernel
theorem dX11_readLine_54 : decode cX11_readLine 54 = .ok (.iconst 2, 1) := by decide +kernel
theorem dX11_readLine_55 : decode cX11_readLine 55 = .ok (.iaload, 1) := by decide +kernel
theorem dX11_readLine_56 : decode cX11_readLine 56 = .ok (.iconst 4, 1) := by decide +kernel
theorem dX11_readLine_57 : decode cX11_readLine 57 = .ok (.if_icmp .ge 7, 3) := by decide +kernel
theorem dX11_readLine_60 : decode cX11_readLine 60 = .ok (.iconst 1, 1) := by decide +kernel
theorem dX11_readLine_61 : decode cX11_readLine 61 = .ok (.goto 4, 3) := by decide +kernel
theorem dX11_readLine_64 : decode cX11_readLine 64 = .ok (.iconst 0, 1) := by decide +kernel
theorem dX11_readLine_65 : decode cX11_readLine 65 = .ok (.invokevirtual 184, 3) := by decide +kernel
theorem dX11_readLine_68 : decode cX11_readLine 68 = .ok (.ifCond .eq 10, 3) := by decide +kernel
theorem dX11_readLine_71 : decode cX11_readLine 71 = .ok (.aload_n 0, 1) := by decide +kernel
theorem dX11_readLine_72 : decode cX11_readLine 72 = .ok (.invokevirtual 191, 3) := by decide +kernel
theorem dX11_readLine_75 : decode cX11_readLine 75 = .ok (.goto 44, 3) := by decide +kernel
theorem dX11_readLine_78 : decode cX11_readLine 78 = .ok (.aload_n 0, 1) := by decide +kernel
theorem dX11_readLine_79 : decode cX11_readLine 79 = .ok (.ldc 132, 2) := by decide +kernel
theorem dX11_readLine_81 : decode cX11_readLine 81 = .ok (.aload_n 0, 1) := by decide +kernel
theorem dX11_readLine_82 : decode cX11_readLine 82 = .ok (.getfield 23, 3) := by decide +kernel
theorem dX11_readLine_85 : decode cX11_readLine 85 = .ok (.iconst 3, 1) := by decide +kernel
theorem dX11_readLine_86 : decode cX11_readLine 86 = .ok (.iaload, 1) := by decide +kernel
theorem dX11_readLine_87 : decode cX11_readLine 87 = .ok (.bipush 6, 2) := by decide +kernel
theorem dX11_readLine_89 : decode cX11_readLine 89 = .ok (.if_icmp .ge 7, 3) := by decide +kernel
theorem dX11_readLine_92 : decode cX11_readLine 92 = .ok (.iconst 1, 1) := by decide +kernel
theorem dX11_readLine_93 : decode cX11_readLine 93 = .ok (.goto 4, 3) := by decide +kernel
theorem dX11_readLine_96 : decode cX11_readLine 96 = .ok (.iconst 0, 1) := by decide +kernel
theorem dX11_readLine_97 : decode cX11_readLine 97 = .ok (.invokevirtual 184, 3) := by decide +kernel
theorem dX11_readLine_100 : decode cX11_readLine 100 = .ok (.ifCond .eq 10, 3) := by decide +kernel
theorem dX11_readLine_103 : decode cX11_readLine 103 = .ok (.aload_n 0, 1) := by decide +kernel
theorem dX11_readLine_104 : decode cX11_readLine 104 = .ok (.invokevirtual 194, 3) := by decide +kernel
theorem dX11_readLine_107 : decode cX11_readLine 107 = .ok (.goto 12, 3) := by decide +kernel
theorem dX11_readLine_110 : decode cX11_readLine 110 = .ok (.aload_n 0, 1) := by decide +kernel
theorem dX11_readLine_111 : decode cX11_readLine 111 = .ok (.iconst 1, 1) := by decide +kernel
theorem dX11_readLine_112 : decode cX11_readLine 112 = .ok (.aload_n 0, 1) := by decide +kernel
theorem dX11_readLine_113 : decode cX11_readLine 113 = .ok (.getfield 76, 3) := by decide +kernel
theorem dX11_readLine_116 : decode cX11_readLine 116 = .ok (.invokevirtual 122, 3) := by decide +kernel
theorem dX11_readLine_119 : decode cX11_readLine 119 = .ok (.return_, 1) := by decide +kernel
theorem dX11_hallLine_0 : decode cX11_hallLine 0 = .ok (.aload_n 0, 1) := by decide +kernel
theorem dX11_hallLine_1 : decode cX11_hallLine 1 = .ok (.getfield 153, 3) := by decide +kernel
theorem dX11_hallLine_4 : decode cX11_hallLine 4 = .ok (.ifCond .eq 12, 3) := by decide +kernel
theorem dX11_hallLine_7 : decode cX11_hallLine 7 = .ok (.aload_n 0, 1) := by decide +kernel
theorem dX11_hallLine_8 : decode cX11_hallLine 8 = .ok (.iconst 3, 1) := by decide +kernel
theorem dX11_hallLine_9 : decode cX11_hallLine 9 = .ok (.aload_n 0, 1) := by decide +kernel
theorem dX11_hallLine_10 : decode cX11_hallLine 10 = .ok (.getfield 76, 3) := by decide +kernel
theorem dX11_hallLine_13 : decode cX11_hallLine 13 = .ok (.invokevirtual 122, 3) := by decide +kernel
theorem dX11_hallLine_16 : decode cX11_hallLine 16 = .ok (.aload_n 0, 1) := by decide +kernel
theorem dX11_hallLine_17 : decode cX11_hallLine 17 = .ok (.getfield 95, 3) := by decide +kernel
theorem dX11_hallLine_20 : decode cX11_hallLine 20 = .ok (.ifCond .eq 4, 3) := by decide +kernel
theorem dX11_hallLine_23 : decode cX11_hallLine 23 = .ok (.return_, 1) := by decide +kernel
theorem dX11_hallLine_24 : decode cX11_hallLine 24 = .ok (.aload_n 0, 1) := by decide +kernel
theorem dX11_hallLine_25 : decode cX11_hallLine 25 = .ok (.invokevirtual 116, 3) := by decide +kernel
theorem dX11_hallLine_28 : decode cX11_hallLine 28 = .ok (.aload_n 0, 1) := by decide +kernel
theorem dX11_hallLine_29 : decode cX11_hallLine 29 = .ok (.ldc 197, 2) := by decide +kernel
theorem dX11_hallLine_31 : decode cX11_hallLine 31 = .ok (.invokevirtual 199, 3) := by decide +kernel
theorem dX11_hallLine_34 : decode cX11_hallLine 34 = .ok (.aload_n 0, 1) := by decide +kernel
theorem dX11_hallLine_35 : decode cX11_hallLine 35 = .ok (.getfield 23, 3) := by decide +kernel
theorem dX11_hallLine_38 : decode cX11_hallLine 38 = .ok (.iconst 0, 1) := by decide +kernel
theorem dX11_hallLine_39 : decode cX11_hallLine 39 = .ok (.aload_n 0, 1) := by decide +kernel
theorem dX11_hallLine_40 : decode cX11_hallLine 40 = .ok (.iconst 0, 1) := by decide +kernel
theorem dX11_hallLine_41 : decode cX11_hallLine 41 = .ok (.bipush 100, 2) := by decide +kernel
theorem dX11_hallLine_43 : decode cX11_hallLine 43 = .ok (.invokevirtual 203, 3) := by decide +kernel
theorem dX11_hallLine_46 : decode cX11_hallLine 46 = .ok (.iastore, 1) := by decide +kernel
theorem dX11_hallLine_47 : decode cX11_hallLine 47 = .ok (.aload_n 0, 1) := by decide +kernel
theorem dX11_hallLine_48 : decode cX11_hallLine 48 = .ok (.invokevirtual 140, 3) := by decide +kernel
theorem dX11_hallLine_51 : decode cX11_hallLine 51 = .ok (.aload_n 0, 1) := by decide +kernel
theorem dX11_hallLine_52 : decode cX11_hallLine 52 = .ok (.aload_n 0, 1) := by decide +kernel
theorem dX11_hallLine_53 : decode cX11_hallLine 53 = .ok (.getfield 95, 3) := by decide +kernel
theorem dX11_hallLine_56 : decode cX11_hallLine 56 = .ok (.ifCond .ne 7, 3) := by decide +kernel
theorem dX11_hallLine_59 : decode cX11_hallLine 59 = .ok (.iconst 1, 1) := by decide +kernel
theorem dX11_hallLine_60 : decode cX11_hallLine 60 = .ok (.goto 4, 3) := by decide +kernel
theorem dX11_hallLine_63 : decode cX11_hallLine 63 = .ok (.iconst 0, 1) := by decide +kernel
theorem dX11_hallLine_64 : decode cX11_hallLine 64 = .ok (.putfield 153, 3) := by decide +kernel
theorem dX11_hallLine_67 : decode cX11_hallLine 67 = .ok (.return_, 1) := by decide +kernel
theorem dX11_danceLine_0 : decode cX11_danceLine 0 = .ok (.aload_n 0, 1) := by decide +kernel
theorem dX11_danceLine_1 : decode cX11_danceLine 1 = .ok (.getfield 95, 3) := by decide +kernel
theorem dX11_danceLine_4 : decode cX11_danceLine 4 = .ok (.ifCond .eq 4, 3) := by decide +kernel
theorem dX11_danceLine_7 : decode cX11_danceLine 7 = .ok (.return_, 1) := by decide +kernel
theorem dX11_danceLine_8 : decode cX11_danceLine 8 = .ok (.aload_n 0, 1) := by decide +kernel
theorem dX11_danceLine_9 : decode cX11_danceLine 9 = .ok (.getfield 23, 3) := by decide +kernel
theorem dX11_danceLine_12 : decode cX11_danceLine 12 = .ok (.iconst 1, 1) := by decide +kernel
theorem dX11_danceLine_13 : decode cX11_danceLine 13 = .ok (.iaload, 1) := by decide +kernel
theorem dX11_danceLine_14 : decode cX11_danceLine 14 = .ok (.istore_n 1, 1) := by decide +kernel
theorem dX11_danceLine_15 : decode cX11_danceLine 15 = .ok (.aload_n 0, 1) := by decide +kernel
theorem dX11_danceLine_16 : decode cX11_danceLine 16 = .ok (.iload_n 1, 1) := by decide +kernel
theorem dX11_danceLine_17 : decode cX11_danceLine 17 = .ok (.invokevirtual 207, 3) := by decide +kernel
theorem dX11_danceLine_20 : decode cX11_danceLine 20 = .ok (.aload_n 0, 1) := by decide +kernel
theorem dX11_danceLine_21 : decode cX11_danceLine 21 = .ok (.getfield 95, 3) := by decide +kernel
theorem dX11_danceLine_24 : decode cX11_danceLine 24 = .ok (.ifCond .eq 4, 3) := by decide +kernel
theorem dX11_danceLine_27 : decode cX11_danceLine 27 = .ok (.return_, 1) := by decide +kernel
theorem dX11_danceLine_28 : decode cX11_danceLine 28 = .ok (.aload_n 0, 1) := by decide +kernel
theorem dX11_danceLine_29 : decode cX11_danceLine 29 = .ok (.getfield 85, 3) := by decide +kernel
theorem dX11_danceLine_32 : decode cX11_danceLine 32 = .ok (.iconst 2, 1) := by decide +kernel
theorem dX11_danceLine_33 : decode cX11_danceLine 33 = .ok (.if_icmp .eq 12, 3) := by decide +kernel
theorem dX11_danceLine_36 : decode cX11_danceLine 36 = .ok (.aload_n 0, 1) := by decide +kernel
theorem dX11_danceLine_37 : decode cX11_danceLine 37 = .ok (.iconst 1, 1) := by decide +kernel
theorem dX11_danceLine_38 : decode cX11_danceLine 38 = .ok (.aload_n 0, 1) := by decide +kernel
theorem dX11_danceLine_39 : decode cX11_danceLine 39 = .ok (.getfield 76, 3) := by decide +kernel
theorem dX11_danceLine_42 : decode cX11_danceLine 42 = .ok (.invokevirtual 122, 3) := by decide +kernel
theorem dX11_danceLine_45 : decode cX11_danceLine 45 = .ok (.iconst 0, 1) := by decide +kernel
theorem dX11_danceLine_46 : decode cX11_danceLine 46 = .ok (.istore_n 2, 1) := by decide +kernel
theorem dX11_danceLine_47 : decode cX11_danceLine 47 = .ok (.iload_n 2, 1) := by decide +kernel
theorem dX11_danceLine_48 : decode cX11_danceLine 48 = .ok (.aload_n 0, 1) := by decide +kernel
theorem dX11_danceLine_49 : decode cX11_danceLine 49 = .ok (.getfield 79, 3) := by decide +kernel
theorem dX11_danceLine_52 : decode cX11_danceLine 52 = .ok (.if_icmp .ge 86, 3) := by decide +kernel
theorem dX11_danceLine_55 : decode cX11_danceLine 55 = .ok (.aload_n 0, 1) := by decide +kernel
theorem dX11_danceLine_56 : decode cX11_danceLine 56 = .ok (.getfield 95, 3) := by decide +kernel
theorem dX11_danceLine_59 : decode cX11_danceLine 59 = .ok (.ifCond .ne 79, 3) := by decide +kernel
theorem dX11_danceLine_62 : decode cX11_danceLine 62 = .ok (.aload_n 0, 1) := by decide +kernel
theorem dX11_danceLine_63 : decode cX11_danceLine 63 = .ok (.getfield 17, 3) := by decide +kernel
theorem dX11_danceLine_66 : decode cX11_danceLine 66 = .ok (.iload_n 2, 1) := by decide +kernel
theorem dX11_danceLine_67 : decode cX11_danceLine 67 = .ok (.iaload, 1) := by decide +kernel
theorem dX11_danceLine_68 : decode cX11_danceLine 68 = .ok (.istore_n 3, 1) := by decide +kernel
theorem dX11_danceLine_69 : decode cX11_danceLine 69 = .ok (.iload_n 3, 1) := by decide +kernel
theorem dX11_danceLine_70 : decode cX11_danceLine 70 = .ok (.bipush 116, 2) := by decide +kernel
theorem dX11_danceLine_72 : decode cX11_danceLine 72 = .ok (.if_icmp .eq 25, 3) := by decide +kernel
theorem dX11_danceLine_75 : decode cX11_danceLine 75 = .ok (.iload_n 3, 1) := by decide +kernel
theorem dX11_danceLine_76 : decode cX11_danceLine 76 = .ok (.bipush 117, 2) := by decide +kernel
theorem dX11_danceLine_78 : decode cX11_danceLine 78 = .ok (.if_icmp .eq 19, 3) := by decide +kernel
theorem dX11_danceLine_81 : decode cX11_danceLine 81 = .ok (.iload_n 3, 1) := by decide +kernel
theorem dX11_danceLine_82 : decode cX11_danceLine 82 = .ok (.bipush 114, 2) := by decide +kernel
theorem dX11_danceLine_84 : decode cX11_danceLine 84 = .ok (.if_icmp .eq 13, 3) := by decide +kernel
theorem dX11_danceLine_87 : decode cX11_danceLine 87 = .ok (.aload_n 0, 1) := by decide +kernel
theorem dX11_danceLine_88 : decode cX11_danceLine 88 = .ok (.bipush 7, 2) := by decide +kernel
theorem dX11_danceLine_90 : decode cX11_danceLine 90 = .ok (.aload_n 0, 1) := by decide +kernel
theorem dX11_danceLine_91 : decode cX11_danceLine 91 = .ok (.getfield 76, 3) := by decide +kernel
theorem dX11_danceLine_94 : decode cX11_danceLine 94 = .ok (.invokevirtual 122, 3) := by decide +kernel
theorem dX11_danceLine_97 : decode cX11_danceLine 97 = .ok (.aload_n 0, 1) := by decide +kernel
theorem dX11_danceLine_98 : decode cX11_danceLine 98 = .ok (.getfield 23, 3) := by decide +kernel
theorem dX11_danceLine_101 : decode cX11_danceLine 101 = .ok (.bipush 9, 2) := by decide +kernel
theorem dX11_danceLine_103 : decode cX11_danceLine 103 = .ok (.bipush 12, 2) := by decide +kernel
theorem dX11_danceLine_105 : decode cX11_danceLine 105 = .ok (.iload_n 1, 1) := by decide +kernel
theorem dX11_danceLine_106 : decode cX11_danceLine 106 = .ok (.imul, 1) := by decide +kernel
theorem dX11_danceLine_107 : decode cX11_danceLine 107 = .ok (.iadd, 1) := by decide +kernel
theorem dX11_danceLine_108 : decode cX11_danceLine 108 = .ok (.iload_n 2, 1) := by decide +kernel
theorem dX11_danceLine_109 : decode cX11_danceLine 109 = .ok (.iadd, 1) := by decide +kernel
theorem dX11_danceLine_110 : decode cX11_danceLine 110 = .ok (.iload_n 3, 1) := by decide +kernel
theorem dX11_danceLine_111 : decode cX11_danceLine 111 = .ok (.bipush 116, 2) := by decide +kernel
theorem dX11_danceLine_113 : decode cX11_danceLine 113 = .ok (.if_icmp .ne 7, 3) := by decide +kernel
theorem dX11_danceLine_116 : decode cX11_danceLine 116 = .ok (.iconst 0, 1) := by decide +kernel
theorem dX11_danceLine_117 : decode cX11_danceLine 117 = .ok (.goto 14, 3) := by decide +kernel
theorem dX11_danceLine_120 : decode cX11_danceLine 120 = .ok (.iload_n 3, 1) := by decide +kernel
theorem dX11_danceLine_121 : decode cX11_danceLine 121 = .ok (.bipush 117, 2) := by decide +kernel
theorem dX11_danceLine_123 : decode cX11_danceLine 123 = .ok (.if_icmp .ne 7, 3) := by decide +kernel
theorem dX11_danceLine_126 : decode cX11_danceLine 126 = .ok (.iconst 1, 1) := by decide +kernel
theorem dX11_danceLine_127 : decode cX11_danceLine 127 = .ok (.goto 4, 3) := by decide +kernel
theorem dX11_danceLine_130 : decode cX11_danceLine 130 = .ok (.iconst 2, 1) := by decide +kernel
theorem dX11_danceLine_131 : decode cX11_danceLine 131 = .ok (.iastore, 1) := by decide +kernel
theorem dX11_danceLine_132 : decode cX11_danceLine 132 = .ok (.iinc 2 1, 3) := by decide +kernel
theorem dX11_danceLine_135 : decode cX11_danceLine 135 = .ok (.goto (-88), 3) := by decide +kernel
theorem dX11_danceLine_138 : decode cX11_danceLine 138 = .ok (.aload_n 0, 1) := by decide +kernel
theorem dX11_danceLine_139 : decode cX11_danceLine 139 = .ok (.getfield 95, 3) := by decide +kernel
theorem dX11_danceLine_142 : decode cX11_danceLine 142 = .ok (.ifCond .eq 4, 3) := by decide +kernel
theorem dX11_danceLine_145 : decode cX11_danceLine 145 = .ok (.return_, 1) := by decide +kernel
theorem dX11_danceLine_146 : decode cX11_danceLine 146 = .ok (.aload_n 0, 1) := by decide +kernel
theorem dX11_danceLine_147 : decode cX11_danceLine 147 = .ok (.getfield 23, 3) := by decide +kernel
theorem dX11_danceLine_150 : decode cX11_danceLine 150 = .ok (.iconst 4, 1) := by decide +kernel
theorem dX11_danceLine_151 : decode cX11_danceLine 151 = .ok (.iload_n 1, 1) := by decide +kernel
theorem dX11_danceLine_152 : decode cX11_danceLine 152 = .ok (.iadd, 1) := by decide +kernel
theorem dX11_danceLine_153 : decode cX11_danceLine 153 = .ok (.aload_n 0, 1) := by decide +kernel
theorem dX11_danceLine_154 : decode cX11_danceLine 154 = .ok (.getfield 79, 3) := by decide +kernel
theorem dX11_danceLine_157 : decode cX11_danceLine 157 = .ok (.iastore, 1) := by decide +kernel
theorem dX11_danceLine_158 : decode cX11_danceLine 158 = .ok (.aload_n 0, 1) := by decide +kernel
theorem dX11_danceLine_159 : decode cX11_danceLine 159 = .ok (.getfield 23, 3) := by decide +kernel
theorem dX11_danceLine_162 : decode cX11_danceLine 162 = .ok (.iconst 1, 1) := by decide +kernel
theorem dX11_danceLine_163 : decode cX11_danceLine 163 = .ok (.dup2, 1) := by decide +kernel
theorem dX11_danceLine_164 : decode cX11_danceLine 164 = .ok (.iaload, 1) := by decide +kernel
theorem dX11_danceLine_165 : decode cX11_danceLine 165 = .ok (.iconst 1, 1) := by decide +kernel
theorem dX11_danceLine_166 : decode cX11_danceLine 166 = .ok (.iadd, 1) := by decide +kernel
theorem dX11_danceLine_167 : decode cX11_danceLine 167 = .ok (.iastore, 1) := by decide +kernel
theorem dX11_danceLine_168 : decode cX11_danceLine 168 = .ok (.aload_n 0, 1) := by decide +kernel
theorem dX11_danceLine_169 : decode cX11_danceLine 169 = .ok (.invokevirtual 116, 3) := by decide +kernel
theorem dX11_danceLine_172 : decode cX11_danceLine 172 = .ok (.return_, 1) := by decide +kernel
theorem dX11_unsureLine_0 : decode cX11_unsureLine 0 = .ok (.aload_n 0, 1) := by decide +kernel
theorem dX11_unsureLine_1 : decode cX11_unsureLine 1 = .ok (.getfield 95, 3) := by decide +kernel
theorem dX11_unsureLine_4 : decode cX11_unsureLine 4 = .ok (.ifCond .eq 4, 3) := by decide +kernel
theorem dX11_unsureLine_7 : decode cX11_unsureLine 7 = .ok (.return_, 1) := by decide +kernel
theorem dX11_unsureLine_8 : decode cX11_unsureLine 8 = .ok (.bipush 69, 2) := by decide +kernel
theorem dX11_unsureLine_10 : decode cX11_unsureLine 10 = .ok (.iconst 2, 1) := by decide +kernel
theorem dX11_unsureLine_11 : decode cX11_unsureLine 11 = .ok (.aload_n 0, 1) := by decide +kernel
theorem dX11_unsureLine_12 : decode cX11_unsureLine 12 = .ok (.getfield 23, 3) := by decide +kernel
theorem dX11_unsureLine_15 : decode cX11_unsureLine 15 = .ok (.iconst 2, 1) := by decide +kernel
theorem dX11_unsureLine_16 : decode cX11_unsureLine 16 = .ok (.iaload, 1) := by decide +kernel
theorem dX11_unsureLine_17 : decode cX11_unsureLine 17 = .ok (.imul, 1) := by decide +kernel
theorem dX11_unsureLine_18 : decode cX11_unsureLine 18 = .ok (.iadd, 1) := by decide +kernel
theorem dX11_unsureLine_19 : decode cX11_unsureLine 19 = .ok (.istore_n 1, 1) := by decide +kernel
theorem dX11_unsureLine_20 : decode cX11_unsureLine 20 = .ok (.aload_n 0, 1) := by decide +kernel
theorem dX11_unsureLine_21 : decode cX11_unsureLine 21 = .ok (.invokevirtual 211, 3) := by decide +kernel
theorem dX11_unsureLine_24 : decode cX11_unsureLine 24 = .ok (.istore_n 2, 1) := by decide +kernel
theorem dX11_unsureLine_25 : decode cX11_unsureLine 25 = .ok (.aload_n 0, 1) := by decide +kernel
theorem dX11_unsureLine_26 : decode cX11_unsureLine 26 = .ok (.iconst 0, 1) := by decide +kernel
theorem dX11_unsureLine_27 : decode cX11_unsureLine 27 = .ok (.aload_n 0, 1) := by decide +kernel
theorem dX11_unsureLine_28 : decode cX11_unsureLine 28 = .ok (.getfield 23, 3) := by decide +kernel
theorem dX11_unsureLine_31 : decode cX11_unsureLine 31 = .ok (.iconst 4, 1) := by decide +kernel
theorem dX11_unsureLine_32 : decode cX11_unsureLine 32 = .ok (.iload_n 2, 1) := by decide +kernel
theorem dX11_unsureLine_33 : decode cX11_unsureLine 33 = .ok (.iadd, 1) := by decide +kernel
theorem dX11_unsureLine_34 : decode cX11_unsureLine 34 = .ok (.iaload, 1) := by decide +kernel
theorem dX11_unsureLine_35 : decode cX11_unsureLine 35 = .ok (.iconst 1, 1) := by decide +kernel
theorem dX11_unsureLine_36 : decode cX11_unsureLine 36 = .ok (.isub, 1) := by decide +kernel
theorem dX11_unsureLine_37 : decode cX11_unsureLine 37 = .ok (.invokevirtual 203, 3) := by decide +kernel
theorem dX11_unsureLine_40 : decode cX11_unsureLine 40 = .ok (.istore_n 3, 1) := by decide +kernel
theorem dX11_unsureLine_41 : decode cX11_unsureLine 41 = .ok (.iconst 0, 1) := by decide +kernel
theorem dX11_unsureLine_42 : decode cX11_unsureLine 42 = .ok (.istore 4, 2) := by decide +kernel
theorem dX11_unsureLine_44 : decode cX11_unsureLine 44 = .ok (.iload 4, 2) := by decide +kernel
theorem dX11_unsureLine_46 : decode cX11_unsureLine 46 = .ok (.aload_n 0, 1) := by decide +kernel
theorem dX11_unsureLine_47 : decode cX11_unsureLine 47 = .ok (.getfield 23, 3) := by decide +kernel
theorem dX11_unsureLine_50 : decode cX11_unsureLine 50 = .ok (.iconst 2, 1) := by decide +kernel
theorem dX11_unsureLine_51 : decode cX11_unsureLine 51 = .ok (.iaload, 1) := by decide +kernel
theorem dX11_unsureLine_52 : decode cX11_unsureLine 52 = .ok (.if_icmp .ge 59, 3) := by decide +kernel
theorem dX11_unsureLine_55 : decode cX11_unsureLine 55 = .ok (.aload_n 0, 1) := by decide +kernel
theorem dX11_unsureLine_56 : decode cX11_unsureLine 56 = .ok (.getfield 95, 3) := by decide +kernel
theorem dX11_unsureLine_59 : decode cX11_unsureLine 59 = .ok (.ifCond .ne 46, 3) := by decide +kernel
theorem dX11_unsureLine_62 : decode cX11_unsureLine 62 = .ok (.aload_n 0, 1) := by decide +kernel
theorem dX11_unsureLine_63 : decode cX11_unsureLine 63 = .ok (.getfield 23, 3) := by decide +kernel
theorem dX11_unsureLine_66 : decode cX11_unsureLine 66 = .ok (.bipush 69, 2) := by decide +kernel
theorem dX11_unsureLine_68 : decode cX11_unsureLine 68 = .ok (.iconst 2, 1) := by decide +kernel
theorem dX11_unsureLine_69 : decode cX11_unsureLine 69 = .ok (.iload 4, 2) := by decide +kernel
theorem dX11_unsureLine_71 : decode cX11_unsureLine 71 = .ok (.imul, 1) := by decide +kernel
theorem dX11_unsureLine_72 : decode cX11_unsureLine 72 = .ok (.iadd, 1) := by decide +kernel
theorem dX11_unsureLine_73 : decode cX11_unsureLine 73 = .ok (.iaload, 1) := by decide +kernel
theorem dX11_unsureLine_74 : decode cX11_unsureLine 74 = .ok (.iload_n 2, 1) := by decide +kernel
theorem dX11_unsureLine_75 : decode cX11_unsureLine 75 = .ok (.if_icmp .ne 30, 3) := by decide +kernel
theorem dX11_unsureLine_78 : decode cX11_unsureLine 78 = .ok (.aload_n 0, 1) := by decide +kernel
theorem dX11_unsureLine_79 : decode cX11_unsureLine 79 = .ok (.getfield 23, 3) := by decide +kernel
theorem dX11_unsureLine_82 : decode cX11_unsureLine 82 = .ok (.bipush 69, 2) := by decide +kernel
theorem dX11_unsureLine_84 : decode cX11_unsureLine 84 = .ok (.iconst 2, 1) := by decide +kernel
theorem dX11_unsureLine_85 : decode cX11_unsureLine 85 = .ok (.iload 4, 2) := by decide +kernel
theorem dX11_unsureLine_87 : decode cX11_unsureLine 87 = .ok (.imul, 1) := by decide +kernel
theorem dX11_unsureLine_88 : decode cX11_unsureLine 88 = .ok (.iadd, 1) := by decide +kernel
theorem dX11_unsureLine_89 : decode cX11_unsureLine 89 = .ok (.iconst 1, 1) := by decide +kernel
theorem dX11_unsureLine_90 : decode cX11_unsureLine 90 = .ok (.iadd, 1) := by decide +kernel
theorem dX11_unsureLine_91 : decode cX11_unsureLine 91 = .ok (.iaload, 1) := by decide +kernel
theorem dX11_unsureLine_92 : decode cX11_unsureLine 92 = .ok (.iload_n 3, 1) := by decide +kernel
theorem dX11_unsureLine_93 : decode cX11_unsureLine 93 = .ok (.if_icmp .ne 12, 3) := by decide +kernel
theorem dX11_unsureLine_96 : decode cX11_unsureLine 96 = .ok (.aload_n 0, 1) := by decide +kernel
theorem dX11_unsureLine_97 : decode cX11_unsureLine 97 = .ok (.iconst 3, 1) := by decide +kernel
theorem dX11_unsureLine_98 : decode cX11_unsureLine 98 = .ok (.aload_n 0, 1) := by decide +kernel
theorem dX11_unsureLine_99 : decode cX11_unsureLine 99 = .ok (.getfield 76, 3) := by decide +kernel
theorem dX11_unsureLine_102 : decode cX11_unsureLine 102 = .ok (.invokevirtual 122, 3) := by decide +kernel
theorem dX11_unsureLine_105 : decode cX11_unsureLine 105 = .ok (.iinc 4 1, 3) := by decide +kernel
theorem dX11_unsureLine_108 : decode cX11_unsureLine 108 = .ok (.goto (-64), 3) := by decide +kernel
theorem dX11_unsureLine_111 : decode cX11_unsureLine 111 = .ok (.aload_n 0, 1) := by decide +kernel
theorem dX11_unsureLine_112 : decode cX11_unsureLine 112 = .ok (.invokevirtual 140, 3) := by decide +kernel
theorem dX11_unsureLine_115 : decode cX11_unsureLine 115 = .ok (.aload_n 0, 1) := by decide +kernel
theorem dX11_unsureLine_116 : decode cX11_unsureLine 116 = .ok (.getfield 95, 3) := by decide +kernel
theorem dX11_unsureLine_119 : decode cX11_unsureLine 119 = .ok (.ifCond .eq 4, 3) := by decide +kernel
theorem dX11_unsureLine_122 : decode cX11_unsureLine 122 = .ok (.return_, 1) := by decide +kernel
theorem dX11_unsureLine_123 : decode cX11_unsureLine 123 = .ok (.aload_n 0, 1) := by decide +kernel
theorem dX11_unsureLine_124 : decode cX11_unsureLine 124 = .ok (.getfield 23, 3) := by decide +kernel
theorem dX11_unsureLine_127 : decode cX11_unsureLine 127 = .ok (.iload_n 1, 1) := by decide +kernel
theorem dX11_unsureLine_128 : decode cX11_unsureLine 128 = .ok (.iload_n 2, 1) := by decide +kernel
theorem dX11_unsureLine_129 : decode cX11_unsureLine 129 = .ok (.iastore, 1) := by decide +kernel
theorem dX11_unsureLine_130 : decode cX11_unsureLine 130 = .ok (.aload_n 0, 1) := by decide +kernel
theorem dX11_unsureLine_131 : decode cX11_unsureLine 131 = .ok (.getfield 23, 3) := by decide +kernel
theorem dX11_unsureLine_134 : decode cX11_unsureLine 134 = .ok (.iload_n 1, 1) := by decide +kernel
theorem dX11_unsureLine_135 : decode cX11_unsureLine 135 = .ok (.iconst 1, 1) := by decide +kernel
theorem dX11_unsureLine_136 : decode cX11_unsureLine 136 = .ok (.iadd, 1) := by decide +kernel
theorem dX11_unsureLine_137 : decode cX11_unsureLine 137 = .ok (.iload_n 3, 1) := by decide +kernel
theorem dX11_unsureLine_138 : decode cX11_unsureLine 138 = .ok (.iastore, 1) := by decide +kernel
theorem dX11_unsureLine_139 : decode cX11_unsureLine 139 = .ok (.aload_n 0, 1) := by decide +kernel
theorem dX11_unsureLine_140 : decode cX11_unsureLine 140 = .ok (.getfield 23, 3) := by decide +kernel
theorem dX11_unsureLine_143 : decode cX11_unsureLine 143 = .ok (.iconst 2, 1) := by decide +kernel
theorem dX11_unsureLine_144 : decode cX11_unsureLine 144 = .ok (.dup2, 1) := by decide +kernel
theorem dX11_unsureLine_145 : decode cX11_unsureLine 145 = .ok (.iaload, 1) := by decide +kernel
theorem dX11_unsureLine_146 : decode cX11_unsureLine 146 = .ok (.iconst 1, 1) := by decide +kernel
theorem dX11_unsureLine_147 : decode cX11_unsureLine 147 = .ok (.iadd, 1) := by decide +kernel
theorem dX11_unsureLine_148 : decode cX11_unsureLine 148 = .ok (.iastore, 1) := by decide +kernel
theorem dX11_unsureLine_149 : decode cX11_unsureLine 149 = .ok (.return_, 1) := by decide +kernel
theorem dX11_cornerHere_0 : decode cX11_cornerHere 0 = .ok (.aload_n 0, 1) := by decide +kernel
theorem dX11_cornerHere_1 : decode cX11_cornerHere 1 = .ok (.ldc 214, 2) := by decide +kernel
theorem dX11_cornerHere_3 : decode cX11_cornerHere 3 = .ok (.invokevirtual 112, 3) := by decide +kernel
theorem dX11_cornerHere_6 : decode cX11_cornerHere 6 = .ok (.ifCond .eq 7, 3) := by decide +kernel
theorem dX11_cornerHere_9 : decode cX11_cornerHere 9 = .ok (.iconst 0, 1) := by decide +kernel
theorem dX11_cornerHere_10 : decode cX11_cornerHere 10 = .ok (.goto 43, 3) := by decide +kernel
theorem dX11_cornerHere_13 : decode cX11_cornerHere 13 = .ok (.aload_n 0, 1) := by decide +kernel
theorem dX11_cornerHere_14 : decode cX11_cornerHere 14 = .ok (.ldc 216, 2) := by decide +kernel
theorem dX11_cornerHere_16 : decode cX11_cornerHere 16 = .ok (.invokevirtual 112, 3) := by decide +kernel
theorem dX11_cornerHere_19 : decode cX11_cornerHere 19 = .ok (.ifCond .eq 7, 3) := by decide +kernel
theorem dX11_cornerHere_22 : decode cX11_cornerHere 22 = .ok (.iconst 1, 1) := by decide +kernel
theorem dX11_cornerHere_23 : decode cX11_cornerHere 23 = .ok (.goto 30, 3) := by decide +kernel
theorem dX11_cornerHere_26 : decode cX11_cornerHere 26 = .ok (.aload_n 0, 1) := by decide +kernel
theorem dX11_cornerHere_27 : decode cX11_cornerHere 27 = .ok (.ldc 218, 2) := by decide +kernel
theorem dX11_cornerHere_29 : decode cX11_cornerHere 29 = .ok (.invokevirtual 112, 3) := by decide +kernel
theorem dX11_cornerHere_32 : decode cX11_cornerHere 32 = .ok (.ifCond .eq 7, 3) := by decide +kernel
theorem dX11_cornerHere_35 : decode cX11_cornerHere 35 = .ok (.iconst 2, 1) := by decide +kernel
theorem dX11_cornerHere_36 : decode cX11_cornerHere 36 = .ok (.goto 17, 3) := by decide +kernel
theorem dX11_cornerHere_39 : decode cX11_cornerHere 39 = .ok (.aload_n 0, 1) := by decide +kernel
theorem dX11_cornerHere_40 : decode cX11_cornerHere 40 = .ok (.ldc 220, 2) := by decide +kernel
theorem dX11_cornerHere_42 : decode cX11_cornerHere 42 = .ok (.invokevirtual 112, 3) := by decide +kernel
theorem dX11_cornerHere_45 : decode cX11_cornerHere 45 = .ok (.ifCond .eq 7, 3) := by decide +kernel
theorem dX11_cornerHere_48 : decode cX11_cornerHere 48 = .ok (.iconst 3, 1) := by decide +kernel
theorem dX11_cornerHere_49 : decode cX11_cornerHere 49 = .ok (.goto 4, 3) := by decide +kernel
theorem dX11_cornerHere_52 : decode cX11_cornerHere 52 = .ok (.iconst (-1), 1) := by decide +kernel
theorem dX11_cornerHere_53 : decode cX11_cornerHere 53 = .ok (.istore_n 1, 1) := by decide +kernel
theorem dX11_cornerHere_54 : decode cX11_cornerHere 54 = .ok (.iload_n 1, 1) := by decide +kernel
theorem dX11_cornerHere_55 : decode cX11_cornerHere 55 = .ok (.ifCond .ge 12, 3) := by decide +kernel
theorem dX11_cornerHere_58 : decode cX11_cornerHere 58 = .ok (.aload_n 0, 1) := by decide +kernel
theorem dX11_cornerHere_59 : decode cX11_cornerHere 59 = .ok (.iconst 1, 1) := by decide +kernel
theorem dX11_cornerHere_60 : decode cX11_cornerHere 60 = .ok (.aload_n 0, 1) := by decide +kernel
theorem dX11_cornerHere_61 : decode cX11_cornerHere 61 = .ok (.getfield 76, 3) := by decide +kernel
theorem dX11_cornerHere_64 : decode cX11_cornerHere 64 = .ok (.invokevirtual 122, 3) := by decide +kernel
theorem dX11_cornerHere_67 : decode cX11_cornerHere 67 = .ok (.iload_n 1, 1) := by decide +kernel
theorem dX11_cornerHere_68 : decode cX11_cornerHere 68 = .ok (.ireturn, 1) := by decide +kernel
theorem dX11_seenLine_0 : decode cX11_seenLine 0 = .ok (.aload_n 0, 1) := by decide +kernel
theorem dX11_seenLine_1 : decode cX11_seenLine 1 = .ok (.getfield 95, 3) := by decide +kernel
theorem dX11_seenLine_4 : decode cX11_seenLine 4 = .ok (.ifCond .eq 4, 3) := by decide +kernel
theorem dX11_seenLine_7 : decode cX11_seenLine 7 = .ok (.return_, 1) := by decide +kernel
theorem dX11_seenLine_8 : decode cX11_seenLine 8 = .ok (.bipush 77, 2) := by decide +kernel
theorem dX11_seenLine_10 : decode cX11_seenLine 10 = .ok (.iconst 4, 1) := by decide +kernel
theorem dX11_seenLine_11 : decode cX11_seenLine 11 = .ok (.aload_n 0, 1) := by decide +kernel
theorem dX11_seenLine_12 : decode cX11_seenLine 12 = .ok (.getfield 23, 3) := by decide +kernel
theorem dX11_seenLine_15 : decode cX11_seenLine 15 = .ok (.iconst 3, 1) := by decide +kernel
theorem dX11_seenLine_16 : decode cX11_seenLine 16 = .ok (.iaload, 1) := by decide +kernel
theorem dX11_seenLine_17 : decode cX11_seenLine 17 = .ok (.imul, 1) := by decide +kernel
theorem dX11_seenLine_18 : decode cX11_seenLine 18 = .ok (.iadd, 1) := by decide +kernel
theorem dX11_seenLine_19 : decode cX11_seenLine 19 = .ok (.istore_n 1, 1) := by decide +kernel
theorem dX11_seenLine_20 : decode cX11_seenLine 20 = .ok (.aload_n 0, 1) := by decide +kernel
theorem dX11_seenLine_21 : decode cX11_seenLine 21 = .ok (.invokevirtual 211, 3) := by decide +kernel
theorem dX11_seenLine_24 : decode cX11_seenLine 24 = .ok (.istore_n 2, 1) := by decide +kernel
theorem dX11_seenLine_25 : decode cX11_seenLine 25 = .ok (.aload_n 0, 1) := by decide +kernel
theorem dX11_seenLine_26 : decode cX11_seenLine 26 = .ok (.iconst 0, 1) := by decide +kernel
theorem dX11_seenLine_27 : decode cX11_seenLine 27 = .ok (.aload_n 0, 1) := by decide +kernel
theorem dX11_seenLine_28 : decode cX11_seenLine 28 = .ok (.getfield 23, 3) := by decide +kernel
theorem dX11_seenLine_31 : decode cX11_seenLine 31 = .ok (.iconst 4, 1) := by decide +kernel
theorem dX11_seenLine_32 : decode cX11_seenLine 32 = .ok (.iload_n 2, 1) := by decide +kernel
theorem dX11_seenLine_33 : decode cX11_seenLine 33 = .ok (.iadd, 1) := by decide +kernel
theorem dX11_seenLine_34 : decode cX11_seenLine 34 = .ok (.iaload, 1) := by decide +kernel
theorem dX11_seenLine_35 : decode cX11_seenLine 35 = .ok (.invokevirtual 203, 3) := by decide +kernel
theorem dX11_seenLine_38 : decode cX11_seenLine 38 = .ok (.istore_n 3, 1) := by decide +kernel
theorem dX11_seenLine_39 : decode cX11_seenLine 39 = .ok (.iconst 0, 1) := by decide +kernel
theorem dX11_seenLine_40 : decode cX11_seenLine 40 = .ok (.istore 4, 2) := by decide +kernel
theorem dX11_seenLine_42 : decode cX11_seenLine 42 = .ok (.iload 4, 2) := by decide +kernel
theorem dX11_seenLine_44 : decode cX11_seenLine 44 = .ok (.aload_n 0, 1) := by decide +kernel
theorem dX11_seenLine_45 : decode cX11_seenLine 45 = .ok (.getfield 23, 3) := by decide +kernel
theorem dX11_seenLine_48 : decode cX11_seenLine 48 = .ok (.iconst 3, 1) := by decide +kernel
theorem dX11_seenLine_49 : decode cX11_seenLine 49 = .ok (.iaload, 1) := by decide +kernel
theorem dX11_seenLine_50 : decode cX11_seenLine 50 = .ok (.if_icmp .ge 59, 3) := by decide +kernel
theorem dX11_seenLine_53 : decode cX11_seenLine 53 = .ok (.aload_n 0, 1) := by decide +kernel
theorem dX11_seenLine_54 : decode cX11_seenLine 54 = .ok (.getfield 95, 3) := by decide +kernel
theorem dX11_seenLine_57 : decode cX11_seenLine 57 = .ok (.ifCond .ne 46, 3) := by decide +kernel
theorem dX11_seenLine_60 : decode cX11_seenLine 60 = .ok (.aload_n 0, 1) := by decide +kernel
theorem dX11_seenLine_61 : decode cX11_seenLine 61 = .ok (.getfield 23, 3) := by decide +kernel
theorem dX11_seenLine_64 : decode cX11_seenLine 64 = .ok (.bipush 77, 2) := by decide +kernel
theorem dX11_seenLine_66 : decode cX11_seenLine 66 = .ok (.iconst 4, 1) := by decide +kernel
theorem dX11_seenLine_67 : decode cX11_seenLine 67 = .ok (.iload 4, 2) := by decide +kernel
theorem dX11_seenLine_69 : decode cX11_seenLine 69 = .ok (.imul, 1) := by decide +kernel
theorem dX11_seenLine_70 : decode cX11_seenLine 70 = .ok (.iadd, 1) := by decide +kernel
theorem dX11_seenLine_71 : decode cX11_seenLine 71 = .ok (.iaload, 1) := by decide +kernel
theorem dX11_seenLine_72 : decode cX11_seenLine 72 = .ok (.iload_n 2, 1) := by decide +kernel
theorem dX11_seenLine_73 : decode cX11_seenLine 73 = .ok (.if_icmp .ne 30, 3) := by decide +kernel
theorem dX11_seenLine_76 : decode cX11_seenLine 76 = .ok (.aload_n 0, 1) := by decide +kernel
theorem dX11_seenLine_77 : decode cX11_seenLine 77 = .ok (.getfield 23, 3) := by decide +kernel
theorem dX11_seenLine_80 : decode cX11_seenLine 80 = .ok (.bipush 77, 2) := by decide +kernel
theorem dX11_seenLine_82 : decode cX11_seenLine 82 = .ok (.iconst 4, 1) := by decide +kernel
theorem dX11_seenLine_83 : decode cX11_seenLine 83 = .ok (.iload 4, 2) := by decide +kernel
theorem dX11_seenLine_85 : decode cX11_seenLine 85 = .ok (.imul, 1) := by decide +kernel
theorem dX11_seenLine_86 : decode cX11_seenLine 86 = .ok (.iadd, 1) := by decide +kernel
theorem dX11_seenLine_87 : decode cX11_seenLine 87 = .ok (.iconst 1, 1) := by decide +kernel
theorem dX11_seenLine_88 : decode cX11_seenLine 88 = .ok (.iadd, 1) := by decide +kernel
theorem dX11_seenLine_89 : decode cX11_seenLine 89 = .ok (.iaload, 1) := by decide +kernel
theorem dX11_seenLine_90 : decode cX11_seenLine 90 = .ok (.iload_n 3, 1) := by decide +kernel
theorem dX11_seenLine_91 : decode cX11_seenLine 91 = .ok (.if_icmp .ne 12, 3) := by decide +kernel
theorem dX11_seenLine_94 : decode cX11_seenLine 94 = .ok (.aload_n 0, 1) := by decide +kernel
theorem dX11_seenLine_95 : decode cX11_seenLine 95 = .ok (.iconst 3, 1) := by decide +kernel
theorem dX11_seenLine_96 : decode cX11_seenLine 96 = .ok (.aload_n 0, 1) := by decide +kernel
theorem dX11_seenLine_97 : decode cX11_seenLine 97 = .ok (.getfield 76, 3) := by decide +kernel
theorem dX11_seenLine_100 : decode cX11_seenLine 100 = .ok (.invokevirtual 122, 3) := by decide +kernel
theorem dX11_seenLine_103 : decode cX11_seenLine 103 = .ok (.iinc 4 1, 3) := by decide +kernel
theorem dX11_seenLine_106 : decode cX11_seenLine 106 = .ok (.goto (-64), 3) := by decide +kernel
theorem dX11_seenLine_109 : decode cX11_seenLine 109 = .ok (.aload_n 0, 1) := by decide +kernel
theorem dX11_seenLine_110 : decode cX11_seenLine 110 = .ok (.invokevirtual 140, 3) := by decide +kernel
theorem dX11_seenLine_113 : decode cX11_seenLine 113 = .ok (.aload_n 0, 1) := by decide +kernel
theorem dX11_seenLine_114 : decode cX11_seenLine 114 = .ok (.invokevirtual 222, 3) := by decide +kernel
theorem dX11_seenLine_117 : decode cX11_seenLine 117 = .ok (.istore 4, 2) := by decide +kernel
theorem dX11_seenLine_119 : decode cX11_seenLine 119 = .ok (.aload_n 0, 1) := by decide +kernel
theorem dX11_seenLine_120 : decode cX11_seenLine 120 = .ok (.invokevirtual 140, 3) := by decide +kernel
theorem dX11_seenLine_123 : decode cX11_seenLine 123 = .ok (.aload_n 0, 1) := by decide +kernel
theorem dX11_seenLine_124 : decode cX11_seenLine 124 = .ok (.invokevirtual 222, 3) := by decide +kernel
theorem dX11_seenLine_127 : decode cX11_seenLine 127 = .ok (.istore 5, 2) := by decide +kernel
theorem dX11_seenLine_129 : decode cX11_seenLine 129 = .ok (.aload_n 0, 1) := by decide +kernel
theorem dX11_seenLine_130 : decode cX11_seenLine 130 = .ok (.getfield 95, 3) := by decide +kernel
theorem dX11_seenLine_133 : decode cX11_seenLine 133 = .ok (.ifCond .ne 19, 3) := by decide +kernel
theorem dX11_seenLine_136 : decode cX11_seenLine 136 = .ok (.iload 4, 2) := by decide +kernel
theorem dX11_seenLine_138 : decode cX11_seenLine 138 = .ok (.iload 5, 2) := by decide +kernel
theorem dX11_seenLine_140 : decode cX11_seenLine 140 = .ok (.if_icmp .ne 12, 3) := by decide +kernel
theorem dX11_seenLine_143 : decode cX11_seenLine 143 = .ok (.aload_n 0, 1) := by decide +kernel
theorem dX11_seenLine_144 : decode cX11_seenLine 144 = .ok (.iconst 3, 1) := by decide +kernel
theorem dX11_seenLine_145 : decode cX11_seenLine 145 = .ok (.aload_n 0, 1) := by decide +kernel
theorem dX11_seenLine_146 : decode cX11_seenLine 146 = .ok (.getfield 76, 3) := by decide +kernel
theorem dX11_seenLine_149 : decode cX11_seenLine 149 = .ok (.invokevirtual 122, 3) := by decide +kernel
theorem dX11_seenLine_152 : decode cX11_seenLine 152 = .ok (.aload_n 0, 1) := by decide +kernel
theorem dX11_seenLine_153 : decode cX11_seenLine 153 = .ok (.invokevirtual 140, 3) := by decide +kernel
theorem dX11_seenLine_156 : decode cX11_seenLine 156 = .ok (.aload_n 0, 1) := by decide +kernel
theorem dX11_seenLine_157 : decode cX11_seenLine 157 = .ok (.getfield 95, 3) := by decide +kernel
theorem dX11_seenLine_160 : decode cX11_seenLine 160 = .ok (.ifCond .eq 4, 3) := by decide +kernel
theorem dX11_seenLine_163 : decode cX11_seenLine 163 = .ok (.return_, 1) := by decide +kernel
theorem dX11_seenLine_164 : decode cX11_seenLine 164 = .ok (.aload_n 0, 1) := by decide +kernel
theorem dX11_seenLine_165 : decode cX11_seenLine 165 = .ok (.getfield 23, 3) := by decide +kernel
theorem dX11_seenLine_168 : decode cX11_seenLine 168 = .ok (.iload_n 1, 1) := by decide +kernel
theorem dX11_seenLine_169 : decode cX11_seenLine 169 = .ok (.iload_n 2, 1) := by decide +kernel
theorem dX11_seenLine_170 : decode cX11_seenLine 170 = .ok (.iastore, 1) := by decide +kernel
theorem dX11_seenLine_171 : decode cX11_seenLine 171 = .ok (.aload_n 0, 1) := by decide +kernel
theorem dX11_seenLine_172 : decode cX11_seenLine 172 = .ok (.getfield 23, 3) := by decide +kernel
theorem dX11_seenLine_175 : decode cX11_seenLine 175 = .ok (.iload_n 1, 1) := by decide +kernel
theorem dX11_seenLine_176 : decode cX11_seenLine 176 = .ok (.iconst 1, 1) := by decide +kernel
theorem dX11_seenLine_177 : decode cX11_seenLine 177 = .ok (.iadd, 1) := by decide +kernel
theorem dX11_seenLine_178 : decode cX11_seenLine 178 = .ok (.iload_n 3, 1) := by decide +kernel
theorem dX11_seenLine_179 : decode cX11_seenLine 179 = .ok (.iastore, 1) := by decide +kernel
theorem dX11_seenLine_180 : decode cX11_seenLine 180 = .ok (.aload_n 0, 1) := by decide +kernel
theorem dX11_seenLine_181 : decode cX11_seenLine 181 = .ok (.getfield 23, 3) := by decide +kernel
theorem dX11_seenLine_184 : decode cX11_seenLine 184 = .ok (.iload_n 1, 1) := by decide +kernel
theorem dX11_seenLine_185 : decode cX11_seenLine 185 = .ok (.iconst 2, 1) := by decide +kernel
theorem dX11_seenLine_186 : decode cX11_seenLine 186 = .ok (.iadd, 1) := by decide +kernel
theorem dX11_seenLine_187 : decode cX11_seenLine 187 = .ok (.iload 4, 2) := by decide +kernel
theorem dX11_seenLine_189 : decode cX11_seenLine 189 = .ok (.iastore, 1) := by decide +kernel
theorem dX11_seenLine_190 : decode cX11_seenLine 190 = .ok (.aload_n 0, 1) := by decide +kernel
theorem dX11_seenLine_191 : decode cX11_seenLine 191 = .ok (.getfield 23, 3) := by decide +kernel
theorem dX11_seenLine_194 : decode cX11_seenLine 194 = .ok (.iload_n 1, 1) := by decide +kernel
theorem dX11_seenLine_195 : decode cX11_seenLine 195 = .ok (.iconst 3, 1) := by decide +kernel
theorem dX11_seenLine_196 : decode cX11_seenLine 196 = .ok (.iadd, 1) := by decide +kernel
theorem dX11_seenLine_197 : decode cX11_seenLine 197 = .ok (.iload 5, 2) := by decide +kernel
theorem dX11_seenLine_199 : decode cX11_seenLine 199 = .ok (.iastore, 1) := by decide +kernel
theorem dX11_seenLine_200 : decode cX11_seenLine 200 = .ok (.aload_n 0, 1) := by decide +kernel
theorem dX11_seenLine_201 : decode cX11_seenLine 201 = .ok (.getfield 23, 3) := by decide +kernel
theorem dX11_seenLine_204 : decode cX11_seenLine 204 = .ok (.iconst 3, 1) := by decide +kernel
theorem dX11_seenLine_205 : decode cX11_seenLine 205 = .ok (.dup2, 1) := by decide +kernel
theorem dX11_seenLine_206 : decode cX11_seenLine 206 = .ok (.iaload, 1) := by decide +kernel
theorem dX11_seenLine_207 : decode cX11_seenLine 207 = .ok (.iconst 1, 1) := by decide +kernel
theorem dX11_seenLine_208 : decode cX11_seenLine 208 = .ok (.iadd, 1) := by decide +kernel
theorem dX11_seenLine_209 : decode cX11_seenLine 209 = .ok (.iastore, 1) := by decide +kernel
theorem dX11_seenLine_210 : decode cX11_seenLine 210 = .ok (.return_, 1) := by decide +kernel
theorem dX11_fault_0 : decode cX11_fault 0 = .ok (.aload_n 0, 1) := by decide +kernel
theorem dX11_fault_1 : decode cX11_fault 1 = .ok (.iconst 0, 1) := by decide +kernel
theorem dX11_fault_2 : decode cX11_fault 2 = .ok (.putfield 53, 3) := by decide +kernel
theorem dX11_fault_5 : decode cX11_fault 5 = .ok (.aload_n 0, 1) := by decide +kernel
theorem dX11_fault_6 : decode cX11_fault 6 = .ok (.getfield 99, 3) := by decide +kernel
theorem dX11_fault_9 : decode cX11_fault 9 = .ok (.ireturn, 1) := by decide +kernel
theorem dX11_where_0 : decode cX11_where 0 = .ok (.aload_n 0, 1) := by decide +kernel
theorem dX11_where_1 : decode cX11_where 1 = .ok (.iconst 0, 1) := by decide +kernel
theorem dX11_where_2 : decode cX11_where 2 = .ok (.putfield 53, 3) := by decide +kernel
theorem dX11_where_5 : decode cX11_where 5 = .ok (.aload_n 0, 1) := by decide +kernel
theorem dX11_where_6 : decode cX11_where 6 = .ok (.getfield 56, 3) := by decide +kernel
theorem dX11_where_9 : decode cX11_where 9 = .ok (.iconst 4, 1) := by decide +kernel
theorem dX11_where_10 : decode cX11_where 10 = .ok (.if_icmp .ne 10, 3) := by decide +kernel
theorem dX11_where_13 : decode cX11_where 13 = .ok (.aload_n 0, 1) := by decide +kernel
theorem dX11_where_14 : decode cX11_where 14 = .ok (.getfield 13, 3) := by decide +kernel
theorem dX11_where_17 : decode cX11_where 17 = .ok (.goto 4, 3) := by decide +kernel
theorem dX11_where_20 : decode cX11_where 20 = .ok (.iconst (-1), 1) := by decide +kernel
theorem dX11_where_21 : decode cX11_where 21 = .ok (.ireturn, 1) := by decide +kernel
theorem dX11_isDance_0 : decode cX11_isDance 0 = .ok (.aload_n 0, 1) := by decide +kernel
theorem dX11_isDance_1 : decode cX11_isDance 1 = .ok (.getfield 163, 3) := by decide +kernel
theorem dX11_isDance_4 : decode cX11_isDance 4 = .ok (.ifCond .eq 23, 3) := by decide +kernel
theorem dX11_isDance_7 : decode cX11_isDance 7 = .ok (.iload_n 1, 1) := by decide +kernel
theorem dX11_isDance_8 : decode cX11_isDance 8 = .ok (.iconst 0, 1) := by decide +kernel
theorem dX11_isDance_9 : decode cX11_isDance 9 = .ok (.aload_n 0, 1) := by decide +kernel
theorem dX11_isDance_10 : decode cX11_isDance 10 = .ok (.getfield 20, 3) := by decide +kernel
theorem dX11_isDance_13 : decode cX11_isDance 13 = .ok (.iconst 1, 1) := by decide +kernel
theorem dX11_isDance_14 : decode cX11_isDance 14 = .ok (.iaload, 1) := by decide +kernel
theorem dX11_isDance_15 : decode cX11_isDance 15 = .ok (.iconst 1, 1) := by decide +kernel
theorem dX11_isDance_16 : decode cX11_isDance 16 = .ok (.isub, 1) := by decide +kernel
theorem dX11_isDance_17 : decode cX11_isDance 17 = .ok (.invokestatic 143, 3) := by decide +kernel
theorem dX11_isDance_20 : decode cX11_isDance 20 = .ok (.ifCond .eq 7, 3) := by decide +kernel
theorem dX11_isDance_23 : decode cX11_isDance 23 = .ok (.iconst 1, 1) := by decide +kernel
theorem dX11_isDance_24 : decode cX11_isDance 24 = .ok (.goto 4, 3) := by decide +kernel
theorem dX11_isDance_27 : decode cX11_isDance 27 = .ok (.iconst 0, 1) := by decide +kernel
theorem dX11_isDance_28 : decode cX11_isDance 28 = .ok (.ireturn, 1) := by decide +kernel
theorem dX11_why_0 : decode cX11_why 0 = .ok (.iload_n 1, 1) := by decide +kernel
theorem dX11_why_1 : decode cX11_why 1 = .ok (.ifCond .ne 7, 3) := by decide +kernel
theorem dX11_why_4 : decode cX11_why 4 = .ok (.iconst 1, 1) := by decide +kernel
theorem dX11_why_5 : decode cX11_why 5 = .ok (.goto 12, 3) := by decide +kernel
theorem dX11_why_8 : decode cX11_why 8 = .ok (.iload_n 2, 1) := by decide +kernel
theorem dX11_why_9 : decode cX11_why 9 = .ok (.ifCond .eq 7, 3) := by decide +kernel
theorem dX11_why_12 : decode cX11_why 12 = .ok (.iconst 0, 1) := by decide +kernel
theorem dX11_why_13 : decode cX11_why 13 = .ok (.goto 4, 3) := by decide +kernel
theorem dX11_why_16 : decode cX11_why 16 = .ok (.iconst 2, 1) := by decide +kernel
theorem dX11_why_17 : decode cX11_why 17 = .ok (.ireturn, 1) := by decide +kernel
theorem dX11_look_0 : decode cX11_look 0 = .ok (.aload_n 0, 1) := by decide +kernel
theorem dX11_look_1 : decode cX11_look 1 = .ok (.aload_n 0, 1) := by decide +kernel
theorem dX11_look_2 : decode cX11_look 2 = .ok (.getfield 26, 3) := by decide +kernel
theorem dX11_look_5 : decode cX11_look 5 = .ok (.iload_n 1, 1) := by decide +kernel
theorem dX11_look_6 : decode cX11_look 6 = .ok (.iaload, 1) := by decide +kernel
theorem dX11_look_7 : decode cX11_look 7 = .ok (.putfield 169, 3) := by decide +kernel
theorem dX11_look_10 : decode cX11_look 10 = .ok (.aload_n 0, 1) := by decide +kernel
theorem dX11_look_11 : decode cX11_look 11 = .ok (.aload_n 0, 1) := by decide +kernel
theorem dX11_look_12 : decode cX11_look 12 = .ok (.getfield 26, 3) := by decide +kernel
theorem dX11_look_15 : decode cX11_look 15 = .ok (.iconst 5, 1) := by decide +kernel
theorem dX11_look_16 : decode cX11_look 16 = .ok (.iload_n 1, 1) := by decide +kernel
theorem dX11_look_17 : decode cX11_look 17 = .ok (.iadd, 1) := by decide +kernel
theorem dX11_look_18 : decode cX11_look 18 = .ok (.iaload, 1) := by decide +kernel
theorem dX11_look_19 : decode cX11_look 19 = .ok (.putfield 172, 3) := by decide +kernel
theorem dX11_look_22 : decode cX11_look 22 = .ok (.return_, 1) := by decide +kernel
theorem dX11_figureOn_0 : decode cX11_figureOn 0 = .ok (.iload_n 1, 1) := by decide +kernel
theorem dX11_figureOn_1 : decode cX11_figureOn 1 = .ok (.iconst 2, 1) := by decide +kernel
theorem dX11_figureOn_2 : decode cX11_figureOn 2 = .ok (.if_icmp .ne 51, 3) := by decide +kernel
theorem dX11_figureOn_5 : decode cX11_figureOn 5 = .ok (.aload_n 0, 1) := by decide +kernel
theorem dX11_figureOn_6 : decode cX11_figureOn 6 = .ok (.getfield 169, 3) := by decide +kernel
theorem dX11_figureOn_9 : decode cX11_figureOn 9 = .ok (.istore_n 2, 1) := by decide +kernel
theorem dX11_figureOn_10 : decode cX11_figureOn 10 = .ok (.aload_n 0, 1) := by decide +kernel
theorem dX11_figureOn_11 : decode cX11_figureOn 11 = .ok (.iload_n 2, 1) := by decide +kernel
theorem dX11_figureOn_12 : decode cX11_figureOn 12 = .ok (.ifCond .ge 10, 3) := by decide +kernel
theorem dX11_figureOn_15 : decode cX11_figureOn 15 = .ok (.aload_n 0, 1) := by decide +kernel
theorem dX11_figureOn_16 : decode cX11_figureOn 16 = .ok (.getfield 172, 3) := by decide +kernel
theorem dX11_figureOn_19 : decode cX11_figureOn 19 = .ok (.goto 8, 3) := by decide +kernel
theorem dX11_figureOn_22 : decode cX11_figureOn 22 = .ok (.aload_n 0, 1) := by decide +kernel
theorem dX11_figureOn_23 : decode cX11_figureOn 23 = .ok (.getfield 172, 3) := by decide +kernel
theorem dX11_figureOn_26 : decode cX11_figureOn 26 = .ok (.ineg, 1) := by decide +kernel
theorem dX11_figureOn_27 : decode cX11_figureOn 27 = .ok (.putfield 169, 3) := by decide +kernel
theorem dX11_figureOn_30 : decode cX11_figureOn 30 = .ok (.aload_n 0, 1) := by decide +kernel
theorem dX11_figureOn_31 : decode cX11_figureOn 31 = .ok (.iload_n 2, 1) := by decide +kernel
theorem dX11_figureOn_32 : decode cX11_figureOn 32 = .ok (.invokestatic 60, 3) := by decide +kernel
theorem dX11_figureOn_35 : decode cX11_figureOn 35 = .ok (.putfield 172, 3) := by decide +kernel
theorem dX11_figureOn_38 : decode cX11_figureOn 38 = .ok (.aload_n 0, 1) := by decide +kernel
theorem dX11_figureOn_39 : decode cX11_figureOn 39 = .ok (.getfield 172, 3) := by decide +kernel
theorem dX11_figureOn_42 : decode cX11_figureOn 42 = .ok (.ifCond .ne 8, 3) := by decide +kernel
theorem dX11_figureOn_45 : decode cX11_figureOn 45 = .ok (.aload_n 0, 1) := by decide +kernel
theorem dX11_figureOn_46 : decode cX11_figureOn 46 = .ok (.iconst 1, 1) := by decide +kernel
theorem dX11_figureOn_47 : decode cX11_figureOn 47 = .ok (.putfield 169, 3) := by decide +kernel
theorem dX11_figureOn_50 : decode cX11_figureOn 50 = .ok (.goto 35, 3) := by decide +kernel
theorem dX11_figureOn_53 : decode cX11_figureOn 53 = .ok (.aload_n 0, 1) := by decide +kernel
theorem dX11_figureOn_54 : decode cX11_figureOn 54 = .ok (.getfield 172, 3) := by decide +kernel
theorem dX11_figureOn_57 : decode cX11_figureOn 57 = .ok (.ifCond .le 28, 3) := by decide +kernel
theorem dX11_figureOn_60 : decode cX11_figureOn 60 = .ok (.aload_n 0, 1) := by decide +kernel
theorem dX11_figureOn_61 : decode cX11_figureOn 61 = .ok (.dup, 1) := by decide +kernel
theorem dX11_figureOn_62 : decode cX11_figureOn 62 = .ok (.getfield 169, 3) := by decide +kernel
theorem dX11_figureOn_65 : decode cX11_figureOn 65 = .ok (.iload_n 1, 1) := by decide +kernel
theorem dX11_figureOn_66 : decode cX11_figureOn 66 = .ok (.ifCond .ne 10, 3) := by decide +kernel
theorem dX11_figureOn_69 : decode cX11_figureOn 69 = .ok (.aload_n 0, 1) := by decide +kernel
theorem dX11_figureOn_70 : decode cX11_figureOn 70 = .ok (.getfield 172, 3) := by decide +kernel
theorem dX11_figureOn_73 : decode cX11_figureOn 73 = .ok (.goto 8, 3) := by decide +kernel
theorem dX11_figureOn_76 : decode cX11_figureOn 76 = .ok (.aload_n 0, 1) := by decide +kernel
theorem dX11_figureOn_77 : decode cX11_figureOn 77 = .ok (.getfield 172, 3) := by decide +kernel
theorem dX11_figureOn_80 : decode cX11_figureOn 80 = .ok (.ineg, 1) := by decide +kernel
theorem dX11_figureOn_81 : decode cX11_figureOn 81 = .ok (.iadd, 1) := by decide +kernel
theorem dX11_figureOn_82 : decode cX11_figureOn 82 = .ok (.putfield 169, 3) := by decide +kernel
theorem dX11_figureOn_85 : decode cX11_figureOn 85 = .ok (.return_, 1) := by decide +kernel
theorem dX11_isNothing_0 : decode cX11_isNothing 0 = .ok (.aload_n 0, 1) := by decide +kernel
theorem dX11_isNothing_1 : decode cX11_isNothing 1 = .ok (.getfield 169, 3) := by decide +kernel
theorem dX11_isNothing_4 : decode cX11_isNothing 4 = .ok (.ifCond .ne 7, 3) := by decide +kernel
theorem dX11_isNothing_7 : decode cX11_isNothing 7 = .ok (.iconst 1, 1) := by decide +kernel
theorem dX11_isNothing_8 : decode cX11_isNothing 8 = .ok (.goto 4, 3) := by decide +kernel
theorem dX11_isNothing_11 : decode cX11_isNothing 11 = .ok (.iconst 0, 1) := by decide +kernel
theorem dX11_isNothing_12 : decode cX11_isNothing 12 = .ok (.ireturn, 1) := by decide +kernel
theorem dX11_isHigh_0 : decode cX11_isHigh 0 = .ok (.aload_n 0, 1) := by decide +kernel
theorem dX11_isHigh_1 : decode cX11_isHigh 1 = .ok (.getfield 169, 3) := by decide +kernel
theorem dX11_isHigh_4 : decode cX11_isHigh 4 = .ok (.invokestatic 60, 3) := by decide +kernel
theorem dX11_isHigh_7 : decode cX11_isHigh 7 = .ok (.sipush 9999, 3) := by decide +kernel
theorem dX11_isHigh_10 : decode cX11_isHigh 10 = .ok (.if_icmp .gt 13, 3) := by decide +kernel
theorem dX11_isHigh_13 : decode cX11_isHigh 13 = .ok (.aload_n 0, 1) := by decide +kernel
theorem dX11_isHigh_14 : decode cX11_isHigh 14 = .ok (.getfield 172, 3) := by decide +kernel
theorem dX11_isHigh_17 : decode cX11_isHigh 17 = .ok (.sipush 9999, 3) := by decide +kernel
theorem dX11_isHigh_20 : decode cX11_isHigh 20 = .ok (.if_icmp .le 7, 3) := by decide +kernel
theorem dX11_isHigh_23 : decode cX11_isHigh 23 = .ok (.iconst 1, 1) := by decide +kernel
theorem dX11_isHigh_24 : decode cX11_isHigh 24 = .ok (.goto 4, 3) := by decide +kernel
theorem dX11_isHigh_27 : decode cX11_isHigh 27 = .ok (.iconst 0, 1) := by decide +kernel
theorem dX11_isHigh_28 : decode cX11_isHigh 28 = .ok (.ireturn, 1) := by decide +kernel
theorem dX11_calls_0 : decode cX11_calls 0 = .ok (.aload_n 0, 1) := by decide +kernel
theorem dX11_calls_1 : decode cX11_calls 1 = .ok (.getfield 169, 3) := by decide +kernel
theorem dX11_calls_4 : decode cX11_calls 4 = .ok (.istore_n 2, 1) := by decide +kernel
theorem dX11_calls_5 : decode cX11_calls 5 = .ok (.aload_n 0, 1) := by decide +kernel
theorem dX11_calls_6 : decode cX11_calls 6 = .ok (.getfield 172, 3) := by decide +kernel
theorem dX11_calls_9 : decode cX11_calls 9 = .ok (.istore_n 3, 1) := by decide +kernel
theorem dX11_calls_10 : decode cX11_calls 10 = .ok (.aload_n 0, 1) := by decide +kernel
theorem dX11_calls_11 : decode cX11_calls 11 = .ok (.iload_n 1, 1) := by decide +kernel
theorem dX11_calls_12 : decode cX11_calls 12 = .ok (.invokevirtual 225, 3) := by decide +kernel
theorem dX11_calls_15 : decode cX11_calls 15 = .ok (.aload_n 0, 1) := by decide +kernel
theorem dX11_calls_16 : decode cX11_calls 16 = .ok (.invokevirtual 228, 3) := by decide +kernel
theorem dX11_calls_19 : decode cX11_calls 19 = .ok (.ifCond .ne 5, 3) := by decide +kernel
theorem dX11_calls_22 : decode cX11_calls 22 = .ok (.iconst 1, 1) := by decide +kernel
theorem dX11_calls_23 : decode cX11_calls 23 = .ok (.ireturn, 1) := by decide +kernel
theorem dX11_calls_24 : decode cX11_calls 24 = .ok (.aload_n 0, 1) := by decide +kernel
theorem dX11_calls_25 : decode cX11_calls 25 = .ok (.iload_n 2, 1) := by decide +kernel
theorem dX11_calls_26 : decode cX11_calls 26 = .ok (.putfield 169, 3) := by decide +kernel
theorem dX11_calls_29 : decode cX11_calls 29 = .ok (.aload_n 0, 1) := by decide +kernel
theorem dX11_calls_30 : decode cX11_calls 30 = .ok (.iload_n 3, 1) := by decide +kernel
theorem dX11_calls_31 : decode cX11_calls 31 = .ok (.putfield 172, 3) := by decide +kernel
theorem dX11_calls_34 : decode cX11_calls 34 = .ok (.iconst 0, 1) := by decide +kernel
theorem dX11_calls_35 : decode cX11_calls 35 = .ok (.ireturn, 1) := by decide +kernel
theorem dX11_dance_0 : decode cX11_dance 0 = .ok (.aload_n 0, 1) := by decide +kernel
theorem dX11_dance_1 : decode cX11_dance 1 = .ok (.iconst 0, 1) := by decide +kernel
theorem dX11_dance_2 : decode cX11_dance 2 = .ok (.putfield 169, 3) := by decide +kernel
theorem dX11_dance_5 : decode cX11_dance 5 = .ok (.aload_n 0, 1) := by decide +kernel
theorem dX11_dance_6 : decode cX11_dance 6 = .ok (.iconst 1, 1) := by decide +kernel
theorem dX11_dance_7 : decode cX11_dance 7 = .ok (.putfield 172, 3) := by decide +kernel
theorem dX11_dance_10 : decode cX11_dance 10 = .ok (.iconst 0, 1) := by decide +kernel
theorem dX11_dance_11 : decode cX11_dance 11 = .ok (.istore 5, 2) := by decide +kernel
theorem dX11_dance_13 : decode cX11_dance 13 = .ok (.iload 5, 2) := by decide +kernel
theorem dX11_dance_15 : decode cX11_dance 15 = .ok (.iload_n 2, 1) := by decide +kernel
theorem dX11_dance_16 : decode cX11_dance 16 = .ok (.if_icmp .ge 126, 3) := by decide +kernel
theorem dX11_dance_19 : decode cX11_dance 19 = .ok (.iload 4, 2) := by decide +kernel
theorem dX11_dance_21 : decode cX11_dance 21 = .ok (.iload 5, 2) := by decide +kernel
theorem dX11_dance_23 : decode cX11_dance 23 = .ok (.invokestatic 232, 3) := by decide +kernel
theorem dX11_dance_26 : decode cX11_dance 26 = .ok (.ifCond .ne 7, 3) := by decide +kernel
theorem dX11_dance_29 : decode cX11_dance 29 = .ok (.iconst 1, 1) := by decide +kernel
theorem dX11_dance_30 : decode cX11_dance 30 = .ok (.goto 4, 3) := by decide +kernel
theorem dX11_dance_33 : decode cX11_dance 33 = .ok (.iconst 0, 1) := by decide +kernel
theorem dX11_dance_34 : decode cX11_dance 34 = .ok (.istore 6, 2) := by decide +kernel
theorem dX11_dance_36 : decode cX11_dance 36 = .ok (.iconst 0, 1) := by decide +kernel
theorem dX11_dance_37 : decode cX11_dance 37 = .ok (.istore 7, 2) := by decide +kernel
theorem dX11_dance_39 : decode cX11_dance 39 = .ok (.iload 7, 2) := by decide +kernel
theorem dX11_dance_41 : decode cX11_dance 41 = .ok (.aload_n 0, 1) := by decide +kernel
theorem dX11_dance_42 : decode cX11_dance 42 = .ok (.getfield 20, 3) := by decide +kernel
theorem dX11_dance_45 : decode cX11_dance 45 = .ok (.iconst 2, 1) := by decide +kernel
theorem dX11_dance_46 : decode cX11_dance 46 = .ok (.iaload, 1) := by decide +kernel
theorem dX11_dance_47 : decode cX11_dance 47 = .ok (.if_icmp .ge 65, 3) := by decide +kernel
theorem dX11_dance_50 : decode cX11_dance 50 = .ok (.iload 6, 2) := by decide +kernel
theorem dX11_dance_52 : decode cX11_dance 52 = .ok (.ifCond .eq 51, 3) := by decide +kernel
theorem dX11_dance_55 : decode cX11_dance 55 = .ok (.iload_n 3, 1) := by decide +kernel
theorem dX11_dance_56 : decode cX11_dance 56 = .ok (.iload 7, 2) := by decide +kernel
theorem dX11_dance_58 : decode cX11_dance 58 = .ok (.invokestatic 232, 3) := by decide +kernel
theorem dX11_dance_61 : decode cX11_dance 61 = .ok (.ifCond .eq 38, 3) := by decide +kernel
theorem dX11_dance_64 : decode cX11_dance 64 = .ok (.aload_n 0, 1) := by decide +kernel
theorem dX11_dance_65 : decode cX11_dance 65 = .ok (.getfield 20, 3) := by decide +kernel
theorem dX11_dance_68 : decode cX11_dance 68 = .ok (.bipush 69, 2) := by decide +kernel
theorem dX11_dance_70 : decode cX11_dance 70 = .ok (.iconst 2, 1) := by decide +kernel
theorem dX11_dance_71 : decode cX11_dance 71 = .ok (.iload 7, 2) := by decide +kernel
theorem dX11_dance_73 : decode cX11_dance 73 = .ok (.imul, 1) := by decide +kernel
theorem dX11_dance_74 : decode cX11_dance 74 = .ok (.iadd, 1) := by decide +kernel
theorem dX11_dance_75 : decode cX11_dance 75 = .ok (.iaload, 1) := by decide +kernel
theorem dX11_dance_76 : decode cX11_dance 76 = .ok (.iload_n 1, 1) := by decide +kernel
theorem dX11_dance_77 : decode cX11_dance 77 = .ok (.if_icmp .ne 22, 3) := by decide +kernel
theorem dX11_dance_80 : decode cX11_dance 80 = .ok (.aload_n 0, 1) := by decide +kernel
theorem dX11_dance_81 : decode cX11_dance 81 = .ok (.getfield 20, 3) := by decide +kernel
theorem dX11_dance_84 : decode cX11_dance 84 = .ok (.bipush 69, 2) := by decide +kernel
theorem dX11_dance_86 : decode cX11_dance 86 = .ok (.iconst 2, 1) := by decide +kernel
theorem dX11_dance_87 : decode cX11_dance 87 = .ok (.iload 7, 2) := by decide +kernel
theorem dX11_dance_89 : decode cX11_dance 89 = .ok (.imul, 1) := by decide +kernel
theorem dX11_dance_90 : decode cX11_dance 90 = .ok (.iadd, 1) := by decide +kernel
theorem dX11_dance_91 : decode cX11_dance 91 = .ok (.iconst 1, 1) := by decide +kernel
theorem dX11_dance_92 : decode cX11_dance 92 = .ok (.iadd, 1) := by decide +kernel
theorem dX11_dance_93 : decode cX11_dance 93 = .ok (.iaload, 1) := by decide +kernel
theorem dX11_dance_94 : decode cX11_dance 94 = .ok (.iload 5, 2) := by decide +kernel
theorem dX11_dance_96 : decode cX11_dance 96 = .ok (.if_icmp .eq 7, 3) := by decide +kernel
theorem dX11_dance_99 : decode cX11_dance 99 = .ok (.iconst 1, 1) := by decide +kernel
theorem dX11_dance_100 : decode cX11_dance 100 = .ok (.goto 4, 3) := by decide +kernel
theorem dX11_dance_103 : decode cX11_dance 103 = .ok (.iconst 0, 1) := by decide +kernel
theorem dX11_dance_104 : decode cX11_dance 104 = .ok (.istore 6, 2) := by decide +kernel
theorem dX11_dance_106 : decode cX11_dance 106 = .ok (.iinc 7 1, 3) := by decide +kernel
theorem dX11_dance_109 : decode cX11_dance 109 = .ok (.goto (-70), 3) := by decide +kernel
theorem dX11_dance_112 : decode cX11_dance 112 = .ok (.iload 6, 2) := by decide +kernel
theorem dX11_dance_114 : decode cX11_dance 114 = .ok (.ifCond .eq 22, 3) := by decide +kernel
theorem dX11_dance_117 : decode cX11_dance 117 = .ok (.aload_n 0, 1) := by decide +kernel
theorem dX11_dance_118 : decode cX11_dance 118 = .ok (.aload_n 0, 1) := by decide +kernel
theorem dX11_dance_119 : decode cX11_dance 119 = .ok (.getfield 20, 3) := by decide +kernel
theorem dX11_dance_122 : decode cX11_dance 122 = .ok (.bipush 9, 2) := by decide +kernel
theorem dX11_dance_124 : decode cX11_dance 124 = .ok (.bipush 12, 2) := by decide +kernel
theorem dX11_dance_126 : decode cX11_dance 126 = .ok (.iload_n 1, 1) := by decide +kernel
theorem dX11_dance_127 : decode cX11_dance 127 = .ok (.imul, 1) := by decide +kernel
theorem dX11_dance_128 : decode cX11_dance 128 = .ok (.iadd, 1) := by decide +kernel
theorem dX11_dance_129 : decode cX11_dance 129 = .ok (.iload 5, 2) := by decide +kernel
theorem dX11_dance_131 : decode cX11_dance 131 = .ok (.iadd, 1) := by decide +kernel
theorem dX11_dance_132 : decode cX11_dance 132 = .ok (.iaload, 1) := by decide +kernel
theorem dX11_dance_133 : decode cX11_dance 133 = .ok (.invokevirtual 225, 3) := by decide +kernel
theorem dX11_dance_136 : decode cX11_dance 136 = .ok (.iinc 5 1, 3) := by decide +kernel
theorem dX11_dance_139 : decode cX11_dance 139 = .ok (.goto (-126), 3) := by decide +kernel
theorem dX11_dance_142 : decode cX11_dance 142 = .ok (.return_, 1) := by decide +kernel
theorem dX11_endOf_0 : decode cX11_endOf 0 = .ok (.aload_n 0, 1) := by decide +kernel
theorem dX11_endOf_1 : decode cX11_endOf 1 = .ok (.getfield 169, 3) := by decide +kernel
theorem dX11_endOf_4 : decode cX11_endOf 4 = .ok (.iconst 2, 1) := by decide +kernel
theorem dX11_endOf_5 : decode cX11_endOf 5 = .ok (.irem, 1) := by decide +kernel
theorem dX11_endOf_6 : decode cX11_endOf 6 = .ok (.ifCond .ne 9, 3) := by decide +kernel
theorem dX11_endOf_9 : decode cX11_endOf 9 = .ok (.iload_n 1, 1) := by decide +kernel
theorem dX11_endOf_10 : decode cX11_endOf 10 = .ok (.iconst 1, 1) := by decide +kernel
theorem dX11_endOf_11 : decode cX11_endOf 11 = .ok (.ixor, 1) := by decide +kernel
theorem dX11_endOf_12 : decode cX11_endOf 12 = .ok (.goto 21, 3) := by decide +kernel
theorem dX11_endOf_15 : decode cX11_endOf 15 = .ok (.aload_n 0, 1) := by decide +kernel
theorem dX11_endOf_16 : decode cX11_endOf 16 = .ok (.getfield 172, 3) := by decide +kernel
theorem dX11_endOf_19 : decode cX11_endOf 19 = .ok (.iconst 2, 1) := by decide +kernel
theorem dX11_endOf_20 : decode cX11_endOf 20 = .ok (.irem, 1) := by decide +kernel
theorem dX11_endOf_21 : decode cX11_endOf 21 = .ok (.ifCond .ne 9, 3) := by decide +kernel
theorem dX11_endOf_24 : decode cX11_endOf 24 = .ok (.iload_n 1, 1) := by decide +kernel
theorem dX11_endOf_25 : decode cX11_endOf 25 = .ok (.iconst 2, 1) := by decide +kernel
theorem dX11_endOf_26 : decode cX11_endOf 26 = .ok (.ixor, 1) := by decide +kernel
theorem dX11_endOf_27 : decode cX11_endOf 27 = .ok (.goto 6, 3) := by decide +kernel
theorem dX11_endOf_30 : decode cX11_endOf 30 = .ok (.iload_n 1, 1) := by decide +kernel
theorem dX11_endOf_31 : decode cX11_endOf 31 = .ok (.iconst 3, 1) := by decide +kernel
theorem dX11_endOf_32 : decode cX11_endOf 32 = .ok (.ixor, 1) := by decide +kernel
theorem dX11_endOf_33 : decode cX11_endOf 33 = .ok (.ireturn, 1) := by decide +kernel
theorem dX11_layParts_0 : decode cX11_layParts 0 = .ok (.aload_n 0, 1) := by decide +kernel
theorem dX11_layParts_1 : decode cX11_layParts 1 = .ok (.getfield 169, 3) := by decide +kernel
theorem dX11_layParts_4 : decode cX11_layParts 4 = .ok (.invokestatic 60, 3) := by decide +kernel
theorem dX11_layParts_7 : decode cX11_layParts 7 = .ok (.istore_n 1, 1) := by decide +kernel
theorem dX11_layParts_8 : decode cX11_layParts 8 = .ok (.aload_n 0, 1) := by decide +kernel
theorem dX11_layParts_9 : decode cX11_layParts 9 = .ok (.getfield 172, 3) := by decide +kernel
theorem dX11_layParts_12 : decode cX11_layParts 12 = .ok (.istore_n 2, 1) := by decide +kernel
theorem dX11_layParts_13 : decode cX11_layParts 13 = .ok (.iconst 0, 1) := by decide +kernel
theorem dX11_layParts_14 : decode cX11_layParts 14 = .ok (.istore_n 3, 1) := by decide +kernel
theorem dX11_layParts_15 : decode cX11_layParts 15 = .ok (.aload_n 0, 1) := by decide +kernel
theorem dX11_layParts_16 : decode cX11_layParts 16 = .ok (.iconst 0, 1) := by decide +kernel
theorem dX11_layParts_17 : decode cX11_layParts 17 = .ok (.putfield 236, 3) := by decide +kernel
theorem dX11_layParts_20 : decode cX11_layParts 20 = .ok (.iload_n 2, 1) := by decide +kernel
theorem dX11_layParts_21 : decode cX11_layParts 21 = .ok (.ifCond .le 44, 3) := by decide +kernel
theorem dX11_layParts_24 : decode cX11_layParts 24 = .ok (.aload_n 0, 1) := by decide +kernel
theorem dX11_layParts_25 : decode cX11_layParts 25 = .ok (.getfield 35, 3) := by decide +kernel
theorem dX11_layParts_28 : decode cX11_layParts 28 = .ok (.aload_n 0, 1) := by decide +kernel
theorem dX11_layParts_29 : decode cX11_layParts 29 = .ok (.getfield 236, 3) := by decide +kernel
theorem dX11_layParts_32 : decode cX11_layParts 32 = .ok (.iload_n 1, 1) := by decide +kernel
theorem dX11_layParts_33 : decode cX11_layParts 33 = .ok (.iload_n 2, 1) := by decide +kernel
theorem dX11_layParts_34 : decode cX11_layParts 34 = .ok (.idiv, 1) := by decide +kernel
theorem dX11_layParts_35 : decode cX11_layParts 35 = .ok (.iastore, 1) := by decide +kernel
theorem dX11_layParts_36 : decode cX11_layParts 36 = .ok (.iload_n 3, 1) := by decide +kernel
theorem dX11_layParts_37 : decode cX11_layParts 37 = .ok (.iload_n 1, 1) := by decide +kernel
theorem dX11_layParts_38 : decode cX11_layParts 38 = .ok (.iload_n 2, 1) := by decide +kernel
theorem dX11_layParts_39 : decode cX11_layParts 39 = .ok (.idiv, 1) := by decide +kernel
theorem dX11_layParts_40 : decode cX11_layParts 40 = .ok (.iadd, 1) := by decide +kernel
theorem dX11_layParts_41 : decode cX11_layParts 41 = .ok (.istore_n 3, 1) := by decide +kernel
theorem dX11_layParts_42 : decode cX11_layParts 42 = .ok (.aload_n 0, 1) := by decide +kernel
theorem dX11_layParts_43 : decode cX11_layParts 43 = .ok (.dup, 1) := by decide +kernel
theorem dX11_layParts_44 : decode cX11_layParts 44 = .ok (.getfield 236, 3) := by decide +kernel
theorem dX11_layParts_47 : decode cX11_layParts 47 = .ok (.iconst 1, 1) := by decide +kernel
theorem dX11_layParts_48 : decode cX11_layParts 48 = .ok (.iadd, 1) := by decide +kernel
theorem dX11_layParts_49 : decode cX11_layParts 49 = .ok (.putfield 236, 3) := by decide +kernel
theorem dX11_layParts_52 : decode cX11_layParts 52 = .ok (.iload_n 1, 1) := by decide +kernel
theorem dX11_layParts_53 : decode cX11_layParts 53 = .ok (.iload_n 2, 1) := by decide +kernel
theorem dX11_layParts_54 : decode cX11_layParts 54 = .ok (.irem, 1) := by decide +kernel
theorem dX11_layParts_55 : decode cX11_layParts 55 = .ok (.istore 4, 2) := by decide +kernel
theorem dX11_layParts_57 : decode cX11_layParts 57 = .ok (.iload_n 2, 1) := by decide +kernel
theorem dX11_layParts_58 : decode cX11_layParts 58 = .ok (.istore_n 1, 1) := by decide +kernel
theorem dX11_layParts_59 : decode cX11_layParts 59 = .ok (.iload 4, 2) := by decide +kernel
theorem dX11_layParts_61 : decode cX11_layParts 61 = .ok (.istore_n 2, 1) := by decide +kernel
theorem dX11_layParts_62 : decode cX11_layParts 62 = .ok (.goto (-42), 3) := by decide +kernel
theorem dX11_layParts_65 : decode cX11_layParts 65 = .ok (.iload_n 3, 1) := by decide +kernel
theorem dX11_layParts_66 : decode cX11_layParts 66 = .ok (.ireturn, 1) := by decide +kernel
theorem dX11_upper_0 : decode cX11_upper 0 = .ok (.aload_n 0, 1) := by decide +kernel
theorem dX11_upper_1 : decode cX11_upper 1 = .ok (.invokevirtual 147, 3) := by decide +kernel
theorem dX11_upper_4 : decode cX11_upper 4 = .ok (.aload_n 0, 1) := by decide +kernel
theorem dX11_upper_5 : decode cX11_upper 5 = .ok (.iload_n 1, 1) := by decide +kernel
theorem dX11_upper_6 : decode cX11_upper 6 = .ok (.invokevirtual 239, 3) := by decide +kernel
theorem dX11_upper_9 : decode cX11_upper 9 = .ok (.ifCond .eq 12, 3) := by decide +kernel
theorem dX11_upper_12 : decode cX11_upper 12 = .ok (.aload_n 0, 1) := by decide +kernel
theorem dX11_upper_13 : decode cX11_upper 13 = .ok (.getfield 26, 3) := by decide +kernel
theorem dX11_upper_16 : decode cX11_upper 16 = .ok (.iload_n 1, 1) := by decide +kernel
theorem dX11_upper_17 : decode cX11_upper 17 = .ok (.iaload, 1) := by decide +kernel
theorem dX11_upper_18 : decode cX11_upper 18 = .ok (.goto 8, 3) := by decide +kernel
theorem dX11_upper_21 : decode cX11_upper 21 = .ok (.aload_n 0, 1) := by decide +kernel
theorem dX11_upper_22 : decode cX11_upper 22 = .ok (.iconst 1, 1) := by decide +kernel
theorem dX11_upper_23 : decode cX11_upper 23 = .ok (.invokevirtual 242, 3) := by decide +kernel
theorem dX11_upper_26 : decode cX11_upper 26 = .ok (.ireturn, 1) := by decide +kernel
theorem dX11_lower_0 : decode cX11_lower 0 = .ok (.aload_n 0, 1) := by decide +kernel
theorem dX11_lower_1 : decode cX11_lower 1 = .ok (.invokevirtual 147, 3) := by decide +kernel
theorem dX11_lower_4 : decode cX11_lower 4 = .ok (.aload_n 0, 1) := by decide +kernel
theorem dX11_lower_5 : decode cX11_lower 5 = .ok (.iload_n 1, 1) := by decide +kernel
theorem dX11_lower_6 : decode cX11_lower 6 = .ok (.invokevirtual 239, 3) := by decide +kernel
theorem dX11_lower_9 : decode cX11_lower 9 = .ok (.ifCond .eq 14, 3) := by decide +kernel
theorem dX11_lower_12 : decode cX11_lower 12 = .ok (.aload_n 0, 1) := by decide +kernel
theorem dX11_lower_13 : decode cX11_lower 13 = .ok (.getfield 26, 3) := by decide +kernel
theorem dX11_lower_16 : decode cX11_lower 16 = .ok (.iconst 5, 1) := by decide +kernel
theorem dX11_lower_17 : decode cX11_lower 17 = .ok (.iload_n 1, 1) := by decide +kernel
theorem dX11_lower_18 : decode cX11_lower 18 = .ok (.iadd, 1) := by decide +kernel
theorem dX11_lower_19 : decode cX11_lower 19 = .ok (.iaload, 1) := by decide +kernel
theorem dX11_lower_20 : decode cX11_lower 20 = .ok (.goto 8, 3) := by decide +kernel
theorem dX11_lower_23 : decode cX11_lower 23 = .ok (.aload_n 0, 1) := by decide +kernel
theorem dX11_lower_24 : decode cX11_lower 24 = .ok (.iconst 1, 1) := by decide +kernel
theorem dX11_lower_25 : decode cX11_lower 25 = .ok (.invokevirtual 150, 3) := by decide +kernel
theorem dX11_lower_28 : decode cX11_lower 28 = .ok (.ireturn, 1) := by decide +kernel
theorem dX11_end_0 : decode cX11_end 0 = .ok (.aload_n 0, 1) := by decide +kernel
theorem dX11_end_1 : decode cX11_end 1 = .ok (.invokevirtual 147, 3) := by decide +kernel
theorem dX11_end_4 : decode cX11_end 4 = .ok (.aload_n 0, 1) := by decide +kernel
theorem dX11_end_5 : decode cX11_end 5 = .ok (.iload_n 1, 1) := by decide +kernel
theorem dX11_end_6 : decode cX11_end 6 = .ok (.invokevirtual 239, 3) := by decide +kernel
theorem dX11_end_9 : decode cX11_end 9 = .ok (.ifCond .eq 12, 3) := by decide +kernel
theorem dX11_end_12 : decode cX11_end 12 = .ok (.iload_n 2, 1) := by decide +kernel
theorem dX11_end_13 : decode cX11_end 13 = .ok (.iconst 0, 1) := by decide +kernel
theorem dX11_end_14 : decode cX11_end 14 = .ok (.iconst 3, 1) := by decide +kernel
theorem dX11_end_15 : decode cX11_end 15 = .ok (.invokestatic 143, 3) := by decide +kernel
theorem dX11_end_18 : decode cX11_end 18 = .ok (.ifCond .ne 9, 3) := by decide +kernel
theorem dX11_end_21 : decode cX11_end 21 = .ok (.aload_n 0, 1) := by decide +kernel
theorem dX11_end_22 : decode cX11_end 22 = .ok (.iconst 1, 1) := by decide +kernel
theorem dX11_end_23 : decode cX11_end 23 = .ok (.invokevirtual 150, 3) := by decide +kernel
theorem dX11_end_26 : decode cX11_end 26 = .ok (.ireturn, 1) := by decide +kernel
theorem dX11_end_27 : decode cX11_end 27 = .ok (.aload_n 0, 1) := by decide +kernel
theorem dX11_end_28 : decode cX11_end 28 = .ok (.iload_n 1, 1) := by decide +kernel
theorem dX11_end_29 : decode cX11_end 29 = .ok (.invokevirtual 245, 3) := by decide +kernel
theorem dX11_end_32 : decode cX11_end 32 = .ok (.aload_n 0, 1) := by decide +kernel
theorem dX11_end_33 : decode cX11_end 33 = .ok (.iload_n 2, 1) := by decide +kernel
theorem dX11_end_34 : decode cX11_end 34 = .ok (.invokevirtual 248, 3) := by decide +kernel
theorem dX11_end_37 : decode cX11_end 37 = .ok (.ireturn, 1) := by decide +kernel
theorem dX11_parts_0 : decode cX11_parts 0 = .ok (.aload_n 0, 1) := by decide +kernel
theorem dX11_parts_1 : decode cX11_parts 1 = .ok (.invokevirtual 147, 3) := by decide +kernel
theorem dX11_parts_4 : decode cX11_parts 4 = .ok (.aload_n 0, 1) := by decide +kernel
theorem dX11_parts_5 : decode cX11_parts 5 = .ok (.iload_n 1, 1) := by decide +kernel
theorem dX11_parts_6 : decode cX11_parts 6 = .ok (.invokevirtual 239, 3) := by decide +kernel
theorem dX11_parts_9 : decode cX11_parts 9 = .ok (.ifCond .ne 9, 3) := by decide +kernel
theorem dX11_parts_12 : decode cX11_parts 12 = .ok (.aload_n 0, 1) := by decide +kernel
theorem dX11_parts_13 : decode cX11_parts 13 = .ok (.iconst 1, 1) := by decide +kernel
theorem dX11_parts_14 : decode cX11_parts 14 = .ok (.invokevirtual 150, 3) := by decide +kernel
theorem dX11_parts_17 : decode cX11_parts 17 = .ok (.ireturn, 1) := by decide +kernel
theorem dX11_parts_18 : decode cX11_parts 18 = .ok (.aload_n 0, 1) := by decide +kernel
theorem dX11_parts_19 : decode cX11_parts 19 = .ok (.iload_n 1, 1) := by decide +kernel
theorem dX11_parts_20 : decode cX11_parts 20 = .ok (.invokevirtual 245, 3) := by decide +kernel
theorem dX11_parts_23 : decode cX11_parts 23 = .ok (.aload_n 0, 1) := by decide +kernel
theorem dX11_parts_24 : decode cX11_parts 24 = .ok (.invokevirtual 251, 3) := by decide +kernel
theorem dX11_parts_27 : decode cX11_parts 27 = .ok (.pop, 1) := by decide +kernel
theorem dX11_parts_28 : decode cX11_parts 28 = .ok (.aload_n 0, 1) := by decide +kernel
theorem dX11_parts_29 : decode cX11_parts 29 = .ok (.getfield 236, 3) := by decide +kernel
theorem dX11_parts_32 : decode cX11_parts 32 = .ok (.ireturn, 1) := by decide +kernel
theorem dX11_part_0 : decode cX11_part 0 = .ok (.aload_n 0, 1) := by decide +kernel
theorem dX11_part_1 : decode cX11_part 1 = .ok (.invokevirtual 147, 3) := by decide +kernel
theorem dX11_part_4 : decode cX11_part 4 = .ok (.aload_n 0, 1) := by decide +kernel
theorem dX11_part_5 : decode cX11_part 5 = .ok (.iload_n 1, 1) := by decide +kernel
theorem dX11_part_6 : decode cX11_part 6 = .ok (.invokevirtual 239, 3) := by decide +kernel
theorem dX11_part_9 : decode cX11_part 9 = .ok (.ifCond .ne 9, 3) := by decide +kernel
theorem dX11_part_12 : decode cX11_part 12 = .ok (.aload_n 0, 1) := by decide +kernel
theorem dX11_part_13 : decode cX11_part 13 = .ok (.iconst 1, 1) := by decide +kernel
theorem dX11_part_14 : decode cX11_part 14 = .ok (.invokevirtual 150, 3) := by decide +kernel
