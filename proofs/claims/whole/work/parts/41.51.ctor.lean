theorem dX0_init_0 : decode cX0_init 0 = .ok (.aload_n 0, 1) := by decide +kernel
theorem dX0_init_1 : decode cX0_init 1 = .ok (.invokespecial 1, 3) := by decide +kernel
theorem dX0_init_4 : decode cX0_init 4 = .ok (.aload_n 0, 1) := by decide +kernel
theorem dX0_init_5 : decode cX0_init 5 = .ok (.new 7, 3) := by decide +kernel
theorem dX0_init_8 : decode cX0_init 8 = .ok (.dup, 1) := by decide +kernel
theorem dX0_init_9 : decode cX0_init 9 = .ok (.invokespecial 9, 3) := by decide +kernel
theorem dX0_init_12 : decode cX0_init 12 = .ok (.putfield 10, 3) := by decide +kernel
theorem dX0_init_15 : decode cX0_init 15 = .ok (.return_, 1) := by decide +kernel
theorem dX1_init_0 : decode cX1_init 0 = .ok (.aload_n 0, 1) := by decide +kernel
theorem dX1_init_1 : decode cX1_init 1 = .ok (.invokespecial 1, 3) := by decide +kernel
theorem dX1_init_4 : decode cX1_init 4 = .ok (.aload_n 0, 1) := by decide +kernel
theorem dX1_init_5 : decode cX1_init 5 = .ok (.bipush 12, 2) := by decide +kernel
theorem dX1_init_7 : decode cX1_init 7 = .ok (.newarray .int, 2) := by decide +kernel
theorem dX1_init_9 : decode cX1_init 9 = .ok (.putfield 9, 3) := by decide +kernel
theorem dX1_init_12 : decode cX1_init 12 = .ok (.aload_n 0, 1) := by decide +kernel
theorem dX1_init_13 : decode cX1_init 13 = .ok (.new 15, 3) := by decide +kernel
theorem dX1_init_16 : decode cX1_init 16 = .ok (.dup, 1) := by decide +kernel
theorem dX1_init_17 : decode cX1_init 17 = .ok (.invokespecial 17, 3) := by decide +kernel
theorem dX1_init_20 : decode cX1_init 20 = .ok (.putfield 18, 3) := by decide +kernel
theorem dX1_init_23 : decode cX1_init 23 = .ok (.return_, 1) := by decide +kernel
theorem dX2_init_0 : decode cX2_init 0 = .ok (.aload_n 0, 1) := by decide +kernel
theorem dX2_init_1 : decode cX2_init 1 = .ok (.invokespecial 3, 3) := by decide +kernel
theorem dX2_init_4 : decode cX2_init 4 = .ok (.aload_n 0, 1) := by decide +kernel
theorem dX2_init_5 : decode cX2_init 5 = .ok (.iconst 5, 1) := by decide +kernel
theorem dX2_init_6 : decode cX2_init 6 = .ok (.anewarray 9, 3) := by decide +kernel
theorem dX2_init_9 : decode cX2_init 9 = .ok (.putfield 11, 3) := by decide +kernel
theorem dX2_init_12 : decode cX2_init 12 = .ok (.iconst 0, 1) := by decide +kernel
theorem dX2_init_13 : decode cX2_init 13 = .ok (.istore_n 1, 1) := by decide +kernel
theorem dX2_init_14 : decode cX2_init 14 = .ok (.iload_n 1, 1) := by decide +kernel
theorem dX2_init_15 : decode cX2_init 15 = .ok (.aload_n 0, 1) := by decide +kernel
theorem dX2_init_16 : decode cX2_init 16 = .ok (.getfield 11, 3) := by decide +kernel
theorem dX2_init_19 : decode cX2_init 19 = .ok (.arraylength, 1) := by decide +kernel
theorem dX2_init_20 : decode cX2_init 20 = .ok (.if_icmp .ge 22, 3) := by decide +kernel
theorem dX2_init_23 : decode cX2_init 23 = .ok (.aload_n 0, 1) := by decide +kernel
theorem dX2_init_24 : decode cX2_init 24 = .ok (.getfield 11, 3) := by decide +kernel
theorem dX2_init_27 : decode cX2_init 27 = .ok (.iload_n 1, 1) := by decide +kernel
theorem dX2_init_28 : decode cX2_init 28 = .ok (.new 9, 3) := by decide +kernel
theorem dX2_init_31 : decode cX2_init 31 = .ok (.dup, 1) := by decide +kernel
theorem dX2_init_32 : decode cX2_init 32 = .ok (.invokespecial 17, 3) := by decide +kernel
theorem dX2_init_35 : decode cX2_init 35 = .ok (.aastore, 1) := by decide +kernel
theorem dX2_init_36 : decode cX2_init 36 = .ok (.iinc 1 1, 3) := by decide +kernel
theorem dX2_init_39 : decode cX2_init 39 = .ok (.goto (-25), 3) := by decide +kernel
theorem dX2_init_42 : decode cX2_init 42 = .ok (.aload_n 0, 1) := by decide +kernel
theorem dX2_init_43 : decode cX2_init 43 = .ok (.iconst 4, 1) := by decide +kernel
theorem dX2_init_44 : decode cX2_init 44 = .ok (.newarray .int, 2) := by decide +kernel
theorem dX2_init_46 : decode cX2_init 46 = .ok (.putfield 18, 3) := by decide +kernel
theorem dX2_init_49 : decode cX2_init 49 = .ok (.aload_n 0, 1) := by decide +kernel
theorem dX2_init_50 : decode cX2_init 50 = .ok (.iconst 4, 1) := by decide +kernel
theorem dX2_init_51 : decode cX2_init 51 = .ok (.newarray .int, 2) := by decide +kernel
theorem dX2_init_53 : decode cX2_init 53 = .ok (.putfield 22, 3) := by decide +kernel
theorem dX2_init_56 : decode cX2_init 56 = .ok (.aload_n 0, 1) := by decide +kernel
theorem dX2_init_57 : decode cX2_init 57 = .ok (.bipush 6, 2) := by decide +kernel
theorem dX2_init_59 : decode cX2_init 59 = .ok (.newarray .int, 2) := by decide +kernel
theorem dX2_init_61 : decode cX2_init 61 = .ok (.putfield 25, 3) := by decide +kernel
theorem dX2_init_64 : decode cX2_init 64 = .ok (.aload_n 0, 1) := by decide +kernel
theorem dX2_init_65 : decode cX2_init 65 = .ok (.bipush 6, 2) := by decide +kernel
theorem dX2_init_67 : decode cX2_init 67 = .ok (.newarray .int, 2) := by decide +kernel
theorem dX2_init_69 : decode cX2_init 69 = .ok (.putfield 28, 3) := by decide +kernel
theorem dX2_init_72 : decode cX2_init 72 = .ok (.aload_n 0, 1) := by decide +kernel
theorem dX2_init_73 : decode cX2_init 73 = .ok (.bipush 6, 2) := by decide +kernel
theorem dX2_init_75 : decode cX2_init 75 = .ok (.newarray .int, 2) := by decide +kernel
theorem dX2_init_77 : decode cX2_init 77 = .ok (.putfield 31, 3) := by decide +kernel
theorem dX2_init_80 : decode cX2_init 80 = .ok (.aload_n 0, 1) := by decide +kernel
theorem dX2_init_81 : decode cX2_init 81 = .ok (.bipush 6, 2) := by decide +kernel
theorem dX2_init_83 : decode cX2_init 83 = .ok (.newarray .int, 2) := by decide +kernel
theorem dX2_init_85 : decode cX2_init 85 = .ok (.putfield 34, 3) := by decide +kernel
theorem dX2_init_88 : decode cX2_init 88 = .ok (.return_, 1) := by decide +kernel
theorem dX3_init_0 : decode cX3_init 0 = .ok (.aload_n 0, 1) := by decide +kernel
theorem dX3_init_1 : decode cX3_init 1 = .ok (.invokespecial 3, 3) := by decide +kernel
theorem dX3_init_4 : decode cX3_init 4 = .ok (.return_, 1) := by decide +kernel
theorem dX4_init_0 : decode cX4_init 0 = .ok (.aload_n 0, 1) := by decide +kernel
theorem dX4_init_1 : decode cX4_init 1 = .ok (.invokespecial 3, 3) := by decide +kernel
theorem dX4_init_4 : decode cX4_init 4 = .ok (.aload_n 0, 1) := by decide +kernel
theorem dX4_init_5 : decode cX4_init 5 = .ok (.bipush 16, 2) := by decide +kernel
theorem dX4_init_7 : decode cX4_init 7 = .ok (.newarray .int, 2) := by decide +kernel
theorem dX4_init_9 : decode cX4_init 9 = .ok (.putfield 11, 3) := by decide +kernel
theorem dX4_init_12 : decode cX4_init 12 = .ok (.aload_n 0, 1) := by decide +kernel
theorem dX4_init_13 : decode cX4_init 13 = .ok (.bipush 16, 2) := by decide +kernel
theorem dX4_init_15 : decode cX4_init 15 = .ok (.newarray .int, 2) := by decide +kernel
theorem dX4_init_17 : decode cX4_init 17 = .ok (.putfield 15, 3) := by decide +kernel
theorem dX4_init_20 : decode cX4_init 20 = .ok (.aload_n 0, 1) := by decide +kernel
theorem dX4_init_21 : decode cX4_init 21 = .ok (.bipush 16, 2) := by decide +kernel
theorem dX4_init_23 : decode cX4_init 23 = .ok (.newarray .int, 2) := by decide +kernel
theorem dX4_init_25 : decode cX4_init 25 = .ok (.putfield 18, 3) := by decide +kernel
theorem dX4_init_28 : decode cX4_init 28 = .ok (.aload_n 0, 1) := by decide +kernel
theorem dX4_init_29 : decode cX4_init 29 = .ok (.bipush 15, 2) := by decide +kernel
theorem dX4_init_31 : decode cX4_init 31 = .ok (.newarray .int, 2) := by decide +kernel
theorem dX4_init_33 : decode cX4_init 33 = .ok (.putfield 21, 3) := by decide +kernel
theorem dX4_init_36 : decode cX4_init 36 = .ok (.aload_n 0, 1) := by decide +kernel
theorem dX4_init_37 : decode cX4_init 37 = .ok (.bipush 15, 2) := by decide +kernel
theorem dX4_init_39 : decode cX4_init 39 = .ok (.newarray .int, 2) := by decide +kernel
theorem dX4_init_41 : decode cX4_init 41 = .ok (.putfield 24, 3) := by decide +kernel
theorem dX4_init_44 : decode cX4_init 44 = .ok (.return_, 1) := by decide +kernel
theorem dX5_init_0 : decode cX5_init 0 = .ok (.aload_n 0, 1) := by decide +kernel
theorem dX5_init_1 : decode cX5_init 1 = .ok (.invokespecial 3, 3) := by decide +kernel
theorem dX5_init_4 : decode cX5_init 4 = .ok (.return_, 1) := by decide +kernel
theorem dX7_init_0 : decode cX7_init 0 = .ok (.aload_n 0, 1) := by decide +kernel
theorem dX7_init_1 : decode cX7_init 1 = .ok (.invokespecial 3, 3) := by decide +kernel
theorem dX7_init_4 : decode cX7_init 4 = .ok (.aload_n 0, 1) := by decide +kernel
theorem dX7_init_5 : decode cX7_init 5 = .ok (.iconst 0, 1) := by decide +kernel
theorem dX7_init_6 : decode cX7_init 6 = .ok (.putfield 9, 3) := by decide +kernel
theorem dX7_init_9 : decode cX7_init 9 = .ok (.aload_n 0, 1) := by decide +kernel
theorem dX7_init_10 : decode cX7_init 10 = .ok (.iconst 1, 1) := by decide +kernel
theorem dX7_init_11 : decode cX7_init 11 = .ok (.putfield 15, 3) := by decide +kernel
theorem dX7_init_14 : decode cX7_init 14 = .ok (.return_, 1) := by decide +kernel
theorem dX8_init_0 : decode cX8_init 0 = .ok (.aload_n 0, 1) := by decide +kernel
theorem dX8_init_1 : decode cX8_init 1 = .ok (.invokespecial 3, 3) := by decide +kernel
theorem dX8_init_4 : decode cX8_init 4 = .ok (.aload_n 0, 1) := by decide +kernel
theorem dX8_init_5 : decode cX8_init 5 = .ok (.sipush 600, 3) := by decide +kernel
theorem dX8_init_8 : decode cX8_init 8 = .ok (.newarray .int, 2) := by decide +kernel
theorem dX8_init_10 : decode cX8_init 10 = .ok (.putfield 11, 3) := by decide +kernel
theorem dX8_init_13 : decode cX8_init 13 = .ok (.return_, 1) := by decide +kernel
theorem dX9_init_0 : decode cX9_init 0 = .ok (.aload_n 0, 1) := by decide +kernel
theorem dX9_init_1 : decode cX9_init 1 = .ok (.invokespecial 3, 3) := by decide +kernel
theorem dX9_init_4 : decode cX9_init 4 = .ok (.aload_n 0, 1) := by decide +kernel
theorem dX9_init_5 : decode cX9_init 5 = .ok (.sipush 128, 3) := by decide +kernel
theorem dX9_init_8 : decode cX9_init 8 = .ok (.newarray .int, 2) := by decide +kernel
theorem dX9_init_10 : decode cX9_init 10 = .ok (.putfield 11, 3) := by decide +kernel
theorem dX9_init_13 : decode cX9_init 13 = .ok (.aload_n 0, 1) := by decide +kernel
theorem dX9_init_14 : decode cX9_init 14 = .ok (.sipush 128, 3) := by decide +kernel
theorem dX9_init_17 : decode cX9_init 17 = .ok (.newarray .int, 2) := by decide +kernel
theorem dX9_init_19 : decode cX9_init 19 = .ok (.putfield 15, 3) := by decide +kernel
theorem dX9_init_22 : decode cX9_init 22 = .ok (.return_, 1) := by decide +kernel
theorem dX10_init_0 : decode cX10_init 0 = .ok (.aload_n 0, 1) := by decide +kernel
theorem dX10_init_1 : decode cX10_init 1 = .ok (.invokespecial 1, 3) := by decide +kernel
theorem dX10_init_4 : decode cX10_init 4 = .ok (.aload_n 0, 1) := by decide +kernel
theorem dX10_init_5 : decode cX10_init 5 = .ok (.new 7, 3) := by decide +kernel
theorem dX10_init_8 : decode cX10_init 8 = .ok (.dup, 1) := by decide +kernel
theorem dX10_init_9 : decode cX10_init 9 = .ok (.invokespecial 9, 3) := by decide +kernel
theorem dX10_init_12 : decode cX10_init 12 = .ok (.putfield 10, 3) := by decide +kernel
theorem dX10_init_15 : decode cX10_init 15 = .ok (.aload_n 0, 1) := by decide +kernel
theorem dX10_init_16 : decode cX10_init 16 = .ok (.new 16, 3) := by decide +kernel
theorem dX10_init_19 : decode cX10_init 19 = .ok (.dup, 1) := by decide +kernel
theorem dX10_init_20 : decode cX10_init 20 = .ok (.invokespecial 18, 3) := by decide +kernel
theorem dX10_init_23 : decode cX10_init 23 = .ok (.putfield 19, 3) := by decide +kernel
theorem dX10_init_26 : decode cX10_init 26 = .ok (.aload_n 0, 1) := by decide +kernel
theorem dX10_init_27 : decode cX10_init 27 = .ok (.new 16, 3) := by decide +kernel
theorem dX10_init_30 : decode cX10_init 30 = .ok (.dup, 1) := by decide +kernel
theorem dX10_init_31 : decode cX10_init 31 = .ok (.invokespecial 18, 3) := by decide +kernel
theorem dX10_init_34 : decode cX10_init 34 = .ok (.putfield 23, 3) := by decide +kernel
theorem dX10_init_37 : decode cX10_init 37 = .ok (.aload_n 0, 1) := by decide +kernel
theorem dX10_init_38 : decode cX10_init 38 = .ok (.new 26, 3) := by decide +kernel
theorem dX10_init_41 : decode cX10_init 41 = .ok (.dup, 1) := by decide +kernel
theorem dX10_init_42 : decode cX10_init 42 = .ok (.invokespecial 28, 3) := by decide +kernel
theorem dX10_init_45 : decode cX10_init 45 = .ok (.putfield 29, 3) := by decide +kernel
theorem dX10_init_48 : decode cX10_init 48 = .ok (.aload_n 0, 1) := by decide +kernel
theorem dX10_init_49 : decode cX10_init 49 = .ok (.new 33, 3) := by decide +kernel
theorem dX10_init_52 : decode cX10_init 52 = .ok (.dup, 1) := by decide +kernel
theorem dX10_init_53 : decode cX10_init 53 = .ok (.invokespecial 35, 3) := by decide +kernel
theorem dX10_init_56 : decode cX10_init 56 = .ok (.putfield 36, 3) := by decide +kernel
theorem dX10_init_59 : decode cX10_init 59 = .ok (.aload_n 0, 1) := by decide +kernel
theorem dX10_init_60 : decode cX10_init 60 = .ok (.new 40, 3) := by decide +kernel
theorem dX10_init_63 : decode cX10_init 63 = .ok (.dup, 1) := by decide +kernel
theorem dX10_init_64 : decode cX10_init 64 = .ok (.invokespecial 42, 3) := by decide +kernel
theorem dX10_init_67 : decode cX10_init 67 = .ok (.putfield 43, 3) := by decide +kernel
theorem dX10_init_70 : decode cX10_init 70 = .ok (.aload_n 0, 1) := by decide +kernel
theorem dX10_init_71 : decode cX10_init 71 = .ok (.new 40, 3) := by decide +kernel
theorem dX10_init_74 : decode cX10_init 74 = .ok (.dup, 1) := by decide +kernel
theorem dX10_init_75 : decode cX10_init 75 = .ok (.invokespecial 42, 3) := by decide +kernel
theorem dX10_init_78 : decode cX10_init 78 = .ok (.putfield 47, 3) := by decide +kernel
theorem dX10_init_81 : decode cX10_init 81 = .ok (.aload_n 0, 1) := by decide +kernel
theorem dX10_init_82 : decode cX10_init 82 = .ok (.new 50, 3) := by decide +kernel
theorem dX10_init_85 : decode cX10_init 85 = .ok (.dup, 1) := by decide +kernel
theorem dX10_init_86 : decode cX10_init 86 = .ok (.invokespecial 52, 3) := by decide +kernel
theorem dX10_init_89 : decode cX10_init 89 = .ok (.putfield 53, 3) := by decide +kernel
theorem dX10_init_92 : decode cX10_init 92 = .ok (.aload_n 0, 1) := by decide +kernel
theorem dX10_init_93 : decode cX10_init 93 = .ok (.new 57, 3) := by decide +kernel
theorem dX10_init_96 : decode cX10_init 96 = .ok (.dup, 1) := by decide +kernel
theorem dX10_init_97 : decode cX10_init 97 = .ok (.invokespecial 59, 3) := by decide +kernel
theorem dX10_init_100 : decode cX10_init 100 = .ok (.putfield 60, 3) := by decide +kernel
theorem dX10_init_103 : decode cX10_init 103 = .ok (.aload_n 0, 1) := by decide +kernel
theorem dX10_init_104 : decode cX10_init 104 = .ok (.new 64, 3) := by decide +kernel
theorem dX10_init_107 : decode cX10_init 107 = .ok (.dup, 1) := by decide +kernel
theorem dX10_init_108 : decode cX10_init 108 = .ok (.invokespecial 66, 3) := by decide +kernel
theorem dX10_init_111 : decode cX10_init 111 = .ok (.putfield 67, 3) := by decide +kernel
theorem dX10_init_114 : decode cX10_init 114 = .ok (.return_, 1) := by decide +kernel
theorem dX11_init_0 : decode cX11_init 0 = .ok (.aload_n 0, 1) := by decide +kernel
theorem dX11_init_1 : decode cX11_init 1 = .ok (.invokespecial 1, 3) := by decide +kernel
theorem dX11_init_4 : decode cX11_init 4 = .ok (.aload_n 0, 1) := by decide +kernel
theorem dX11_init_5 : decode cX11_init 5 = .ok (.sipush 600, 3) := by decide +kernel
theorem dX11_init_8 : decode cX11_init 8 = .ok (.newarray .int, 2) := by decide +kernel
theorem dX11_init_10 : decode cX11_init 10 = .ok (.putfield 7, 3) := by decide +kernel
theorem dX11_init_13 : decode cX11_init 13 = .ok (.aload_n 0, 1) := by decide +kernel
theorem dX11_init_14 : decode cX11_init 14 = .ok (.iconst (-1), 1) := by decide +kernel
theorem dX11_init_15 : decode cX11_init 15 = .ok (.putfield 13, 3) := by decide +kernel
theorem dX11_init_18 : decode cX11_init 18 = .ok (.aload_n 0, 1) := by decide +kernel
theorem dX11_init_19 : decode cX11_init 19 = .ok (.bipush 12, 2) := by decide +kernel
theorem dX11_init_21 : decode cX11_init 21 = .ok (.newarray .int, 2) := by decide +kernel
theorem dX11_init_23 : decode cX11_init 23 = .ok (.putfield 17, 3) := by decide +kernel
theorem dX11_init_26 : decode cX11_init 26 = .ok (.aload_n 0, 1) := by decide +kernel
theorem dX11_init_27 : decode cX11_init 27 = .ok (.sipush 146, 3) := by decide +kernel
theorem dX11_init_30 : decode cX11_init 30 = .ok (.newarray .int, 2) := by decide +kernel
theorem dX11_init_32 : decode cX11_init 32 = .ok (.putfield 20, 3) := by decide +kernel
theorem dX11_init_35 : decode cX11_init 35 = .ok (.aload_n 0, 1) := by decide +kernel
theorem dX11_init_36 : decode cX11_init 36 = .ok (.sipush 146, 3) := by decide +kernel
theorem dX11_init_39 : decode cX11_init 39 = .ok (.newarray .int, 2) := by decide +kernel
theorem dX11_init_41 : decode cX11_init 41 = .ok (.putfield 23, 3) := by decide +kernel
theorem dX11_init_44 : decode cX11_init 44 = .ok (.aload_n 0, 1) := by decide +kernel
theorem dX11_init_45 : decode cX11_init 45 = .ok (.bipush 10, 2) := by decide +kernel
theorem dX11_init_47 : decode cX11_init 47 = .ok (.newarray .int, 2) := by decide +kernel
theorem dX11_init_49 : decode cX11_init 49 = .ok (.putfield 26, 3) := by decide +kernel
theorem dX11_init_52 : decode cX11_init 52 = .ok (.aload_n 0, 1) := by decide +kernel
theorem dX11_init_53 : decode cX11_init 53 = .ok (.sipush 160, 3) := by decide +kernel
theorem dX11_init_56 : decode cX11_init 56 = .ok (.newarray .int, 2) := by decide +kernel
theorem dX11_init_58 : decode cX11_init 58 = .ok (.putfield 29, 3) := by decide +kernel
theorem dX11_init_61 : decode cX11_init 61 = .ok (.aload_n 0, 1) := by decide +kernel
theorem dX11_init_62 : decode cX11_init 62 = .ok (.bipush 30, 2) := by decide +kernel
theorem dX11_init_64 : decode cX11_init 64 = .ok (.newarray .int, 2) := by decide +kernel
theorem dX11_init_66 : decode cX11_init 66 = .ok (.putfield 32, 3) := by decide +kernel
theorem dX11_init_69 : decode cX11_init 69 = .ok (.aload_n 0, 1) := by decide +kernel
theorem dX11_init_70 : decode cX11_init 70 = .ok (.bipush 40, 2) := by decide +kernel
theorem dX11_init_72 : decode cX11_init 72 = .ok (.newarray .int, 2) := by decide +kernel
theorem dX11_init_74 : decode cX11_init 74 = .ok (.putfield 35, 3) := by decide +kernel
theorem dX11_init_77 : decode cX11_init 77 = .ok (.aload_n 0, 1) := by decide +kernel
theorem dX11_init_78 : decode cX11_init 78 = .ok (.iconst 4, 1) := by decide +kernel
theorem dX11_init_79 : decode cX11_init 79 = .ok (.newarray .int, 2) := by decide +kernel
theorem dX11_init_81 : decode cX11_init 81 = .ok (.putfield 38, 3) := by decide +kernel
theorem dX11_init_84 : decode cX11_init 84 = .ok (.aload_n 0, 1) := by decide +kernel
theorem dX11_init_85 : decode cX11_init 85 = .ok (.iconst 4, 1) := by decide +kernel
theorem dX11_init_86 : decode cX11_init 86 = .ok (.newarray .int, 2) := by decide +kernel
theorem dX11_init_88 : decode cX11_init 88 = .ok (.putfield 41, 3) := by decide +kernel
theorem dX11_init_91 : decode cX11_init 91 = .ok (.aload_n 0, 1) := by decide +kernel
theorem dX11_init_92 : decode cX11_init 92 = .ok (.sipush 3280, 3) := by decide +kernel
theorem dX11_init_95 : decode cX11_init 95 = .ok (.newarray .int, 2) := by decide +kernel
theorem dX11_init_97 : decode cX11_init 97 = .ok (.putfield 44, 3) := by decide +kernel
theorem dX11_init_100 : decode cX11_init 100 = .ok (.aload_n 0, 1) := by decide +kernel
theorem dX11_init_101 : decode cX11_init 101 = .ok (.sipush 3280, 3) := by decide +kernel
theorem dX11_init_104 : decode cX11_init 104 = .ok (.newarray .int, 2) := by decide +kernel
theorem dX11_init_106 : decode cX11_init 106 = .ok (.putfield 47, 3) := by decide +kernel
theorem dX11_init_109 : decode cX11_init 109 = .ok (.aload_n 0, 1) := by decide +kernel
theorem dX11_init_110 : decode cX11_init 110 = .ok (.iconst 4, 1) := by decide +kernel
theorem dX11_init_111 : decode cX11_init 111 = .ok (.newarray .int, 2) := by decide +kernel
theorem dX11_init_113 : decode cX11_init 113 = .ok (.putfield 50, 3) := by decide +kernel
theorem dX11_init_116 : decode cX11_init 116 = .ok (.return_, 1) := by decide +kernel
theorem oI : Cond.instanceMethod Lib.objectInit ∈ TBL := inT 29 (by decide +kernel) rfl
theorem oC : Cond.code Lib.objectInit ⟨#[0xb1]⟩ 1 none ∈ TBL := inT 30 (by decide +kernel) rfl
abbrev mX0_init : Mth := (yX0_init, cX0_init, 1, none, 2)
abbrev mX1_init : Mth := (yX1_init, cX1_init, 1, none, 2)
abbrev mX2_init : Mth := (yX2_init, cX2_init, 2, none, 3)
abbrev mX3_init : Mth := (yX3_init, cX3_init, 1, none, 1)
abbrev mX4_init : Mth := (yX4_init, cX4_init, 1, none, 1)
abbrev mX5_init : Mth := (yX5_init, cX5_init, 1, none, 1)
abbrev mX7_init : Mth := (yX7_init, cX7_init, 1, none, 1)
abbrev mX8_init : Mth := (yX8_init, cX8_init, 1, none, 1)
abbrev mX9_init : Mth := (yX9_init, cX9_init, 1, none, 1)
abbrev mX10_init : Mth := (yX10_init, cX10_init, 1, none, 4)
abbrev mX11_init : Mth := (yX11_init, cX11_init, 1, none, 1)
theorem olX7_3 : Cond.methodLink RX7 3 Lib.objectInit ∈ TBL := inT 93 (by decide +kernel) rfl
theorem olX8_3 : Cond.methodLink RX8 3 Lib.objectInit ∈ TBL := inT 36 (by decide +kernel) rfl
theorem fpX8_0 : FPut 7 0 3 ∨ FFin 7 0 3 ∧ (∃ q, vwCl[7]? = some q ∧ (q.2.1 0).1 = RX8 ∧ Cond.fieldLink RX8 11 (q.2.1 0).1 (q.2.1 0).2.1 (q.2.1 0).2.2.1 ∈ TBL) := Or.inr ⟨⟨RX8, TX8, 11, tyX8, rfl, tyX8_ok, nmX8, rfl, Or.inr ⟨_, rfl⟩⟩, _, rfl, rfl, inT 37 (by decide +kernel) rfl⟩
theorem olX4_3 : Cond.methodLink RX4 3 Lib.objectInit ∈ TBL := inT 184 (by decide +kernel) rfl
theorem fpX4_0 : FPut 4 0 3 ∨ FFin 4 0 3 ∧ (∃ q, vwCl[4]? = some q ∧ (q.2.1 0).1 = RX4 ∧ Cond.fieldLink RX4 11 (q.2.1 0).1 (q.2.1 0).2.1 (q.2.1 0).2.2.1 ∈ TBL) := Or.inr ⟨⟨RX4, TX4, 7, tyX4, rfl, tyX4_ok, nmX4, rfl, Or.inr ⟨_, rfl⟩⟩, _, rfl, rfl, inT 185 (by decide +kernel) rfl⟩
theorem fpX4_1 : FPut 4 1 3 ∨ FFin 4 1 3 ∧ (∃ q, vwCl[4]? = some q ∧ (q.2.1 1).1 = RX4 ∧ Cond.fieldLink RX4 15 (q.2.1 1).1 (q.2.1 1).2.1 (q.2.1 1).2.2.1 ∈ TBL) := Or.inr ⟨⟨RX4, TX4, 7, tyX4, rfl, tyX4_ok, nmX4, rfl, Or.inr ⟨_, rfl⟩⟩, _, rfl, rfl, inT 186 (by decide +kernel) rfl⟩
theorem fpX4_2 : FPut 4 2 3 ∨ FFin 4 2 3 ∧ (∃ q, vwCl[4]? = some q ∧ (q.2.1 2).1 = RX4 ∧ Cond.fieldLink RX4 18 (q.2.1 2).1 (q.2.1 2).2.1 (q.2.1 2).2.2.1 ∈ TBL) := Or.inr ⟨⟨RX4, TX4, 7, tyX4, rfl, tyX4_ok, nmX4, rfl, Or.inr ⟨_, rfl⟩⟩, _, rfl, rfl, inT 187 (by decide +kernel) rfl⟩
theorem fpX4_4 : FPut 4 4 3 ∨ FFin 4 4 3 ∧ (∃ q, vwCl[4]? = some q ∧ (q.2.1 4).1 = RX4 ∧ Cond.fieldLink RX4 21 (q.2.1 4).1 (q.2.1 4).2.1 (q.2.1 4).2.2.1 ∈ TBL) := Or.inr ⟨⟨RX4, TX4, 7, tyX4, rfl, tyX4_ok, nmX4, rfl, Or.inr ⟨_, rfl⟩⟩, _, rfl, rfl, inT 190 (by decide +kernel) rfl⟩
theorem fpX4_5 : FPut 4 5 3 ∨ FFin 4 5 3 ∧ (∃ q, vwCl[4]? = some q ∧ (q.2.1 5).1 = RX4 ∧ Cond.fieldLink RX4 24 (q.2.1 5).1 (q.2.1 5).2.1 (q.2.1 5).2.2.1 ∈ TBL) := Or.inr ⟨⟨RX4, TX4, 7, tyX4, rfl, tyX4_ok, nmX4, rfl, Or.inr ⟨_, rfl⟩⟩, _, rfl, rfl, inT 191 (by decide +kernel) rfl⟩
theorem olX5_3 : Cond.methodLink RX5 3 Lib.objectInit ∈ TBL := inT 216 (by decide +kernel) rfl
theorem olX3_3 : Cond.methodLink RX3 3 Lib.objectInit ∈ TBL := inT 253 (by decide +kernel) rfl
theorem olX9_3 : Cond.methodLink RX9 3 Lib.objectInit ∈ TBL := inT 237 (by decide +kernel) rfl
theorem fpX9_0 : FPut 8 0 3 ∨ FFin 8 0 3 ∧ (∃ q, vwCl[8]? = some q ∧ (q.2.1 0).1 = RX9 ∧ Cond.fieldLink RX9 11 (q.2.1 0).1 (q.2.1 0).2.1 (q.2.1 0).2.2.1 ∈ TBL) := Or.inr ⟨⟨RX9, TX9, 3, tyX9, rfl, tyX9_ok, nmX9, rfl, Or.inr ⟨_, rfl⟩⟩, _, rfl, rfl, inT 238 (by decide +kernel) rfl⟩
theorem fpX9_1 : FPut 8 1 3 ∨ FFin 8 1 3 ∧ (∃ q, vwCl[8]? = some q ∧ (q.2.1 1).1 = RX9 ∧ Cond.fieldLink RX9 15 (q.2.1 1).1 (q.2.1 1).2.1 (q.2.1 1).2.2.1 ∈ TBL) := Or.inr ⟨⟨RX9, TX9, 3, tyX9, rfl, tyX9_ok, nmX9, rfl, Or.inr ⟨_, rfl⟩⟩, _, rfl, rfl, inT 239 (by decide +kernel) rfl⟩
theorem olX0_1 : Cond.methodLink RX0 1 Lib.objectInit ∈ TBL := inT 268 (by decide +kernel) rfl
theorem cnX0_7 : CNew RX0 7 6 RX7 TX7 2 := ⟨rfl, uX7, ⟨tyX7, tyX7_ok, fun k hk => by
    match k, hk with
    | 0, _ => exact ⟨0, rfl, rfl⟩
    | 1, _ => exact ⟨0, rfl, rfl⟩
    | k + 2, hk => exact absurd hk (by omega)⟩, inT 269 (by decide +kernel) rfl, inT 89 (by decide +kernel) rfl, inT 5 (by decide +kernel) rfl⟩
theorem kiX0_9 : CAt RX0 9 mX7_init 0 := ⟨Or.inl (inT 270 (by decide +kernel) rfl), inT 92 (by decide +kernel) rfl, inT 5 (by decide +kernel) rfl, ⟨by decide +kernel, by decide +kernel⟩, by decide +kernel, Nat.le_of_ble_eq_true rfl⟩
theorem iiX7_init : Cond.instanceMethod mX7_init.1 ∈ TBL := inT 91 (by decide +kernel) rfl
theorem fpX0_0 : FPut 0 0 3 ∨ FFin 0 0 3 ∧ (∃ q, vwCl[0]? = some q ∧ (q.2.1 0).1 = RX0 ∧ Cond.fieldLink RX0 10 (q.2.1 0).1 (q.2.1 0).2.1 (q.2.1 0).2.2.1 ∈ TBL) := Or.inr ⟨⟨RX0, TX0, 4, tyX0, rfl, tyX0_ok, nmX0, rfl, Or.inl ⟨_, rfl⟩⟩, _, rfl, rfl, inT 271 (by decide +kernel) rfl⟩
theorem olX1_1 : Cond.methodLink RX1 1 Lib.objectInit ∈ TBL := inT 87 (by decide +kernel) rfl
theorem fpX1_0 : FPut 1 0 3 ∨ FFin 1 0 3 ∧ (∃ q, vwCl[1]? = some q ∧ (q.2.1 0).1 = RX1 ∧ Cond.fieldLink RX1 9 (q.2.1 0).1 (q.2.1 0).2.1 (q.2.1 0).2.2.1 ∈ TBL) := Or.inr ⟨⟨RX1, TX1, 5, tyX1, rfl, tyX1_ok, nmX1, rfl, Or.inr ⟨_, rfl⟩⟩, _, rfl, rfl, inT 113 (by decide +kernel) rfl⟩
theorem cnX1_15 : CNew RX1 15 6 RX7 TX7 2 := ⟨rfl, uX7, ⟨tyX7, tyX7_ok, fun k hk => by
    match k, hk with
    | 0, _ => exact ⟨0, rfl, rfl⟩
    | 1, _ => exact ⟨0, rfl, rfl⟩
    | k + 2, hk => exact absurd hk (by omega)⟩, inT 88 (by decide +kernel) rfl, inT 89 (by decide +kernel) rfl, inT 5 (by decide +kernel) rfl⟩
theorem kiX1_17 : CAt RX1 17 mX7_init 0 := ⟨Or.inl (inT 90 (by decide +kernel) rfl), inT 92 (by decide +kernel) rfl, inT 5 (by decide +kernel) rfl, ⟨by decide +kernel, by decide +kernel⟩, by decide +kernel, Nat.le_of_ble_eq_true rfl⟩
theorem fX1_18 : FAt RX1 18 1 4 3 := ⟨RX1, TX1, 5, rfl, Nat.le_of_ble_eq_true rfl, uX1, rfl, Or.inl (inT 121 (by decide +kernel) rfl)⟩
theorem fpX1_4 : FPut 1 4 3 ∨ FFin 1 4 3 ∧ (∃ q, vwCl[1]? = some q ∧ (q.2.1 4).1 = RX1 ∧ Cond.fieldLink RX1 18 (q.2.1 4).1 (q.2.1 4).2.1 (q.2.1 4).2.2.1 ∈ TBL) := Or.inr ⟨⟨RX1, TX1, 5, tyX1, rfl, tyX1_ok, nmX1, rfl, Or.inl ⟨_, rfl⟩⟩, _, rfl, rfl, inT 121 (by decide +kernel) rfl⟩
theorem olX2_3 : Cond.methodLink RX2 3 Lib.objectInit ∈ TBL := inT 80 (by decide +kernel) rfl
theorem cqX2_9 : Cond.classLink RX2 9 RX1 ∈ TBL := inT 81 (by decide +kernel) rfl
theorem fpX2_1 : FPut 2 1 3 ∨ FFin 2 1 3 ∧ (∃ q, vwCl[2]? = some q ∧ (q.2.1 1).1 = RX2 ∧ Cond.fieldLink RX2 11 (q.2.1 1).1 (q.2.1 1).2.1 (q.2.1 1).2.2.1 ∈ TBL) := Or.inr ⟨⟨RX2, TX2, 11, tyX2, rfl, tyX2_ok, nmX2, rfl, Or.inr ⟨_, rfl⟩⟩, _, rfl, rfl, inT 139 (by decide +kernel) rfl⟩
theorem cnX2_9 : CNew RX2 9 1 RX1 TX1 5 := ⟨rfl, uX1, ⟨tyX1, tyX1_ok, fun k hk => by
    match k, hk with
    | 0, _ => exact ⟨3, rfl, Or.inr ⟨_, rfl⟩⟩
    | 1, _ => exact ⟨0, rfl, rfl⟩
    | 2, _ => exact ⟨0, rfl, rfl⟩
    | 3, _ => exact ⟨0, rfl, rfl⟩
    | 4, _ => exact ⟨3, rfl, Or.inl ⟨_, rfl⟩⟩
    | k + 5, hk => exact absurd hk (by omega)⟩, inT 81 (by decide +kernel) rfl, inT 83 (by decide +kernel) rfl, inT 4 (by decide +kernel) rfl⟩
theorem kiX2_17 : CAt RX2 17 mX1_init 0 := ⟨Or.inl (inT 84 (by decide +kernel) rfl), inT 86 (by decide +kernel) rfl, inT 4 (by decide +kernel) rfl, ⟨by decide +kernel, by decide +kernel⟩, by decide +kernel, Nat.le_of_ble_eq_true rfl⟩
theorem iiX1_init : Cond.instanceMethod mX1_init.1 ∈ TBL := inT 85 (by decide +kernel) rfl
theorem fpX2_3 : FPut 2 3 3 ∨ FFin 2 3 3 ∧ (∃ q, vwCl[2]? = some q ∧ (q.2.1 3).1 = RX2 ∧ Cond.fieldLink RX2 18 (q.2.1 3).1 (q.2.1 3).2.1 (q.2.1 3).2.2.1 ∈ TBL) := Or.inr ⟨⟨RX2, TX2, 11, tyX2, rfl, tyX2_ok, nmX2, rfl, Or.inr ⟨_, rfl⟩⟩, _, rfl, rfl, inT 144 (by decide +kernel) rfl⟩
theorem fpX2_4 : FPut 2 4 3 ∨ FFin 2 4 3 ∧ (∃ q, vwCl[2]? = some q ∧ (q.2.1 4).1 = RX2 ∧ Cond.fieldLink RX2 22 (q.2.1 4).1 (q.2.1 4).2.1 (q.2.1 4).2.2.1 ∈ TBL) := Or.inr ⟨⟨RX2, TX2, 11, tyX2, rfl, tyX2_ok, nmX2, rfl, Or.inr ⟨_, rfl⟩⟩, _, rfl, rfl, inT 145 (by decide +kernel) rfl⟩
theorem fpX2_6 : FPut 2 6 3 ∨ FFin 2 6 3 ∧ (∃ q, vwCl[2]? = some q ∧ (q.2.1 6).1 = RX2 ∧ Cond.fieldLink RX2 25 (q.2.1 6).1 (q.2.1 6).2.1 (q.2.1 6).2.2.1 ∈ TBL) := Or.inr ⟨⟨RX2, TX2, 11, tyX2, rfl, tyX2_ok, nmX2, rfl, Or.inr ⟨_, rfl⟩⟩, _, rfl, rfl, inT 149 (by decide +kernel) rfl⟩
theorem fpX2_7 : FPut 2 7 3 ∨ FFin 2 7 3 ∧ (∃ q, vwCl[2]? = some q ∧ (q.2.1 7).1 = RX2 ∧ Cond.fieldLink RX2 28 (q.2.1 7).1 (q.2.1 7).2.1 (q.2.1 7).2.2.1 ∈ TBL) := Or.inr ⟨⟨RX2, TX2, 11, tyX2, rfl, tyX2_ok, nmX2, rfl, Or.inr ⟨_, rfl⟩⟩, _, rfl, rfl, inT 150 (by decide +kernel) rfl⟩
theorem fpX2_8 : FPut 2 8 3 ∨ FFin 2 8 3 ∧ (∃ q, vwCl[2]? = some q ∧ (q.2.1 8).1 = RX2 ∧ Cond.fieldLink RX2 31 (q.2.1 8).1 (q.2.1 8).2.1 (q.2.1 8).2.2.1 ∈ TBL) := Or.inr ⟨⟨RX2, TX2, 11, tyX2, rfl, tyX2_ok, nmX2, rfl, Or.inr ⟨_, rfl⟩⟩, _, rfl, rfl, inT 151 (by decide +kernel) rfl⟩
theorem fpX2_9 : FPut 2 9 3 ∨ FFin 2 9 3 ∧ (∃ q, vwCl[2]? = some q ∧ (q.2.1 9).1 = RX2 ∧ Cond.fieldLink RX2 34 (q.2.1 9).1 (q.2.1 9).2.1 (q.2.1 9).2.2.1 ∈ TBL) := Or.inr ⟨⟨RX2, TX2, 11, tyX2, rfl, tyX2_ok, nmX2, rfl, Or.inr ⟨_, rfl⟩⟩, _, rfl, rfl, inT 152 (by decide +kernel) rfl⟩
theorem olX10_1 : Cond.methodLink RX10 1 Lib.objectInit ∈ TBL := inT 28 (by decide +kernel) rfl
theorem cnX10_7 : CNew RX10 7 7 RX8 TX8 11 := ⟨rfl, uX8, ⟨tyX8, tyX8_ok, fun k hk => by
    match k, hk with
    | 0, _ => exact ⟨3, rfl, Or.inr ⟨_, rfl⟩⟩
    | 1, _ => exact ⟨0, rfl, rfl⟩
    | 2, _ => exact ⟨0, rfl, rfl⟩
    | 3, _ => exact ⟨0, rfl, rfl⟩
    | 4, _ => exact ⟨0, rfl, rfl⟩
    | 5, _ => exact ⟨0, rfl, rfl⟩
    | 6, _ => exact ⟨0, rfl, rfl⟩
    | 7, _ => exact ⟨0, rfl, rfl⟩
    | 8, _ => exact ⟨1, rfl, rfl⟩
    | 9, _ => exact ⟨0, rfl, rfl⟩
    | 10, _ => exact ⟨0, rfl, rfl⟩
    | k + 11, hk => exact absurd hk (by omega)⟩, inT 31 (by decide +kernel) rfl, inT 32 (by decide +kernel) rfl, inT 2 (by decide +kernel) rfl⟩
theorem kiX10_9 : CAt RX10 9 mX8_init 0 := ⟨Or.inl (inT 33 (by decide +kernel) rfl), inT 35 (by decide +kernel) rfl, inT 2 (by decide +kernel) rfl, ⟨by decide +kernel, by decide +kernel⟩, by decide +kernel, Nat.le_of_ble_eq_true rfl⟩
theorem iiX8_init : Cond.instanceMethod mX8_init.1 ∈ TBL := inT 34 (by decide +kernel) rfl
theorem fpX10_0 : FPut 9 0 3 ∨ FFin 9 0 3 ∧ (∃ q, vwCl[9]? = some q ∧ (q.2.1 0).1 = RX10 ∧ Cond.fieldLink RX10 10 (q.2.1 0).1 (q.2.1 0).2.1 (q.2.1 0).2.2.1 ∈ TBL) := Or.inr ⟨⟨RX10, TX10, 11, tyX10, rfl, tyX10_ok, nmX10, rfl, Or.inl ⟨_, rfl⟩⟩, _, rfl, rfl, inT 284 (by decide +kernel) rfl⟩
theorem cnX10_16 : CNew RX10 16 2 RX2 TX2 11 := ⟨rfl, uX2, ⟨tyX2, tyX2_ok, fun k hk => by
    match k, hk with
    | 0, _ => exact ⟨0, rfl, rfl⟩
    | 1, _ => exact ⟨3, rfl, Or.inr ⟨_, rfl⟩⟩
    | 2, _ => exact ⟨0, rfl, rfl⟩
    | 3, _ => exact ⟨3, rfl, Or.inr ⟨_, rfl⟩⟩
    | 4, _ => exact ⟨3, rfl, Or.inr ⟨_, rfl⟩⟩
    | 5, _ => exact ⟨0, rfl, rfl⟩
    | 6, _ => exact ⟨3, rfl, Or.inr ⟨_, rfl⟩⟩
    | 7, _ => exact ⟨3, rfl, Or.inr ⟨_, rfl⟩⟩
    | 8, _ => exact ⟨3, rfl, Or.inr ⟨_, rfl⟩⟩
    | 9, _ => exact ⟨3, rfl, Or.inr ⟨_, rfl⟩⟩
    | 10, _ => exact ⟨0, rfl, rfl⟩
    | k + 11, hk => exact absurd hk (by omega)⟩, inT 75 (by decide +kernel) rfl, inT 76 (by decide +kernel) rfl, inT 3 (by decide +kernel) rfl⟩
theorem kiX10_18 : CAt RX10 18 mX2_init 0 := ⟨Or.inl (inT 77 (by decide +kernel) rfl), inT 79 (by decide +kernel) rfl, inT 3 (by decide +kernel) rfl, ⟨by decide +kernel, by decide +kernel⟩, by decide +kernel, Nat.le_of_ble_eq_true rfl⟩
theorem iiX2_init : Cond.instanceMethod mX2_init.1 ∈ TBL := inT 78 (by decide +kernel) rfl
theorem fpX10_1 : FPut 9 1 3 ∨ FFin 9 1 3 ∧ (∃ q, vwCl[9]? = some q ∧ (q.2.1 1).1 = RX10 ∧ Cond.fieldLink RX10 19 (q.2.1 1).1 (q.2.1 1).2.1 (q.2.1 1).2.2.1 ∈ TBL) := Or.inl ⟨RX10, TX10, 11, tyX10, rfl, tyX10_ok, nmX10, rfl, Or.inl ⟨_, rfl⟩⟩
theorem fpX10_2 : FPut 9 2 3 ∨ FFin 9 2 3 ∧ (∃ q, vwCl[9]? = some q ∧ (q.2.1 2).1 = RX10 ∧ Cond.fieldLink RX10 23 (q.2.1 2).1 (q.2.1 2).2.1 (q.2.1 2).2.2.1 ∈ TBL) := Or.inl ⟨RX10, TX10, 11, tyX10, rfl, tyX10_ok, nmX10, rfl, Or.inl ⟨_, rfl⟩⟩
theorem cnX10_26 : CNew RX10 26 4 RX4 TX4 7 := ⟨rfl, uX4, ⟨tyX4, tyX4_ok, fun k hk => by
    match k, hk with
    | 0, _ => exact ⟨3, rfl, Or.inr ⟨_, rfl⟩⟩
    | 1, _ => exact ⟨3, rfl, Or.inr ⟨_, rfl⟩⟩
    | 2, _ => exact ⟨3, rfl, Or.inr ⟨_, rfl⟩⟩
    | 3, _ => exact ⟨0, rfl, rfl⟩
    | 4, _ => exact ⟨3, rfl, Or.inr ⟨_, rfl⟩⟩
    | 5, _ => exact ⟨3, rfl, Or.inr ⟨_, rfl⟩⟩
    | 6, _ => exact ⟨0, rfl, rfl⟩
    | k + 7, hk => exact absurd hk (by omega)⟩, inT 179 (by decide +kernel) rfl, inT 180 (by decide +kernel) rfl, inT 6 (by decide +kernel) rfl⟩
theorem kiX10_28 : CAt RX10 28 mX4_init 0 := ⟨Or.inl (inT 181 (by decide +kernel) rfl), inT 183 (by decide +kernel) rfl, inT 6 (by decide +kernel) rfl, ⟨by decide +kernel, by decide +kernel⟩, by decide +kernel, Nat.le_of_ble_eq_true rfl⟩
theorem iiX4_init : Cond.instanceMethod mX4_init.1 ∈ TBL := inT 182 (by decide +kernel) rfl
theorem fpX10_3 : FPut 9 3 3 ∨ FFin 9 3 3 ∧ (∃ q, vwCl[9]? = some q ∧ (q.2.1 3).1 = RX10 ∧ Cond.fieldLink RX10 29 (q.2.1 3).1 (q.2.1 3).2.1 (q.2.1 3).2.2.1 ∈ TBL) := Or.inr ⟨⟨RX10, TX10, 11, tyX10, rfl, tyX10_ok, nmX10, rfl, Or.inl ⟨_, rfl⟩⟩, _, rfl, rfl, inT 287 (by decide +kernel) rfl⟩
theorem cnX10_33 : CNew RX10 33 6 RX7 TX7 2 := ⟨rfl, uX7, ⟨tyX7, tyX7_ok, fun k hk => by
    match k, hk with
    | 0, _ => exact ⟨0, rfl, rfl⟩
    | 1, _ => exact ⟨0, rfl, rfl⟩
    | k + 2, hk => exact absurd hk (by omega)⟩, inT 209 (by decide +kernel) rfl, inT 89 (by decide +kernel) rfl, inT 5 (by decide +kernel) rfl⟩
theorem kiX10_35 : CAt RX10 35 mX7_init 0 := ⟨Or.inl (inT 210 (by decide +kernel) rfl), inT 92 (by decide +kernel) rfl, inT 5 (by decide +kernel) rfl, ⟨by decide +kernel, by decide +kernel⟩, by decide +kernel, Nat.le_of_ble_eq_true rfl⟩
theorem fpX10_4 : FPut 9 4 3 ∨ FFin 9 4 3 ∧ (∃ q, vwCl[9]? = some q ∧ (q.2.1 4).1 = RX10 ∧ Cond.fieldLink RX10 36 (q.2.1 4).1 (q.2.1 4).2.1 (q.2.1 4).2.2.1 ∈ TBL) := Or.inr ⟨⟨RX10, TX10, 11, tyX10, rfl, tyX10_ok, nmX10, rfl, Or.inl ⟨_, rfl⟩⟩, _, rfl, rfl, inT 288 (by decide +kernel) rfl⟩
theorem cnX10_40 : CNew RX10 40 5 RX5 TX5 4 := ⟨rfl, uX5, ⟨tyX5, tyX5_ok, fun k hk => by
    match k, hk with
    | 0, _ => exact ⟨0, rfl, rfl⟩
    | 1, _ => exact ⟨0, rfl, rfl⟩
    | 2, _ => exact ⟨0, rfl, rfl⟩
    | 3, _ => exact ⟨0, rfl, rfl⟩
    | k + 4, hk => exact absurd hk (by omega)⟩, inT 211 (by decide +kernel) rfl, inT 212 (by decide +kernel) rfl, inT 7 (by decide +kernel) rfl⟩
theorem kiX10_42 : CAt RX10 42 mX5_init 0 := ⟨Or.inr ⟨"RopeDance\x72s", inN 213 (by decide +kernel) rfl⟩, inT 215 (by decide +kernel) rfl, inT 7 (by decide +kernel) rfl, ⟨by decide +kernel, by decide +kernel⟩, by decide +kernel, Nat.le_of_ble_eq_true rfl⟩
theorem iiX5_init : Cond.instanceMethod mX5_init.1 ∈ TBL := inT 214 (by decide +kernel) rfl
theorem fpX10_5 : FPut 9 5 3 ∨ FFin 9 5 3 ∧ (∃ q, vwCl[9]? = some q ∧ (q.2.1 5).1 = RX10 ∧ Cond.fieldLink RX10 43 (q.2.1 5).1 (q.2.1 5).2.1 (q.2.1 5).2.2.1 ∈ TBL) := Or.inr ⟨⟨RX10, TX10, 11, tyX10, rfl, tyX10_ok, nmX10, rfl, Or.inl ⟨_, rfl⟩⟩, _, rfl, rfl, inT 289 (by decide +kernel) rfl⟩
theorem fpX10_6 : FPut 9 6 3 ∨ FFin 9 6 3 ∧ (∃ q, vwCl[9]? = some q ∧ (q.2.1 6).1 = RX10 ∧ Cond.fieldLink RX10 47 (q.2.1 6).1 (q.2.1 6).2.1 (q.2.1 6).2.2.1 ∈ TBL) := Or.inr ⟨⟨RX10, TX10, 11, tyX10, rfl, tyX10_ok, nmX10, rfl, Or.inl ⟨_, rfl⟩⟩, _, rfl, rfl, inT 290 (by decide +kernel) rfl⟩
theorem cnX10_50 : CNew RX10 50 8 RX9 TX9 3 := ⟨rfl, uX9, ⟨tyX9, tyX9_ok, fun k hk => by
    match k, hk with
    | 0, _ => exact ⟨3, rfl, Or.inr ⟨_, rfl⟩⟩
    | 1, _ => exact ⟨3, rfl, Or.inr ⟨_, rfl⟩⟩
    | 2, _ => exact ⟨0, rfl, rfl⟩
    | k + 3, hk => exact absurd hk (by omega)⟩, inT 232 (by decide +kernel) rfl, inT 233 (by decide +kernel) rfl, inT 8 (by decide +kernel) rfl⟩
theorem kiX10_52 : CAt RX10 52 mX9_init 0 := ⟨Or.inl (inT 234 (by decide +kernel) rfl), inT 236 (by decide +kernel) rfl, inT 8 (by decide +kernel) rfl, ⟨by decide +kernel, by decide +kernel⟩, by decide +kernel, Nat.le_of_ble_eq_true rfl⟩
theorem iiX9_init : Cond.instanceMethod mX9_init.1 ∈ TBL := inT 235 (by decide +kernel) rfl
theorem fpX10_7 : FPut 9 7 3 ∨ FFin 9 7 3 ∧ (∃ q, vwCl[9]? = some q ∧ (q.2.1 7).1 = RX10 ∧ Cond.fieldLink RX10 53 (q.2.1 7).1 (q.2.1 7).2.1 (q.2.1 7).2.2.1 ∈ TBL) := Or.inr ⟨⟨RX10, TX10, 11, tyX10, rfl, tyX10_ok, nmX10, rfl, Or.inl ⟨_, rfl⟩⟩, _, rfl, rfl, inT 291 (by decide +kernel) rfl⟩
theorem cnX10_57 : CNew RX10 57 3 RX3 TX3 2 := ⟨rfl, uX3, ⟨tyX3, tyX3_ok, fun k hk => by
    match k, hk with
    | 0, _ => exact ⟨0, rfl, rfl⟩
    | 1, _ => exact ⟨0, rfl, rfl⟩
    | k + 2, hk => exact absurd hk (by omega)⟩, inT 248 (by decide +kernel) rfl, inT 249 (by decide +kernel) rfl, inT 9 (by decide +kernel) rfl⟩
theorem kiX10_59 : CAt RX10 59 mX3_init 0 := ⟨Or.inr ⟨"RopeDance\x72s", inN 250 (by decide +kernel) rfl⟩, inT 252 (by decide +kernel) rfl, inT 9 (by decide +kernel) rfl, ⟨by decide +kernel, by decide +kernel⟩, by decide +kernel, Nat.le_of_ble_eq_true rfl⟩
theorem iiX3_init : Cond.instanceMethod mX3_init.1 ∈ TBL := inT 251 (by decide +kernel) rfl
theorem fpX10_8 : FPut 9 8 3 ∨ FFin 9 8 3 ∧ (∃ q, vwCl[9]? = some q ∧ (q.2.1 8).1 = RX10 ∧ Cond.fieldLink RX10 60 (q.2.1 8).1 (q.2.1 8).2.1 (q.2.1 8).2.2.1 ∈ TBL) := Or.inr ⟨⟨RX10, TX10, 11, tyX10, rfl, tyX10_ok, nmX10, rfl, Or.inl ⟨_, rfl⟩⟩, _, rfl, rfl, inT 292 (by decide +kernel) rfl⟩
theorem cnX10_64 : CNew RX10 64 0 RX0 TX0 4 := ⟨rfl, uX0, ⟨tyX0, tyX0_ok, fun k hk => by
    match k, hk with
    | 0, _ => exact ⟨3, rfl, Or.inl ⟨_, rfl⟩⟩
    | 1, _ => exact ⟨0, rfl, rfl⟩
    | 2, _ => exact ⟨0, rfl, rfl⟩
    | 3, _ => exact ⟨0, rfl, rfl⟩
    | k + 4, hk => exact absurd hk (by omega)⟩, inT 263 (by decide +kernel) rfl, inT 264 (by decide +kernel) rfl, inT 10 (by decide +kernel) rfl⟩
theorem kiX10_66 : CAt RX10 66 mX0_init 0 := ⟨Or.inl (inT 265 (by decide +kernel) rfl), inT 267 (by decide +kernel) rfl, inT 10 (by decide +kernel) rfl, ⟨by decide +kernel, by decide +kernel⟩, by decide +kernel, Nat.le_of_ble_eq_true rfl⟩
theorem iiX0_init : Cond.instanceMethod mX0_init.1 ∈ TBL := inT 266 (by decide +kernel) rfl
theorem fpX10_9 : FPut 9 9 3 ∨ FFin 9 9 3 ∧ (∃ q, vwCl[9]? = some q ∧ (q.2.1 9).1 = RX10 ∧ Cond.fieldLink RX10 67 (q.2.1 9).1 (q.2.1 9).2.1 (q.2.1 9).2.2.1 ∈ TBL) := Or.inr ⟨⟨RX10, TX10, 11, tyX10, rfl, tyX10_ok, nmX10, rfl, Or.inl ⟨_, rfl⟩⟩, _, rfl, rfl, inT 293 (by decide +kernel) rfl⟩
theorem olX11_1 : Cond.methodLink RX11 1 Lib.objectInit ∈ TBL := inT 1202 (by decide +kernel) rfl
theorem fpX11_1 : FPut 10 1 3 ∨ FFin 10 1 3 ∧ (∃ q, vwCl[10]? = some q ∧ (q.2.1 1).1 = RX11 ∧ Cond.fieldLink RX11 7 (q.2.1 1).1 (q.2.1 1).2.1 (q.2.1 1).2.2.1 ∈ TBL) := Or.inr ⟨⟨RX11, TX11, 50, tyX11, rfl, tyX11_ok, nmX11, rfl, Or.inr ⟨_, rfl⟩⟩, _, rfl, rfl, inT 1204 (by decide +kernel) rfl⟩
theorem fpX11_12 : FPut 10 12 3 ∨ FFin 10 12 3 ∧ (∃ q, vwCl[10]? = some q ∧ (q.2.1 12).1 = RX11 ∧ Cond.fieldLink RX11 17 (q.2.1 12).1 (q.2.1 12).2.1 (q.2.1 12).2.2.1 ∈ TBL) := Or.inr ⟨⟨RX11, TX11, 50, tyX11, rfl, tyX11_ok, nmX11, rfl, Or.inr ⟨_, rfl⟩⟩, _, rfl, rfl, inT 1215 (by decide +kernel) rfl⟩
theorem fpX11_16 : FPut 10 16 3 ∨ FFin 10 16 3 ∧ (∃ q, vwCl[10]? = some q ∧ (q.2.1 16).1 = RX11 ∧ Cond.fieldLink RX11 20 (q.2.1 16).1 (q.2.1 16).2.1 (q.2.1 16).2.2.1 ∈ TBL) := Or.inr ⟨⟨RX11, TX11, 50, tyX11, rfl, tyX11_ok, nmX11, rfl, Or.inr ⟨_, rfl⟩⟩, _, rfl, rfl, inT 1219 (by decide +kernel) rfl⟩
theorem fpX11_17 : FPut 10 17 3 ∨ FFin 10 17 3 ∧ (∃ q, vwCl[10]? = some q ∧ (q.2.1 17).1 = RX11 ∧ Cond.fieldLink RX11 23 (q.2.1 17).1 (q.2.1 17).2.1 (q.2.1 17).2.2.1 ∈ TBL) := Or.inr ⟨⟨RX11, TX11, 50, tyX11, rfl, tyX11_ok, nmX11, rfl, Or.inr ⟨_, rfl⟩⟩, _, rfl, rfl, inT 1220 (by decide +kernel) rfl⟩
theorem fpX11_18 : FPut 10 18 3 ∨ FFin 10 18 3 ∧ (∃ q, vwCl[10]? = some q ∧ (q.2.1 18).1 = RX11 ∧ Cond.fieldLink RX11 26 (q.2.1 18).1 (q.2.1 18).2.1 (q.2.1 18).2.2.1 ∈ TBL) := Or.inr ⟨⟨RX11, TX11, 50, tyX11, rfl, tyX11_ok, nmX11, rfl, Or.inr ⟨_, rfl⟩⟩, _, rfl, rfl, inT 1221 (by decide +kernel) rfl⟩
theorem fpX11_19 : FPut 10 19 3 ∨ FFin 10 19 3 ∧ (∃ q, vwCl[10]? = some q ∧ (q.2.1 19).1 = RX11 ∧ Cond.fieldLink RX11 29 (q.2.1 19).1 (q.2.1 19).2.1 (q.2.1 19).2.2.1 ∈ TBL) := Or.inr ⟨⟨RX11, TX11, 50, tyX11, rfl, tyX11_ok, nmX11, rfl, Or.inr ⟨_, rfl⟩⟩, _, rfl, rfl, inT 1222 (by decide +kernel) rfl⟩
theorem fpX11_20 : FPut 10 20 3 ∨ FFin 10 20 3 ∧ (∃ q, vwCl[10]? = some q ∧ (q.2.1 20).1 = RX11 ∧ Cond.fieldLink RX11 32 (q.2.1 20).1 (q.2.1 20).2.1 (q.2.1 20).2.2.1 ∈ TBL) := Or.inr ⟨⟨RX11, TX11, 50, tyX11, rfl, tyX11_ok, nmX11, rfl, Or.inr ⟨_, rfl⟩⟩, _, rfl, rfl, inT 1223 (by decide +kernel) rfl⟩
theorem fpX11_25 : FPut 10 25 3 ∨ FFin 10 25 3 ∧ (∃ q, vwCl[10]? = some q ∧ (q.2.1 25).1 = RX11 ∧ Cond.fieldLink RX11 35 (q.2.1 25).1 (q.2.1 25).2.1 (q.2.1 25).2.2.1 ∈ TBL) := Or.inr ⟨⟨RX11, TX11, 50, tyX11, rfl, tyX11_ok, nmX11, rfl, Or.inr ⟨_, rfl⟩⟩, _, rfl, rfl, inT 1228 (by decide +kernel) rfl⟩
theorem fpX11_27 : FPut 10 27 3 ∨ FFin 10 27 3 ∧ (∃ q, vwCl[10]? = some q ∧ (q.2.1 27).1 = RX11 ∧ Cond.fieldLink RX11 38 (q.2.1 27).1 (q.2.1 27).2.1 (q.2.1 27).2.2.1 ∈ TBL) := Or.inr ⟨⟨RX11, TX11, 50, tyX11, rfl, tyX11_ok, nmX11, rfl, Or.inr ⟨_, rfl⟩⟩, _, rfl, rfl, inT 1230 (by decide +kernel) rfl⟩
theorem fpX11_28 : FPut 10 28 3 ∨ FFin 10 28 3 ∧ (∃ q, vwCl[10]? = some q ∧ (q.2.1 28).1 = RX11 ∧ Cond.fieldLink RX11 41 (q.2.1 28).1 (q.2.1 28).2.1 (q.2.1 28).2.2.1 ∈ TBL) := Or.inr ⟨⟨RX11, TX11, 50, tyX11, rfl, tyX11_ok, nmX11, rfl, Or.inr ⟨_, rfl⟩⟩, _, rfl, rfl, inT 1231 (by decide +kernel) rfl⟩
theorem fpX11_34 : FPut 10 34 3 ∨ FFin 10 34 3 ∧ (∃ q, vwCl[10]? = some q ∧ (q.2.1 34).1 = RX11 ∧ Cond.fieldLink RX11 44 (q.2.1 34).1 (q.2.1 34).2.1 (q.2.1 34).2.2.1 ∈ TBL) := Or.inr ⟨⟨RX11, TX11, 50, tyX11, rfl, tyX11_ok, nmX11, rfl, Or.inr ⟨_, rfl⟩⟩, _, rfl, rfl, inT 1237 (by decide +kernel) rfl⟩
theorem fpX11_35 : FPut 10 35 3 ∨ FFin 10 35 3 ∧ (∃ q, vwCl[10]? = some q ∧ (q.2.1 35).1 = RX11 ∧ Cond.fieldLink RX11 47 (q.2.1 35).1 (q.2.1 35).2.1 (q.2.1 35).2.2.1 ∈ TBL) := Or.inr ⟨⟨RX11, TX11, 50, tyX11, rfl, tyX11_ok, nmX11, rfl, Or.inr ⟨_, rfl⟩⟩, _, rfl, rfl, inT 1238 (by decide +kernel) rfl⟩
theorem fpX11_40 : FPut 10 40 3 ∨ FFin 10 40 3 ∧ (∃ q, vwCl[10]? = some q ∧ (q.2.1 40).1 = RX11 ∧ Cond.fieldLink RX11 50 (q.2.1 40).1 (q.2.1 40).2.1 (q.2.1 40).2.2.1 ∈ TBL) := Or.inr ⟨⟨RX11, TX11, 50, tyX11, rfl, tyX11_ok, nmX11, rfl, Or.inr ⟨_, rfl⟩⟩, _, rfl, rfl, inT 1243 (by decide +kernel) rfl⟩
theorem tk {T : Sh} {a n : Nat} {x : Nat ⊕ (Nat × Nat)} (h : T[a]? = some x) (ha : a < n) : (T.take n)[a]? = some x := by
  rw [List.getElem?_take, if_pos ha, h]
def iX7_init (a n : Nat) (w : Wd) : Wd := (si (si w a 0 0) a 1 1)
set_option maxHeartbeats 4000000 in
set_option maxRecDepth 100000 in
theorem ccX7_init {T : Sh} {a n : Nat} {w : Wd} (ha : T[a]? = some (.inl 6)) (han : a < n)  : CN T mX7_init [.ref a] n w n (iX7_init a n w) 0 0 := by
  refine cn_of (by decide) rfl (Nat.le_of_ble_eq_true rfl) ?_
  show GoN _ mX7_init 0 0 _ _ _ 0 [(0, .ref a)] [] _ _ 0 0
  refine gn_aload_n (pc := 0) dX7_init_0 rfl 0 rfl ?_
  refine gn_objInit (pc := 1) dX7_init_1 rfl olX7_3 oI oC (by decide) (Nat.le_of_ble_eq_true rfl) ?_
  refine gn_aload_n (pc := 4) dX7_init_4 rfl 0 rfl ?_
  refine gn_iconst (pc := 5) dX7_init_5 c_0 ?_
  refine gn_putI (pc := 6) dX7_init_6 rfl fX7_9 pX7_0 (tk ha (by omega)) (by omega) ?_
  refine gn_aload_n (pc := 9) dX7_init_9 rfl 0 rfl ?_
  refine gn_iconst (pc := 10) dX7_init_10 c_1 ?_
  refine gn_putI (pc := 11) dX7_init_11 rfl fX7_15 pX7_1 (tk ha (by omega)) (by omega) ?_
  exact gn_vret (pc := 14) dX7_init_14 rfl ⟨Nat.le_of_ble_eq_true rfl, Nat.le_of_ble_eq_true rfl⟩ rfl rfl
def iX8_init (a n : Nat) (w : Wd) : Wd := (sr w a 0 (some n))
set_option maxHeartbeats 4000000 in
set_option maxRecDepth 100000 in
theorem ccX8_init {T : Sh} {a n : Nat} {w : Wd} (ha : T[a]? = some (.inl 7)) (han : a < n) (h0 : T[n]? = some (.inr (0, 600))) : CN T mX8_init [.ref a] n w (n + 1) (iX8_init a n w) 1 600 := by
  refine cn_of (by decide) rfl (Nat.le_of_ble_eq_true rfl) ?_
  show GoN _ mX8_init 1 600 _ _ _ 0 [(0, .ref a)] [] _ _ 0 0
  refine gn_aload_n (pc := 0) dX8_init_0 rfl 0 rfl ?_
  refine gn_objInit (pc := 1) dX8_init_1 rfl olX8_3 oI oC (by decide) (Nat.le_of_ble_eq_true rfl) ?_
  refine gn_aload_n (pc := 4) dX8_init_4 rfl 0 rfl ?_
  refine gn_sipush (pc := 5) (v := 600) dX8_init_5 (by decide) ?_
  refine gn_newa (pc := 8) (z := 600) dX8_init_8 (inT 74 (by decide +kernel) rfl) rfl (Or.inl ⟨rfl, rfl⟩) h0 (by decide) (by decide) ⟨Nat.le_of_ble_eq_true rfl, Nat.le_of_ble_eq_true rfl⟩ ?_
  refine gn_putR (pc := 10) dX8_init_10 rfl fX8_11 fpX8_0 (tk ha (by omega)) (by omega) ?_
  exact gn_vret (pc := 13) dX8_init_13 rfl ⟨Nat.le_of_ble_eq_true rfl, Nat.le_of_ble_eq_true rfl⟩ rfl rfl
def iX4_init (a n : Nat) (w : Wd) : Wd := (sr (sr (sr (sr (sr w a 0 (some n)) a 1 (some (n + 1))) a 2 (some (n + 2))) a 4 (some (n + 3))) a 5 (some (n + 4)))
set_option maxHeartbeats 4000000 in
set_option maxRecDepth 100000 in
theorem ccX4_init {T : Sh} {a n : Nat} {w : Wd} (ha : T[a]? = some (.inl 4)) (han : a < n) (h0 : T[n]? = some (.inr (0, 16))) (h1 : T[(n + 1)]? = some (.inr (0, 16))) (h2 : T[(n + 2)]? = some (.inr (0, 16))) (h3 : T[(n + 3)]? = some (.inr (0, 15))) (h4 : T[(n + 4)]? = some (.inr (0, 15))) : CN T mX4_init [.ref a] n w (n + 5) (iX4_init a n w) 5 78 := by
  refine cn_of (by decide) rfl (Nat.le_of_ble_eq_true rfl) ?_
  show GoN _ mX4_init 5 78 _ _ _ 0 [(0, .ref a)] [] _ _ 0 0
  refine gn_aload_n (pc := 0) dX4_init_0 rfl 0 rfl ?_
  refine gn_objInit (pc := 1) dX4_init_1 rfl olX4_3 oI oC (by decide) (Nat.le_of_ble_eq_true rfl) ?_
  refine gn_aload_n (pc := 4) dX4_init_4 rfl 0 rfl ?_
  refine gn_bipush (pc := 5) (v := 16) dX4_init_5 (by decide) ?_
  refine gn_newa (pc := 7) (z := 16) dX4_init_7 (inT 74 (by decide +kernel) rfl) rfl (Or.inl ⟨rfl, rfl⟩) h0 (by decide) (by decide) ⟨Nat.le_of_ble_eq_true rfl, Nat.le_of_ble_eq_true rfl⟩ ?_
  refine gn_putR (pc := 9) dX4_init_9 rfl fX4_11 fpX4_0 (tk ha (by omega)) (by omega) ?_
  refine gn_aload_n (pc := 12) dX4_init_12 rfl 0 rfl ?_
  refine gn_bipush (pc := 13) (v := 16) dX4_init_13 (by decide) ?_
  refine gn_newa (pc := 15) (z := 16) dX4_init_15 (inT 74 (by decide +kernel) rfl) rfl (Or.inl ⟨rfl, rfl⟩) h1 (by decide) (by decide) ⟨Nat.le_of_ble_eq_true rfl, Nat.le_of_ble_eq_true rfl⟩ ?_
  refine gn_putR (pc := 17) dX4_init_17 rfl fX4_15 fpX4_1 (tk ha (by omega)) (by omega) ?_
  refine gn_aload_n (pc := 20) dX4_init_20 rfl 0 rfl ?_
  refine gn_bipush (pc := 21) (v := 16) dX4_init_21 (by decide) ?_
  refine gn_newa (pc := 23) (z := 16) dX4_init_23 (inT 74 (by decide +kernel) rfl) rfl (Or.inl ⟨rfl, rfl⟩) h2 (by decide) (by decide) ⟨Nat.le_of_ble_eq_true rfl, Nat.le_of_ble_eq_true rfl⟩ ?_
  refine gn_putR (pc := 25) dX4_init_25 rfl fX4_18 fpX4_2 (tk ha (by omega)) (by omega) ?_
  refine gn_aload_n (pc := 28) dX4_init_28 rfl 0 rfl ?_
  refine gn_bipush (pc := 29) (v := 15) dX4_init_29 (by decide) ?_
  refine gn_newa (pc := 31) (z := 15) dX4_init_31 (inT 74 (by decide +kernel) rfl) rfl (Or.inl ⟨rfl, rfl⟩) h3 (by decide) (by decide) ⟨Nat.le_of_ble_eq_true rfl, Nat.le_of_ble_eq_true rfl⟩ ?_
  refine gn_putR (pc := 33) dX4_init_33 rfl fX4_21 fpX4_4 (tk ha (by omega)) (by omega) ?_
  refine gn_aload_n (pc := 36) dX4_init_36 rfl 0 rfl ?_
  refine gn_bipush (pc := 37) (v := 15) dX4_init_37 (by decide) ?_
  refine gn_newa (pc := 39) (z := 15) dX4_init_39 (inT 74 (by decide +kernel) rfl) rfl (Or.inl ⟨rfl, rfl⟩) h4 (by decide) (by decide) ⟨Nat.le_of_ble_eq_true rfl, Nat.le_of_ble_eq_true rfl⟩ ?_
  refine gn_putR (pc := 41) dX4_init_41 rfl fX4_24 fpX4_5 (tk ha (by omega)) (by omega) ?_
  exact gn_vret (pc := 44) dX4_init_44 rfl ⟨Nat.le_of_ble_eq_true rfl, Nat.le_of_ble_eq_true rfl⟩ rfl rfl
def iX5_init (a n : Nat) (w : Wd) : Wd := w
set_option maxHeartbeats 4000000 in
set_option maxRecDepth 100000 in
theorem ccX5_init {T : Sh} {a n : Nat} {w : Wd} (ha : T[a]? = some (.inl 5)) (han : a < n)  : CN T mX5_init [.ref a] n w n (iX5_init a n w) 0 0 := by
  refine cn_of (by decide) rfl (Nat.le_of_ble_eq_true rfl) ?_
  show GoN _ mX5_init 0 0 _ _ _ 0 [(0, .ref a)] [] _ _ 0 0
  refine gn_aload_n (pc := 0) dX5_init_0 rfl 0 rfl ?_
  refine gn_objInit (pc := 1) dX5_init_1 rfl olX5_3 oI oC (by decide) (Nat.le_of_ble_eq_true rfl) ?_
  exact gn_vret (pc := 4) dX5_init_4 rfl ⟨Nat.le_of_ble_eq_true rfl, Nat.le_of_ble_eq_true rfl⟩ rfl rfl
def iX3_init (a n : Nat) (w : Wd) : Wd := w
set_option maxHeartbeats 4000000 in
set_option maxRecDepth 100000 in
theorem ccX3_init {T : Sh} {a n : Nat} {w : Wd} (ha : T[a]? = some (.inl 3)) (han : a < n)  : CN T mX3_init [.ref a] n w n (iX3_init a n w) 0 0 := by
  refine cn_of (by decide) rfl (Nat.le_of_ble_eq_true rfl) ?_
  show GoN _ mX3_init 0 0 _ _ _ 0 [(0, .ref a)] [] _ _ 0 0
  refine gn_aload_n (pc := 0) dX3_init_0 rfl 0 rfl ?_
  refine gn_objInit (pc := 1) dX3_init_1 rfl olX3_3 oI oC (by decide) (Nat.le_of_ble_eq_true rfl) ?_
  exact gn_vret (pc := 4) dX3_init_4 rfl ⟨Nat.le_of_ble_eq_true rfl, Nat.le_of_ble_eq_true rfl⟩ rfl rfl
def iX9_init (a n : Nat) (w : Wd) : Wd := (sr (sr w a 0 (some n)) a 1 (some (n + 1)))
set_option maxHeartbeats 4000000 in
set_option maxRecDepth 100000 in
theorem ccX9_init {T : Sh} {a n : Nat} {w : Wd} (ha : T[a]? = some (.inl 8)) (han : a < n) (h0 : T[n]? = some (.inr (0, 128))) (h1 : T[(n + 1)]? = some (.inr (0, 128))) : CN T mX9_init [.ref a] n w (n + 2) (iX9_init a n w) 2 256 := by
  refine cn_of (by decide) rfl (Nat.le_of_ble_eq_true rfl) ?_
  show GoN _ mX9_init 2 256 _ _ _ 0 [(0, .ref a)] [] _ _ 0 0
  refine gn_aload_n (pc := 0) dX9_init_0 rfl 0 rfl ?_
  refine gn_objInit (pc := 1) dX9_init_1 rfl olX9_3 oI oC (by decide) (Nat.le_of_ble_eq_true rfl) ?_
  refine gn_aload_n (pc := 4) dX9_init_4 rfl 0 rfl ?_
  refine gn_sipush (pc := 5) (v := 128) dX9_init_5 (by decide) ?_
  refine gn_newa (pc := 8) (z := 128) dX9_init_8 (inT 74 (by decide +kernel) rfl) rfl (Or.inl ⟨rfl, rfl⟩) h0 (by decide) (by decide) ⟨Nat.le_of_ble_eq_true rfl, Nat.le_of_ble_eq_true rfl⟩ ?_
  refine gn_putR (pc := 10) dX9_init_10 rfl fX9_11 fpX9_0 (tk ha (by omega)) (by omega) ?_
  refine gn_aload_n (pc := 13) dX9_init_13 rfl 0 rfl ?_
  refine gn_sipush (pc := 14) (v := 128) dX9_init_14 (by decide) ?_
  refine gn_newa (pc := 17) (z := 128) dX9_init_17 (inT 74 (by decide +kernel) rfl) rfl (Or.inl ⟨rfl, rfl⟩) h1 (by decide) (by decide) ⟨Nat.le_of_ble_eq_true rfl, Nat.le_of_ble_eq_true rfl⟩ ?_
  refine gn_putR (pc := 19) dX9_init_19 rfl fX9_15 fpX9_1 (tk ha (by omega)) (by omega) ?_
  exact gn_vret (pc := 22) dX9_init_22 rfl ⟨Nat.le_of_ble_eq_true rfl, Nat.le_of_ble_eq_true rfl⟩ rfl rfl
def iX0_init (a n : Nat) (w : Wd) : Wd := (sr (iX7_init n (n + 1) w) a 0 (some n))
set_option maxHeartbeats 4000000 in
set_option maxRecDepth 100000 in
theorem ccX0_init {T : Sh} {a n : Nat} {w : Wd} (ha : T[a]? = some (.inl 0)) (han : a < n) (h0 : T[n]? = some (.inl 6)) : CN T mX0_init [.ref a] n w (n + 1) (iX0_init a n w) 1 2 := by
  refine cn_of (by decide) rfl (Nat.le_of_ble_eq_true rfl) ?_
  show GoN _ mX0_init 1 2 _ _ _ 0 [(0, .ref a)] [] _ _ 0 0
  refine gn_aload_n (pc := 0) dX0_init_0 rfl 0 rfl ?_
  refine gn_objInit (pc := 1) dX0_init_1 rfl olX0_1 oI oC (by decide) (Nat.le_of_ble_eq_true rfl) ?_
  refine gn_aload_n (pc := 4) dX0_init_4 rfl 0 rfl ?_
  refine gn_new (pc := 5) dX0_init_5 rfl cnX0_7 h0 ⟨Nat.le_of_ble_eq_true rfl, Nat.le_of_ble_eq_true rfl⟩ ?_
  refine gn_dup (pc := 8) dX0_init_8 rfl ?_
  refine gn_call (pc := 9) (st := [.ref n, .ref a]) dX0_init_9 rfl kiX0_9 iiX7_init rfl rfl (Nat.le_of_ble_eq_true rfl) (Nat.le_of_ble_eq_true rfl) ⟨Nat.le_of_ble_eq_true rfl, Nat.le_of_ble_eq_true rfl⟩ (ccX7_init (a := n) (n := (n + 1)) h0 (by omega) ) ?_
  refine gn_putR (pc := 12) dX0_init_12 rfl fX0_10 fpX0_0 (tk ha (by omega)) (by omega) ?_
  exact gn_vret (pc := 15) dX0_init_15 rfl ⟨Nat.le_of_ble_eq_true rfl, Nat.le_of_ble_eq_true rfl⟩ rfl rfl
def iX1_init (a n : Nat) (w : Wd) : Wd := (sr (iX7_init (n + 1) (n + 2) (sr w a 0 (some n))) a 4 (some (n + 1)))
set_option maxHeartbeats 4000000 in
set_option maxRecDepth 100000 in
theorem ccX1_init {T : Sh} {a n : Nat} {w : Wd} (ha : T[a]? = some (.inl 1)) (han : a < n) (h0 : T[n]? = some (.inr (0, 12))) (h1 : T[(n + 1)]? = some (.inl 6)) : CN T mX1_init [.ref a] n w (n + 2) (iX1_init a n w) 2 14 := by
  refine cn_of (by decide) rfl (Nat.le_of_ble_eq_true rfl) ?_
  show GoN _ mX1_init 2 14 _ _ _ 0 [(0, .ref a)] [] _ _ 0 0
  refine gn_aload_n (pc := 0) dX1_init_0 rfl 0 rfl ?_
  refine gn_objInit (pc := 1) dX1_init_1 rfl olX1_1 oI oC (by decide) (Nat.le_of_ble_eq_true rfl) ?_
  refine gn_aload_n (pc := 4) dX1_init_4 rfl 0 rfl ?_
  refine gn_bipush (pc := 5) (v := 12) dX1_init_5 (by decide) ?_
  refine gn_newa (pc := 7) (z := 12) dX1_init_7 (inT 74 (by decide +kernel) rfl) rfl (Or.inl ⟨rfl, rfl⟩) h0 (by decide) (by decide) ⟨Nat.le_of_ble_eq_true rfl, Nat.le_of_ble_eq_true rfl⟩ ?_
  refine gn_putR (pc := 9) dX1_init_9 rfl fX1_9 fpX1_0 (tk ha (by omega)) (by omega) ?_
  refine gn_aload_n (pc := 12) dX1_init_12 rfl 0 rfl ?_
  refine gn_new (pc := 13) dX1_init_13 rfl cnX1_15 h1 ⟨Nat.le_of_ble_eq_true rfl, Nat.le_of_ble_eq_true rfl⟩ ?_
  refine gn_dup (pc := 16) dX1_init_16 rfl ?_
  refine gn_call (pc := 17) (st := [.ref (n + 1), .ref a]) dX1_init_17 rfl kiX1_17 iiX7_init rfl rfl (Nat.le_of_ble_eq_true rfl) (Nat.le_of_ble_eq_true rfl) ⟨Nat.le_of_ble_eq_true rfl, Nat.le_of_ble_eq_true rfl⟩ (ccX7_init (a := (n + 1)) (n := (n + 2)) h1 (by omega) ) ?_
  refine gn_putR (pc := 20) dX1_init_20 rfl fX1_18 fpX1_4 (tk ha (by omega)) (by omega) ?_
  exact gn_vret (pc := 23) dX1_init_23 rfl ⟨Nat.le_of_ble_eq_true rfl, Nat.le_of_ble_eq_true rfl⟩ rfl rfl
def iX2_3 (w : Wd) : Wd := (sr (sr (sr (sr (sr (sr (sr (iX1_init 17 18 (sr (iX1_init 14 15 (sr (iX1_init 11 12 (sr (iX1_init 8 9 (sr (iX1_init 5 6 (sr w 3 1 (some 4))) 4 ((0 : Int32).toNatClampNeg) (some 5))) 4 ((1 : Int32).toNatClampNeg) (some 8))) 4 ((2 : Int32).toNatClampNeg) (some 11))) 4 ((3 : Int32).toNatClampNeg) (some 14))) 4 ((4 : Int32).toNatClampNeg) (some 17)) 3 3 (some 20)) 3 4 (some 21)) 3 6 (some 22)) 3 7 (some 23)) 3 8 (some 24)) 3 9 (some 25))
set_option maxHeartbeats 4000000 in
set_option maxRecDepth 100000 in
theorem ccX2_init_3 {w : Wd} : CN SC mX2_init [.ref 3] 4 w 26 (iX2_3 w) 22 132 := by
  refine cn_of (by decide) rfl (Nat.le_of_ble_eq_true rfl) ?_
  show GoN _ mX2_init 22 132 _ _ _ 0 [(0, .ref 3)] [] _ _ 0 0
  refine gn_aload_n (pc := 0) dX2_init_0 rfl 0 rfl ?_
  refine gn_objInit (pc := 1) dX2_init_1 rfl olX2_3 oI oC (by decide) (Nat.le_of_ble_eq_true rfl) ?_
  refine gn_aload_n (pc := 4) dX2_init_4 rfl 0 rfl ?_
  refine gn_iconst (pc := 5) dX2_init_5 c_5 ?_
  refine gn_newq (pc := 6) (z := 5) dX2_init_6 rfl cqX2_9 (by rfl) (by decide) (by decide) ⟨Nat.le_of_ble_eq_true rfl, Nat.le_of_ble_eq_true rfl⟩ ?_
  refine gn_putR (pc := 9) dX2_init_9 rfl fX2_11 fpX2_1 (by rfl) (by decide) ?_
  refine gn_iconst (pc := 12) dX2_init_12 c_0 ?_
  refine gn_istore_n (pc := 13) (lv2 := [(0, .ref 3), (1, .int 0)]) dX2_init_13 rfl (Nat.le_of_ble_eq_true rfl) rfl ?_
  refine gn_iload_n (pc := 14) dX2_init_14 rfl 1 rfl ?_
  refine gn_aload_n (pc := 15) dX2_init_15 rfl 0 rfl ?_
  refine gn_get (pc := 16) (b := 4) dX2_init_16 rfl fX2_11 (by rfl) (by rfl) ?_
  refine gn_alen (pc := 19) (v := 5) dX2_init_19 (by rfl) (by decide) ?_
  refine gn_icmp_ge (pc := 20) (tgt := 42) dX2_init_20 (by decide) (fun q => absurd q (by decide)) (fun _ => ?_)
  refine gn_aload_n (pc := 23) dX2_init_23 rfl 0 rfl ?_
  refine gn_get (pc := 24) (b := 4) dX2_init_24 rfl fX2_11 (by rfl) (by rfl) ?_
  refine gn_iload_n (pc := 27) dX2_init_27 rfl 1 rfl ?_
  refine gn_new (pc := 28) dX2_init_28 rfl cnX2_9 (by rfl) ⟨Nat.le_of_ble_eq_true rfl, Nat.le_of_ble_eq_true rfl⟩ ?_
  refine gn_dup (pc := 31) dX2_init_31 rfl ?_
  refine gn_call (pc := 32) (st := [.ref 5, .int 0, .ref 4]) dX2_init_32 rfl kiX2_17 iiX1_init rfl rfl (Nat.le_of_ble_eq_true rfl) (Nat.le_of_ble_eq_true rfl) ⟨Nat.le_of_ble_eq_true rfl, Nat.le_of_ble_eq_true rfl⟩ (ccX1_init (T := SC) (a := 5) (n := 6) (by rfl) (by decide) (by rfl) (by rfl)) ?_
  refine gn_aast (pc := 35) dX2_init_35 (by rfl) (by rfl) (by decide) (vin (by decide) (by decide)) ?_
  refine gn_iinc (pc := 36) (v := 1) (lv2 := [(0, .ref 3), (1, .int 1)]) dX2_init_36 1 rfl (Nat.le_of_ble_eq_true rfl) (by decide) rfl ?_
  refine gn_goto (pc := 39) (tgt := 14) dX2_init_39 (by decide) ?_
  refine gn_iload_n (pc := 14) dX2_init_14 rfl 1 rfl ?_
  refine gn_aload_n (pc := 15) dX2_init_15 rfl 0 rfl ?_
  refine gn_get (pc := 16) (b := 4) dX2_init_16 rfl fX2_11 (by rfl) (by rfl) ?_
  refine gn_alen (pc := 19) (v := 5) dX2_init_19 (by rfl) (by decide) ?_
  refine gn_icmp_ge (pc := 20) (tgt := 42) dX2_init_20 (by decide) (fun q => absurd q (by decide)) (fun _ => ?_)
  refine gn_aload_n (pc := 23) dX2_init_23 rfl 0 rfl ?_
  refine gn_get (pc := 24) (b := 4) dX2_init_24 rfl fX2_11 (by rfl) (by rfl) ?_
  refine gn_iload_n (pc := 27) dX2_init_27 rfl 1 rfl ?_
  refine gn_new (pc := 28) dX2_init_28 rfl cnX2_9 (by rfl) ⟨Nat.le_of_ble_eq_true rfl, Nat.le_of_ble_eq_true rfl⟩ ?_
  refine gn_dup (pc := 31) dX2_init_31 rfl ?_
  refine gn_call (pc := 32) (st := [.ref 8, .int 1, .ref 4]) dX2_init_32 rfl kiX2_17 iiX1_init rfl rfl (Nat.le_of_ble_eq_true rfl) (Nat.le_of_ble_eq_true rfl) ⟨Nat.le_of_ble_eq_true rfl, Nat.le_of_ble_eq_true rfl⟩ (ccX1_init (T := SC) (a := 8) (n := 9) (by rfl) (by decide) (by rfl) (by rfl)) ?_
  refine gn_aast (pc := 35) dX2_init_35 (by rfl) (by rfl) (by decide) (vin (by decide) (by decide)) ?_
  refine gn_iinc (pc := 36) (v := 2) (lv2 := [(0, .ref 3), (1, .int 2)]) dX2_init_36 1 rfl (Nat.le_of_ble_eq_true rfl) (by decide) rfl ?_
  refine gn_goto (pc := 39) (tgt := 14) dX2_init_39 (by decide) ?_
  refine gn_iload_n (pc := 14) dX2_init_14 rfl 1 rfl ?_
  refine gn_aload_n (pc := 15) dX2_init_15 rfl 0 rfl ?_
  refine gn_get (pc := 16) (b := 4) dX2_init_16 rfl fX2_11 (by rfl) (by rfl) ?_
  refine gn_alen (pc := 19) (v := 5) dX2_init_19 (by rfl) (by decide) ?_
  refine gn_icmp_ge (pc := 20) (tgt := 42) dX2_init_20 (by decide) (fun q => absurd q (by decide)) (fun _ => ?_)
  refine gn_aload_n (pc := 23) dX2_init_23 rfl 0 rfl ?_
  refine gn_get (pc := 24) (b := 4) dX2_init_24 rfl fX2_11 (by rfl) (by rfl) ?_
  refine gn_iload_n (pc := 27) dX2_init_27 rfl 1 rfl ?_
  refine gn_new (pc := 28) dX2_init_28 rfl cnX2_9 (by rfl) ⟨Nat.le_of_ble_eq_true rfl, Nat.le_of_ble_eq_true rfl⟩ ?_
  refine gn_dup (pc := 31) dX2_init_31 rfl ?_
  refine gn_call (pc := 32) (st := [.ref 11, .int 2, .ref 4]) dX2_init_32 rfl kiX2_17 iiX1_init rfl rfl (Nat.le_of_ble_eq_true rfl) (Nat.le_of_ble_eq_true rfl) ⟨Nat.le_of_ble_eq_true rfl, Nat.le_of_ble_eq_true rfl⟩ (ccX1_init (T := SC) (a := 11) (n := 12) (by rfl) (by decide) (by rfl) (by rfl)) ?_
  refine gn_aast (pc := 35) dX2_init_35 (by rfl) (by rfl) (by decide) (vin (by decide) (by decide)) ?_
  refine gn_iinc (pc := 36) (v := 3) (lv2 := [(0, .ref 3), (1, .int 3)]) dX2_init_36 1 rfl (Nat.le_of_ble_eq_true rfl) (by decide) rfl ?_
  refine gn_goto (pc := 39) (tgt := 14) dX2_init_39 (by decide) ?_
  refine gn_iload_n (pc := 14) dX2_init_14 rfl 1 rfl ?_
  refine gn_aload_n (pc := 15) dX2_init_15 rfl 0 rfl ?_
  refine gn_get (pc := 16) (b := 4) dX2_init_16 rfl fX2_11 (by rfl) (by rfl) ?_
  refine gn_alen (pc := 19) (v := 5) dX2_init_19 (by rfl) (by decide) ?_
  refine gn_icmp_ge (pc := 20) (tgt := 42) dX2_init_20 (by decide) (fun q => absurd q (by decide)) (fun _ => ?_)
  refine gn_aload_n (pc := 23) dX2_init_23 rfl 0 rfl ?_
  refine gn_get (pc := 24) (b := 4) dX2_init_24 rfl fX2_11 (by rfl) (by rfl) ?_
  refine gn_iload_n (pc := 27) dX2_init_27 rfl 1 rfl ?_
  refine gn_new (pc := 28) dX2_init_28 rfl cnX2_9 (by rfl) ⟨Nat.le_of_ble_eq_true rfl, Nat.le_of_ble_eq_true rfl⟩ ?_
  refine gn_dup (pc := 31) dX2_init_31 rfl ?_
  refine gn_call (pc := 32) (st := [.ref 14, .int 3, .ref 4]) dX2_init_32 rfl kiX2_17 iiX1_init rfl rfl (Nat.le_of_ble_eq_true rfl) (Nat.le_of_ble_eq_true rfl) ⟨Nat.le_of_ble_eq_true rfl, Nat.le_of_ble_eq_true rfl⟩ (ccX1_init (T := SC) (a := 14) (n := 15) (by rfl) (by decide) (by rfl) (by rfl)) ?_
  refine gn_aast (pc := 35) dX2_init_35 (by rfl) (by rfl) (by decide) (vin (by decide) (by decide)) ?_
  refine gn_iinc (pc := 36) (v := 4) (lv2 := [(0, .ref 3), (1, .int 4)]) dX2_init_36 1 rfl (Nat.le_of_ble_eq_true rfl) (by decide) rfl ?_
  refine gn_goto (pc := 39) (tgt := 14) dX2_init_39 (by decide) ?_
  refine gn_iload_n (pc := 14) dX2_init_14 rfl 1 rfl ?_
  refine gn_aload_n (pc := 15) dX2_init_15 rfl 0 rfl ?_
  refine gn_get (pc := 16) (b := 4) dX2_init_16 rfl fX2_11 (by rfl) (by rfl) ?_
  refine gn_alen (pc := 19) (v := 5) dX2_init_19 (by rfl) (by decide) ?_
  refine gn_icmp_ge (pc := 20) (tgt := 42) dX2_init_20 (by decide) (fun q => absurd q (by decide)) (fun _ => ?_)
  refine gn_aload_n (pc := 23) dX2_init_23 rfl 0 rfl ?_
  refine gn_get (pc := 24) (b := 4) dX2_init_24 rfl fX2_11 (by rfl) (by rfl) ?_
  refine gn_iload_n (pc := 27) dX2_init_27 rfl 1 rfl ?_
  refine gn_new (pc := 28) dX2_init_28 rfl cnX2_9 (by rfl) ⟨Nat.le_of_ble_eq_true rfl, Nat.le_of_ble_eq_true rfl⟩ ?_
  refine gn_dup (pc := 31) dX2_init_31 rfl ?_
  refine gn_call (pc := 32) (st := [.ref 17, .int 4, .ref 4]) dX2_init_32 rfl kiX2_17 iiX1_init rfl rfl (Nat.le_of_ble_eq_true rfl) (Nat.le_of_ble_eq_true rfl) ⟨Nat.le_of_ble_eq_true rfl, Nat.le_of_ble_eq_true rfl⟩ (ccX1_init (T := SC) (a := 17) (n := 18) (by rfl) (by decide) (by rfl) (by rfl)) ?_
  refine gn_aast (pc := 35) dX2_init_35 (by rfl) (by rfl) (by decide) (vin (by decide) (by decide)) ?_
  refine gn_iinc (pc := 36) (v := 5) (lv2 := [(0, .ref 3), (1, .int 5)]) dX2_init_36 1 rfl (Nat.le_of_ble_eq_true rfl) (by decide) rfl ?_
  refine gn_goto (pc := 39) (tgt := 14) dX2_init_39 (by decide) ?_
  refine gn_iload_n (pc := 14) dX2_init_14 rfl 1 rfl ?_
  refine gn_aload_n (pc := 15) dX2_init_15 rfl 0 rfl ?_
  refine gn_get (pc := 16) (b := 4) dX2_init_16 rfl fX2_11 (by rfl) (by rfl) ?_
  refine gn_alen (pc := 19) (v := 5) dX2_init_19 (by rfl) (by decide) ?_
  refine gn_icmp_ge (pc := 20) (tgt := 42) dX2_init_20 (by decide) (fun _ => ?_) (fun q => absurd (by decide) q)
  refine gn_aload_n (pc := 42) dX2_init_42 rfl 0 rfl ?_
  refine gn_iconst (pc := 43) dX2_init_43 c_4 ?_
  refine gn_newa (pc := 44) (z := 4) dX2_init_44 (inT 74 (by decide +kernel) rfl) rfl (Or.inl ⟨rfl, rfl⟩) (by rfl) (by decide) (by decide) ⟨Nat.le_of_ble_eq_true rfl, Nat.le_of_ble_eq_true rfl⟩ ?_
  refine gn_putR (pc := 46) dX2_init_46 rfl fX2_18 fpX2_3 (by rfl) (by decide) ?_
  refine gn_aload_n (pc := 49) dX2_init_49 rfl 0 rfl ?_
  refine gn_iconst (pc := 50) dX2_init_50 c_4 ?_
  refine gn_newa (pc := 51) (z := 4) dX2_init_51 (inT 74 (by decide +kernel) rfl) rfl (Or.inl ⟨rfl, rfl⟩) (by rfl) (by decide) (by decide) ⟨Nat.le_of_ble_eq_true rfl, Nat.le_of_ble_eq_true rfl⟩ ?_
  refine gn_putR (pc := 53) dX2_init_53 rfl fX2_22 fpX2_4 (by rfl) (by decide) ?_
  refine gn_aload_n (pc := 56) dX2_init_56 rfl 0 rfl ?_
  refine gn_bipush (pc := 57) (v := 6) dX2_init_57 (by decide) ?_
  refine gn_newa (pc := 59) (z := 6) dX2_init_59 (inT 74 (by decide +kernel) rfl) rfl (Or.inl ⟨rfl, rfl⟩) (by rfl) (by decide) (by decide) ⟨Nat.le_of_ble_eq_true rfl, Nat.le_of_ble_eq_true rfl⟩ ?_
  refine gn_putR (pc := 61) dX2_init_61 rfl fX2_25 fpX2_6 (by rfl) (by decide) ?_
  refine gn_aload_n (pc := 64) dX2_init_64 rfl 0 rfl ?_
  refine gn_bipush (pc := 65) (v := 6) dX2_init_65 (by decide) ?_
  refine gn_newa (pc := 67) (z := 6) dX2_init_67 (inT 74 (by decide +kernel) rfl) rfl (Or.inl ⟨rfl, rfl⟩) (by rfl) (by decide) (by decide) ⟨Nat.le_of_ble_eq_true rfl, Nat.le_of_ble_eq_true rfl⟩ ?_
  refine gn_putR (pc := 69) dX2_init_69 rfl fX2_28 fpX2_7 (by rfl) (by decide) ?_
  refine gn_aload_n (pc := 72) dX2_init_72 rfl 0 rfl ?_
  refine gn_bipush (pc := 73) (v := 6) dX2_init_73 (by decide) ?_
  refine gn_newa (pc := 75) (z := 6) dX2_init_75 (inT 74 (by decide +kernel) rfl) rfl (Or.inl ⟨rfl, rfl⟩) (by rfl) (by decide) (by decide) ⟨Nat.le_of_ble_eq_true rfl, Nat.le_of_ble_eq_true rfl⟩ ?_
  refine gn_putR (pc := 77) dX2_init_77 rfl fX2_31 fpX2_8 (by rfl) (by decide) ?_
  refine gn_aload_n (pc := 80) dX2_init_80 rfl 0 rfl ?_
  refine gn_bipush (pc := 81) (v := 6) dX2_init_81 (by decide) ?_
  refine gn_newa (pc := 83) (z := 6) dX2_init_83 (inT 74 (by decide +kernel) rfl) rfl (Or.inl ⟨rfl, rfl⟩) (by rfl) (by decide) (by decide) ⟨Nat.le_of_ble_eq_true rfl, Nat.le_of_ble_eq_true rfl⟩ ?_
  refine gn_putR (pc := 85) dX2_init_85 rfl fX2_34 fpX2_9 (by rfl) (by decide) ?_
  exact gn_vret (pc := 88) dX2_init_88 rfl ⟨Nat.le_of_ble_eq_true rfl, Nat.le_of_ble_eq_true rfl⟩ rfl rfl
def iX2_26 (w : Wd) : Wd := (sr (sr (sr (sr (sr (sr (sr (iX1_init 40 41 (sr (iX1_init 37 38 (sr (iX1_init 34 35 (sr (iX1_init 31 32 (sr (iX1_init 28 29 (sr w 26 1 (some 27))) 27 ((0 : Int32).toNatClampNeg) (some 28))) 27 ((1 : Int32).toNatClampNeg) (some 31))) 27 ((2 : Int32).toNatClampNeg) (some 34))) 27 ((3 : Int32).toNatClampNeg) (some 37))) 27 ((4 : Int32).toNatClampNeg) (some 40)) 26 3 (some 43)) 26 4 (some 44)) 26 6 (some 45)) 26 7 (some 46)) 26 8 (some 47)) 26 9 (some 48))
set_option maxHeartbeats 4000000 in
set_option maxRecDepth 100000 in
theorem ccX2_init_26 {w : Wd} : CN SC mX2_init [.ref 26] 27 w 49 (iX2_26 w) 22 132 := by
  refine cn_of (by decide) rfl (Nat.le_of_ble_eq_true rfl) ?_
  show GoN _ mX2_init 22 132 _ _ _ 0 [(0, .ref 26)] [] _ _ 0 0
  refine gn_aload_n (pc := 0) dX2_init_0 rfl 0 rfl ?_
  refine gn_objInit (pc := 1) dX2_init_1 rfl olX2_3 oI oC (by decide) (Nat.le_of_ble_eq_true rfl) ?_
  refine gn_aload_n (pc := 4) dX2_init_4 rfl 0 rfl ?_
  refine gn_iconst (pc := 5) dX2_init_5 c_5 ?_
  refine gn_newq (pc := 6) (z := 5) dX2_init_6 rfl cqX2_9 (by rfl) (by decide) (by decide) ⟨Nat.le_of_ble_eq_true rfl, Nat.le_of_ble_eq_true rfl⟩ ?_
  refine gn_putR (pc := 9) dX2_init_9 rfl fX2_11 fpX2_1 (by rfl) (by decide) ?_
  refine gn_iconst (pc := 12) dX2_init_12 c_0 ?_
  refine gn_istore_n (pc := 13) (lv2 := [(0, .ref 26), (1, .int 0)]) dX2_init_13 rfl (Nat.le_of_ble_eq_true rfl) rfl ?_
  refine gn_iload_n (pc := 14) dX2_init_14 rfl 1 rfl ?_
  refine gn_aload_n (pc := 15) dX2_init_15 rfl 0 rfl ?_
  refine gn_get (pc := 16) (b := 27) dX2_init_16 rfl fX2_11 (by rfl) (by rfl) ?_
  refine gn_alen (pc := 19) (v := 5) dX2_init_19 (by rfl) (by decide) ?_
  refine gn_icmp_ge (pc := 20) (tgt := 42) dX2_init_20 (by decide) (fun q => absurd q (by decide)) (fun _ => ?_)
  refine gn_aload_n (pc := 23) dX2_init_23 rfl 0 rfl ?_
  refine gn_get (pc := 24) (b := 27) dX2_init_24 rfl fX2_11 (by rfl) (by rfl) ?_
  refine gn_iload_n (pc := 27) dX2_init_27 rfl 1 rfl ?_
  refine gn_new (pc := 28) dX2_init_28 rfl cnX2_9 (by rfl) ⟨Nat.le_of_ble_eq_true rfl, Nat.le_of_ble_eq_true rfl⟩ ?_
  refine gn_dup (pc := 31) dX2_init_31 rfl ?_
  refine gn_call (pc := 32) (st := [.ref 28, .int 0, .ref 27]) dX2_init_32 rfl kiX2_17 iiX1_init rfl rfl (Nat.le_of_ble_eq_true rfl) (Nat.le_of_ble_eq_true rfl) ⟨Nat.le_of_ble_eq_true rfl, Nat.le_of_ble_eq_true rfl⟩ (ccX1_init (T := SC) (a := 28) (n := 29) (by rfl) (by decide) (by rfl) (by rfl)) ?_
  refine gn_aast (pc := 35) dX2_init_35 (by rfl) (by rfl) (by decide) (vin (by decide) (by decide)) ?_
  refine gn_iinc (pc := 36) (v := 1) (lv2 := [(0, .ref 26), (1, .int 1)]) dX2_init_36 1 rfl (Nat.le_of_ble_eq_true rfl) (by decide) rfl ?_
  refine gn_goto (pc := 39) (tgt := 14) dX2_init_39 (by decide) ?_
  refine gn_iload_n (pc := 14) dX2_init_14 rfl 1 rfl ?_
  refine gn_aload_n (pc := 15) dX2_init_15 rfl 0 rfl ?_
  refine gn_get (pc := 16) (b := 27) dX2_init_16 rfl fX2_11 (by rfl) (by rfl) ?_
  refine gn_alen (pc := 19) (v := 5) dX2_init_19 (by rfl) (by decide) ?_
  refine gn_icmp_ge (pc := 20) (tgt := 42) dX2_init_20 (by decide) (fun q => absurd q (by decide)) (fun _ => ?_)
  refine gn_aload_n (pc := 23) dX2_init_23 rfl 0 rfl ?_
  refine gn_get (pc := 24) (b := 27) dX2_init_24 rfl fX2_11 (by rfl) (by rfl) ?_
  refine gn_iload_n (pc := 27) dX2_init_27 rfl 1 rfl ?_
  refine gn_new (pc := 28) dX2_init_28 rfl cnX2_9 (by rfl) ⟨Nat.le_of_ble_eq_true rfl, Nat.le_of_ble_eq_true rfl⟩ ?_
  refine gn_dup (pc := 31) dX2_init_31 rfl ?_
  refine gn_call (pc := 32) (st := [.ref 31, .int 1, .ref 27]) dX2_init_32 rfl kiX2_17 iiX1_init rfl rfl (Nat.le_of_ble_eq_true rfl) (Nat.le_of_ble_eq_true rfl) ⟨Nat.le_of_ble_eq_true rfl, Nat.le_of_ble_eq_true rfl⟩ (ccX1_init (T := SC) (a := 31) (n := 32) (by rfl) (by decide) (by rfl) (by rfl)) ?_
  refine gn_aast (pc := 35) dX2_init_35 (by rfl) (by rfl) (by decide) (vin (by decide) (by decide)) ?_
  refine gn_iinc (pc := 36) (v := 2) (lv2 := [(0, .ref 26), (1, .int 2)]) dX2_init_36 1 rfl (Nat.le_of_ble_eq_true rfl) (by decide) rfl ?_
  refine gn_goto (pc := 39) (tgt := 14) dX2_init_39 (by decide) ?_
  refine gn_iload_n (pc := 14) dX2_init_14 rfl 1 rfl ?_
  refine gn_aload_n (pc := 15) dX2_init_15 rfl 0 rfl ?_
  refine gn_get (pc := 16) (b := 27) dX2_init_16 rfl fX2_11 (by rfl) (by rfl) ?_
  refine gn_alen (pc := 19) (v := 5) dX2_init_19 (by rfl) (by decide) ?_
  refine gn_icmp_ge (pc := 20) (tgt := 42) dX2_init_20 (by decide) (fun q => absurd q (by decide)) (fun _ => ?_)
  refine gn_aload_n (pc := 23) dX2_init_23 rfl 0 rfl ?_
  refine gn_get (pc := 24) (b := 27) dX2_init_24 rfl fX2_11 (by rfl) (by rfl) ?_
  refine gn_iload_n (pc := 27) dX2_init_27 rfl 1 rfl ?_
  refine gn_new (pc := 28) dX2_init_28 rfl cnX2_9 (by rfl) ⟨Nat.le_of_ble_eq_true rfl, Nat.le_of_ble_eq_true rfl⟩ ?_
  refine gn_dup (pc := 31) dX2_init_31 rfl ?_
  refine gn_call (pc := 32) (st := [.ref 34, .int 2, .ref 27]) dX2_init_32 rfl kiX2_17 iiX1_init rfl rfl (Nat.le_of_ble_eq_true rfl) (Nat.le_of_ble_eq_true rfl) ⟨Nat.le_of_ble_eq_true rfl, Nat.le_of_ble_eq_true rfl⟩ (ccX1_init (T := SC) (a := 34) (n := 35) (by rfl) (by decide) (by rfl) (by rfl)) ?_
  refine gn_aast (pc := 35) dX2_init_35 (by rfl) (by rfl) (by decide) (vin (by decide) (by decide)) ?_
  refine gn_iinc (pc := 36) (v := 3) (lv2 := [(0, .ref 26), (1, .int 3)]) dX2_init_36 1 rfl (Nat.le_of_ble_eq_true rfl) (by decide) rfl ?_
  refine gn_goto (pc := 39) (tgt := 14) dX2_init_39 (by decide) ?_
  refine gn_iload_n (pc := 14) dX2_init_14 rfl 1 rfl ?_
  refine gn_aload_n (pc := 15) dX2_init_15 rfl 0 rfl ?_
  refine gn_get (pc := 16) (b := 27) dX2_init_16 rfl fX2_11 (by rfl) (by rfl) ?_
  refine gn_alen (pc := 19) (v := 5) dX2_init_19 (by rfl) (by decide) ?_
  refine gn_icmp_ge (pc := 20) (tgt := 42) dX2_init_20 (by decide) (fun q => absurd q (by decide)) (fun _ => ?_)
  refine gn_aload_n (pc := 23) dX2_init_23 rfl 0 rfl ?_
  refine gn_get (pc := 24) (b := 27) dX2_init_24 rfl fX2_11 (by rfl) (by rfl) ?_
  refine gn_iload_n (pc := 27) dX2_init_27 rfl 1 rfl ?_
  refine gn_new (pc := 28) dX2_init_28 rfl cnX2_9 (by rfl) ⟨Nat.le_of_ble_eq_true rfl, Nat.le_of_ble_eq_true rfl⟩ ?_
  refine gn_dup (pc := 31) dX2_init_31 rfl ?_
  refine gn_call (pc := 32) (st := [.ref 37, .int 3, .ref 27]) dX2_init_32 rfl kiX2_17 iiX1_init rfl rfl (Nat.le_of_ble_eq_true rfl) (Nat.le_of_ble_eq_true rfl) ⟨Nat.le_of_ble_eq_true rfl, Nat.le_of_ble_eq_true rfl⟩ (ccX1_init (T := SC) (a := 37) (n := 38) (by rfl) (by decide) (by rfl) (by rfl)) ?_
  refine gn_aast (pc := 35) dX2_init_35 (by rfl) (by rfl) (by decide) (vin (by decide) (by decide)) ?_
  refine gn_iinc (pc := 36) (v := 4) (lv2 := [(0, .ref 26), (1, .int 4)]) dX2_init_36 1 rfl (Nat.le_of_ble_eq_true rfl) (by decide) rfl ?_
  refine gn_goto (pc := 39) (tgt := 14) dX2_init_39 (by decide) ?_
  refine gn_iload_n (pc := 14) dX2_init_14 rfl 1 rfl ?_
  refine gn_aload_n (pc := 15) dX2_init_15 rfl 0 rfl ?_
  refine gn_get (pc := 16) (b := 27) dX2_init_16 rfl fX2_11 (by rfl) (by rfl) ?_
  refine gn_alen (pc := 19) (v := 5) dX2_init_19 (by rfl) (by decide) ?_
  refine gn_icmp_ge (pc := 20) (tgt := 42) dX2_init_20 (by decide) (fun q => absurd q (by decide)) (fun _ => ?_)
  refine gn_aload_n (pc := 23) dX2_init_23 rfl 0 rfl ?_
  refine gn_get (pc := 24) (b := 27) dX2_init_24 rfl fX2_11 (by rfl) (by rfl) ?_
  refine gn_iload_n (pc := 27) dX2_init_27 rfl 1 rfl ?_
  refine gn_new (pc := 28) dX2_init_28 rfl cnX2_9 (by rfl) ⟨Nat.le_of_ble_eq_true rfl, Nat.le_of_ble_eq_true rfl⟩ ?_
  refine gn_dup (pc := 31) dX2_init_31 rfl ?_
  refine gn_call (pc := 32) (st := [.ref 40, .int 4, .ref 27]) dX2_init_32 rfl kiX2_17 iiX1_init rfl rfl (Nat.le_of_ble_eq_true rfl) (Nat.le_of_ble_eq_true rfl) ⟨Nat.le_of_ble_eq_true rfl, Nat.le_of_ble_eq_true rfl⟩ (ccX1_init (T := SC) (a := 40) (n := 41) (by rfl) (by decide) (by rfl) (by rfl)) ?_
  refine gn_aast (pc := 35) dX2_init_35 (by rfl) (by rfl) (by decide) (vin (by decide) (by decide)) ?_
  refine gn_iinc (pc := 36) (v := 5) (lv2 := [(0, .ref 26), (1, .int 5)]) dX2_init_36 1 rfl (Nat.le_of_ble_eq_true rfl) (by decide) rfl ?_
  refine gn_goto (pc := 39) (tgt := 14) dX2_init_39 (by decide) ?_
  refine gn_iload_n (pc := 14) dX2_init_14 rfl 1 rfl ?_
  refine gn_aload_n (pc := 15) dX2_init_15 rfl 0 rfl ?_
  refine gn_get (pc := 16) (b := 27) dX2_init_16 rfl fX2_11 (by rfl) (by rfl) ?_
  refine gn_alen (pc := 19) (v := 5) dX2_init_19 (by rfl) (by decide) ?_
  refine gn_icmp_ge (pc := 20) (tgt := 42) dX2_init_20 (by decide) (fun _ => ?_) (fun q => absurd (by decide) q)
  refine gn_aload_n (pc := 42) dX2_init_42 rfl 0 rfl ?_
  refine gn_iconst (pc := 43) dX2_init_43 c_4 ?_
  refine gn_newa (pc := 44) (z := 4) dX2_init_44 (inT 74 (by decide +kernel) rfl) rfl (Or.inl ⟨rfl, rfl⟩) (by rfl) (by decide) (by decide) ⟨Nat.le_of_ble_eq_true rfl, Nat.le_of_ble_eq_true rfl⟩ ?_
  refine gn_putR (pc := 46) dX2_init_46 rfl fX2_18 fpX2_3 (by rfl) (by decide) ?_
  refine gn_aload_n (pc := 49) dX2_init_49 rfl 0 rfl ?_
  refine gn_iconst (pc := 50) dX2_init_50 c_4 ?_
  refine gn_newa (pc := 51) (z := 4) dX2_init_51 (inT 74 (by decide +kernel) rfl) rfl (Or.inl ⟨rfl, rfl⟩) (by rfl) (by decide) (by decide) ⟨Nat.le_of_ble_eq_true rfl, Nat.le_of_ble_eq_true rfl⟩ ?_
  refine gn_putR (pc := 53) dX2_init_53 rfl fX2_22 fpX2_4 (by rfl) (by decide) ?_
  refine gn_aload_n (pc := 56) dX2_init_56 rfl 0 rfl ?_
  refine gn_bipush (pc := 57) (v := 6) dX2_init_57 (by decide) ?_
  refine gn_newa (pc := 59) (z := 6) dX2_init_59 (inT 74 (by decide +kernel) rfl) rfl (Or.inl ⟨rfl, rfl⟩) (by rfl) (by decide) (by decide) ⟨Nat.le_of_ble_eq_true rfl, Nat.le_of_ble_eq_true rfl⟩ ?_
  refine gn_putR (pc := 61) dX2_init_61 rfl fX2_25 fpX2_6 (by rfl) (by decide) ?_
  refine gn_aload_n (pc := 64) dX2_init_64 rfl 0 rfl ?_
  refine gn_bipush (pc := 65) (v := 6) dX2_init_65 (by decide) ?_
  refine gn_newa (pc := 67) (z := 6) dX2_init_67 (inT 74 (by decide +kernel) rfl) rfl (Or.inl ⟨rfl, rfl⟩) (by rfl) (by decide) (by decide) ⟨Nat.le_of_ble_eq_true rfl, Nat.le_of_ble_eq_true rfl⟩ ?_
  refine gn_putR (pc := 69) dX2_init_69 rfl fX2_28 fpX2_7 (by rfl) (by decide) ?_
  refine gn_aload_n (pc := 72) dX2_init_72 rfl 0 rfl ?_
  refine gn_bipush (pc := 73) (v := 6) dX2_init_73 (by decide) ?_
  refine gn_newa (pc := 75) (z := 6) dX2_init_75 (inT 74 (by decide +kernel) rfl) rfl (Or.inl ⟨rfl, rfl⟩) (by rfl) (by decide) (by decide) ⟨Nat.le_of_ble_eq_true rfl, Nat.le_of_ble_eq_true rfl⟩ ?_
  refine gn_putR (pc := 77) dX2_init_77 rfl fX2_31 fpX2_8 (by rfl) (by decide) ?_
  refine gn_aload_n (pc := 80) dX2_init_80 rfl 0 rfl ?_
  refine gn_bipush (pc := 81) (v := 6) dX2_init_81 (by decide) ?_
  refine gn_newa (pc := 83) (z := 6) dX2_init_83 (inT 74 (by decide +kernel) rfl) rfl (Or.inl ⟨rfl, rfl⟩) (by rfl) (by decide) (by decide) ⟨Nat.le_of_ble_eq_true rfl, Nat.le_of_ble_eq_true rfl⟩ ?_
  refine gn_putR (pc := 85) dX2_init_85 rfl fX2_34 fpX2_9 (by rfl) (by decide) ?_
  exact gn_vret (pc := 88) dX2_init_88 rfl ⟨Nat.le_of_ble_eq_true rfl, Nat.le_of_ble_eq_true rfl⟩ rfl rfl
def iX10_init (w : Wd) : Wd := (sr (iX0_init 62 63 (sr (iX3_init 61 62 (sr (iX9_init 58 59 (sr (iX5_init 57 58 (sr (iX5_init 56 57 (sr (iX7_init 55 56 (sr (iX4_init 49 50 (sr (iX2_26 (sr (iX2_3 (sr (iX8_init 1 2 w) 0 0 (some 1))) 0 1 (some 3))) 0 2 (some 26))) 0 3 (some 49))) 0 4 (some 55))) 0 5 (some 56))) 0 6 (some 57))) 0 7 (some 58))) 0 8 (some 61))) 0 9 (some 62))
set_option maxHeartbeats 4000000 in
set_option maxRecDepth 100000 in
theorem ccX10_init {w : Wd} : CN SC mX10_init [.ref 0] 1 w 64 (iX10_init w) 63 1259 := by
  refine cn_of (by decide) rfl (Nat.le_of_ble_eq_true rfl) ?_
  show GoN _ mX10_init 63 1259 _ _ _ 0 [(0, .ref 0)] [] _ _ 0 0
  refine gn_aload_n (pc := 0) dX10_init_0 rfl 0 rfl ?_
  refine gn_objInit (pc := 1) dX10_init_1 rfl olX10_1 oI oC (by decide) (Nat.le_of_ble_eq_true rfl) ?_
  refine gn_aload_n (pc := 4) dX10_init_4 rfl 0 rfl ?_
  refine gn_new (pc := 5) dX10_init_5 rfl cnX10_7 (by rfl) ⟨Nat.le_of_ble_eq_true rfl, Nat.le_of_ble_eq_true rfl⟩ ?_
  refine gn_dup (pc := 8) dX10_init_8 rfl ?_
  refine gn_call (pc := 9) (st := [.ref 1, .ref 0]) dX10_init_9 rfl kiX10_9 iiX8_init rfl rfl (Nat.le_of_ble_eq_true rfl) (Nat.le_of_ble_eq_true rfl) ⟨Nat.le_of_ble_eq_true rfl, Nat.le_of_ble_eq_true rfl⟩ (ccX8_init (T := SC) (a := 1) (n := 2) (by rfl) (by decide) (by rfl)) ?_
  refine gn_putR (pc := 12) dX10_init_12 rfl fX10_10 fpX10_0 (by rfl) (by decide) ?_
  refine gn_aload_n (pc := 15) dX10_init_15 rfl 0 rfl ?_
  refine gn_new (pc := 16) dX10_init_16 rfl cnX10_16 (by rfl) ⟨Nat.le_of_ble_eq_true rfl, Nat.le_of_ble_eq_true rfl⟩ ?_
  refine gn_dup (pc := 19) dX10_init_19 rfl ?_
  refine gn_call (pc := 20) (st := [.ref 3, .ref 0]) dX10_init_20 rfl kiX10_18 iiX2_init rfl rfl (Nat.le_of_ble_eq_true rfl) (Nat.le_of_ble_eq_true rfl) ⟨Nat.le_of_ble_eq_true rfl, Nat.le_of_ble_eq_true rfl⟩ ccX2_init_3 ?_
  refine gn_putR (pc := 23) dX10_init_23 rfl fX10_19 fpX10_1 (by rfl) (by decide) ?_
  refine gn_aload_n (pc := 26) dX10_init_26 rfl 0 rfl ?_
  refine gn_new (pc := 27) dX10_init_27 rfl cnX10_16 (by rfl) ⟨Nat.le_of_ble_eq_true rfl, Nat.le_of_ble_eq_true rfl⟩ ?_
  refine gn_dup (pc := 30) dX10_init_30 rfl ?_
  refine gn_call (pc := 31) (st := [.ref 26, .ref 0]) dX10_init_31 rfl kiX10_18 iiX2_init rfl rfl (Nat.le_of_ble_eq_true rfl) (Nat.le_of_ble_eq_true rfl) ⟨Nat.le_of_ble_eq_true rfl, Nat.le_of_ble_eq_true rfl⟩ ccX2_init_26 ?_
  refine gn_putR (pc := 34) dX10_init_34 rfl fX10_23 fpX10_2 (by rfl) (by decide) ?_
  refine gn_aload_n (pc := 37) dX10_init_37 rfl 0 rfl ?_
  refine gn_new (pc := 38) dX10_init_38 rfl cnX10_26 (by rfl) ⟨Nat.le_of_ble_eq_true rfl, Nat.le_of_ble_eq_true rfl⟩ ?_
  refine gn_dup (pc := 41) dX10_init_41 rfl ?_
  refine gn_call (pc := 42) (st := [.ref 49, .ref 0]) dX10_init_42 rfl kiX10_28 iiX4_init rfl rfl (Nat.le_of_ble_eq_true rfl) (Nat.le_of_ble_eq_true rfl) ⟨Nat.le_of_ble_eq_true rfl, Nat.le_of_ble_eq_true rfl⟩ (ccX4_init (T := SC) (a := 49) (n := 50) (by rfl) (by decide) (by rfl) (by rfl) (by rfl) (by rfl) (by rfl)) ?_
  refine gn_putR (pc := 45) dX10_init_45 rfl fX10_29 fpX10_3 (by rfl) (by decide) ?_
  refine gn_aload_n (pc := 48) dX10_init_48 rfl 0 rfl ?_
  refine gn_new (pc := 49) dX10_init_49 rfl cnX10_33 (by rfl) ⟨Nat.le_of_ble_eq_true rfl, Nat.le_of_ble_eq_true rfl⟩ ?_
  refine gn_dup (pc := 52) dX10_init_52 rfl ?_
  refine gn_call (pc := 53) (st := [.ref 55, .ref 0]) dX10_init_53 rfl kiX10_35 iiX7_init rfl rfl (Nat.le_of_ble_eq_true rfl) (Nat.le_of_ble_eq_true rfl) ⟨Nat.le_of_ble_eq_true rfl, Nat.le_of_ble_eq_true rfl⟩ (ccX7_init (T := SC) (a := 55) (n := 56) (by rfl) (by decide)) ?_
  refine gn_putR (pc := 56) dX10_init_56 rfl fX10_36 fpX10_4 (by rfl) (by decide) ?_
  refine gn_aload_n (pc := 59) dX10_init_59 rfl 0 rfl ?_
  refine gn_new (pc := 60) dX10_init_60 rfl cnX10_40 (by rfl) ⟨Nat.le_of_ble_eq_true rfl, Nat.le_of_ble_eq_true rfl⟩ ?_
  refine gn_dup (pc := 63) dX10_init_63 rfl ?_
  refine gn_call (pc := 64) (st := [.ref 56, .ref 0]) dX10_init_64 rfl kiX10_42 iiX5_init rfl rfl (Nat.le_of_ble_eq_true rfl) (Nat.le_of_ble_eq_true rfl) ⟨Nat.le_of_ble_eq_true rfl, Nat.le_of_ble_eq_true rfl⟩ (ccX5_init (T := SC) (a := 56) (n := 57) (by rfl) (by decide)) ?_
  refine gn_putR (pc := 67) dX10_init_67 rfl fX10_43 fpX10_5 (by rfl) (by decide) ?_
  refine gn_aload_n (pc := 70) dX10_init_70 rfl 0 rfl ?_
  refine gn_new (pc := 71) dX10_init_71 rfl cnX10_40 (by rfl) ⟨Nat.le_of_ble_eq_true rfl, Nat.le_of_ble_eq_true rfl⟩ ?_
  refine gn_dup (pc := 74) dX10_init_74 rfl ?_
  refine gn_call (pc := 75) (st := [.ref 57, .ref 0]) dX10_init_75 rfl kiX10_42 iiX5_init rfl rfl (Nat.le_of_ble_eq_true rfl) (Nat.le_of_ble_eq_true rfl) ⟨Nat.le_of_ble_eq_true rfl, Nat.le_of_ble_eq_true rfl⟩ (ccX5_init (T := SC) (a := 57) (n := 58) (by rfl) (by decide)) ?_
  refine gn_putR (pc := 78) dX10_init_78 rfl fX10_47 fpX10_6 (by rfl) (by decide) ?_
  refine gn_aload_n (pc := 81) dX10_init_81 rfl 0 rfl ?_
  refine gn_new (pc := 82) dX10_init_82 rfl cnX10_50 (by rfl) ⟨Nat.le_of_ble_eq_true rfl, Nat.le_of_ble_eq_true rfl⟩ ?_
  refine gn_dup (pc := 85) dX10_init_85 rfl ?_
  refine gn_call (pc := 86) (st := [.ref 58, .ref 0]) dX10_init_86 rfl kiX10_52 iiX9_init rfl rfl (Nat.le_of_ble_eq_true rfl) (Nat.le_of_ble_eq_true rfl) ⟨Nat.le_of_ble_eq_true rfl, Nat.le_of_ble_eq_true rfl⟩ (ccX9_init (T := SC) (a := 58) (n := 59) (by rfl) (by decide) (by rfl) (by rfl)) ?_
  refine gn_putR (pc := 89) dX10_init_89 rfl fX10_53 fpX10_7 (by rfl) (by decide) ?_
  refine gn_aload_n (pc := 92) dX10_init_92 rfl 0 rfl ?_
  refine gn_new (pc := 93) dX10_init_93 rfl cnX10_57 (by rfl) ⟨Nat.le_of_ble_eq_true rfl, Nat.le_of_ble_eq_true rfl⟩ ?_
  refine gn_dup (pc := 96) dX10_init_96 rfl ?_
  refine gn_call (pc := 97) (st := [.ref 61, .ref 0]) dX10_init_97 rfl kiX10_59 iiX3_init rfl rfl (Nat.le_of_ble_eq_true rfl) (Nat.le_of_ble_eq_true rfl) ⟨Nat.le_of_ble_eq_true rfl, Nat.le_of_ble_eq_true rfl⟩ (ccX3_init (T := SC) (a := 61) (n := 62) (by rfl) (by decide)) ?_
  refine gn_putR (pc := 100) dX10_init_100 rfl fX10_60 fpX10_8 (by rfl) (by decide) ?_
  refine gn_aload_n (pc := 103) dX10_init_103 rfl 0 rfl ?_
  refine gn_new (pc := 104) dX10_init_104 rfl cnX10_64 (by rfl) ⟨Nat.le_of_ble_eq_true rfl, Nat.le_of_ble_eq_true rfl⟩ ?_
  refine gn_dup (pc := 107) dX10_init_107 rfl ?_
  refine gn_call (pc := 108) (st := [.ref 62, .ref 0]) dX10_init_108 rfl kiX10_66 iiX0_init rfl rfl (Nat.le_of_ble_eq_true rfl) (Nat.le_of_ble_eq_true rfl) ⟨Nat.le_of_ble_eq_true rfl, Nat.le_of_ble_eq_true rfl⟩ (ccX0_init (T := SC) (a := 62) (n := 63) (by rfl) (by decide) (by rfl)) ?_
  refine gn_putR (pc := 111) dX10_init_111 rfl fX10_67 fpX10_9 (by rfl) (by decide) ?_
  exact gn_vret (pc := 114) dX10_init_114 rfl ⟨Nat.le_of_ble_eq_true rfl, Nat.le_of_ble_eq_true rfl⟩ rfl rfl
def iX11_init (w : Wd) : Wd := (sr (sr (sr (sr (sr (sr (sr (sr (sr (sr (sr (sr (si (sr w 0 1 (some 1)) 0 10 (-1)) 0 12 (some 2)) 0 16 (some 3)) 0 17 (some 4)) 0 18 (some 5)) 0 19 (some 6)) 0 20 (some 7)) 0 25 (some 8)) 0 27 (some 9)) 0 28 (some 10)) 0 34 (some 11)) 0 35 (some 12)) 0 40 (some 13))
set_option maxHeartbeats 4000000 in
set_option maxRecDepth 100000 in
theorem ccX11_init {w : Wd} : CN SR mX11_init [.ref 0] 1 w 14 (iX11_init w) 13 7716 := by
  refine cn_of (by decide) rfl (Nat.le_of_ble_eq_true rfl) ?_
  show GoN _ mX11_init 13 7716 _ _ _ 0 [(0, .ref 0)] [] _ _ 0 0
  refine gn_aload_n (pc := 0) dX11_init_0 rfl 0 rfl ?_
  refine gn_objInit (pc := 1) dX11_init_1 rfl olX11_1 oI oC (by decide) (Nat.le_of_ble_eq_true rfl) ?_
  refine gn_aload_n (pc := 4) dX11_init_4 rfl 0 rfl ?_
  refine gn_sipush (pc := 5) (v := 600) dX11_init_5 (by decide) ?_
  refine gn_newa (pc := 8) (z := 600) dX11_init_8 (inT 74 (by decide +kernel) rfl) rfl (Or.inl ⟨rfl, rfl⟩) (by rfl) (by decide) (by decide) ⟨Nat.le_of_ble_eq_true rfl, Nat.le_of_ble_eq_true rfl⟩ ?_
  refine gn_putR (pc := 10) dX11_init_10 rfl fX11_7 fpX11_1 (by rfl) (by decide) ?_
  refine gn_aload_n (pc := 13) dX11_init_13 rfl 0 rfl ?_
  refine gn_iconst (pc := 14) dX11_init_14 cN_1 ?_
  refine gn_putI (pc := 15) dX11_init_15 rfl fX11_13 pX11_10 (by rfl) (by decide) ?_
  refine gn_aload_n (pc := 18) dX11_init_18 rfl 0 rfl ?_
  refine gn_bipush (pc := 19) (v := 12) dX11_init_19 (by decide) ?_
  refine gn_newa (pc := 21) (z := 12) dX11_init_21 (inT 74 (by decide +kernel) rfl) rfl (Or.inl ⟨rfl, rfl⟩) (by rfl) (by decide) (by decide) ⟨Nat.le_of_ble_eq_true rfl, Nat.le_of_ble_eq_true rfl⟩ ?_
  refine gn_putR (pc := 23) dX11_init_23 rfl fX11_17 fpX11_12 (by rfl) (by decide) ?_
  refine gn_aload_n (pc := 26) dX11_init_26 rfl 0 rfl ?_
  refine gn_sipush (pc := 27) (v := 146) dX11_init_27 (by decide) ?_
  refine gn_newa (pc := 30) (z := 146) dX11_init_30 (inT 74 (by decide +kernel) rfl) rfl (Or.inl ⟨rfl, rfl⟩) (by rfl) (by decide) (by decide) ⟨Nat.le_of_ble_eq_true rfl, Nat.le_of_ble_eq_true rfl⟩ ?_
  refine gn_putR (pc := 32) dX11_init_32 rfl fX11_20 fpX11_16 (by rfl) (by decide) ?_
  refine gn_aload_n (pc := 35) dX11_init_35 rfl 0 rfl ?_
  refine gn_sipush (pc := 36) (v := 146) dX11_init_36 (by decide) ?_
  refine gn_newa (pc := 39) (z := 146) dX11_init_39 (inT 74 (by decide +kernel) rfl) rfl (Or.inl ⟨rfl, rfl⟩) (by rfl) (by decide) (by decide) ⟨Nat.le_of_ble_eq_true rfl, Nat.le_of_ble_eq_true rfl⟩ ?_
  refine gn_putR (pc := 41) dX11_init_41 rfl fX11_23 fpX11_17 (by rfl) (by decide) ?_
  refine gn_aload_n (pc := 44) dX11_init_44 rfl 0 rfl ?_
  refine gn_bipush (pc := 45) (v := 10) dX11_init_45 (by decide) ?_
  refine gn_newa (pc := 47) (z := 10) dX11_init_47 (inT 74 (by decide +kernel) rfl) rfl (Or.inl ⟨rfl, rfl⟩) (by rfl) (by decide) (by decide) ⟨Nat.le_of_ble_eq_true rfl, Nat.le_of_ble_eq_true rfl⟩ ?_
  refine gn_putR (pc := 49) dX11_init_49 rfl fX11_26 fpX11_18 (by rfl) (by decide) ?_
  refine gn_aload_n (pc := 52) dX11_init_52 rfl 0 rfl ?_
  refine gn_sipush (pc := 53) (v := 160) dX11_init_53 (by decide) ?_
  refine gn_newa (pc := 56) (z := 160) dX11_init_56 (inT 74 (by decide +kernel) rfl) rfl (Or.inl ⟨rfl, rfl⟩) (by rfl) (by decide) (by decide) ⟨Nat.le_of_ble_eq_true rfl, Nat.le_of_ble_eq_true rfl⟩ ?_
  refine gn_putR (pc := 58) dX11_init_58 rfl fX11_29 fpX11_19 (by rfl) (by decide) ?_
  refine gn_aload_n (pc := 61) dX11_init_61 rfl 0 rfl ?_
  refine gn_bipush (pc := 62) (v := 30) dX11_init_62 (by decide) ?_
  refine gn_newa (pc := 64) (z := 30) dX11_init_64 (inT 74 (by decide +kernel) rfl) rfl (Or.inl ⟨rfl, rfl⟩) (by rfl) (by decide) (by decide) ⟨Nat.le_of_ble_eq_true rfl, Nat.le_of_ble_eq_true rfl⟩ ?_
  refine gn_putR (pc := 66) dX11_init_66 rfl fX11_32 fpX11_20 (by rfl) (by decide) ?_
  refine gn_aload_n (pc := 69) dX11_init_69 rfl 0 rfl ?_
  refine gn_bipush (pc := 70) (v := 40) dX11_init_70 (by decide) ?_
  refine gn_newa (pc := 72) (z := 40) dX11_init_72 (inT 74 (by decide +kernel) rfl) rfl (Or.inl ⟨rfl, rfl⟩) (by rfl) (by decide) (by decide) ⟨Nat.le_of_ble_eq_true rfl, Nat.le_of_ble_eq_true rfl⟩ ?_
  refine gn_putR (pc := 74) dX11_init_74 rfl fX11_35 fpX11_25 (by rfl) (by decide) ?_
  refine gn_aload_n (pc := 77) dX11_init_77 rfl 0 rfl ?_
  refine gn_iconst (pc := 78) dX11_init_78 c_4 ?_
  refine gn_newa (pc := 79) (z := 4) dX11_init_79 (inT 74 (by decide +kernel) rfl) rfl (Or.inl ⟨rfl, rfl⟩) (by rfl) (by decide) (by decide) ⟨Nat.le_of_ble_eq_true rfl, Nat.le_of_ble_eq_true rfl⟩ ?_
  refine gn_putR (pc := 81) dX11_init_81 rfl fX11_38 fpX11_27 (by rfl) (by decide) ?_
  refine gn_aload_n (pc := 84) dX11_init_84 rfl 0 rfl ?_
  refine gn_iconst (pc := 85) dX11_init_85 c_4 ?_
  refine gn_newa (pc := 86) (z := 4) dX11_init_86 (inT 74 (by decide +kernel) rfl) rfl (Or.inl ⟨rfl, rfl⟩) (by rfl) (by decide) (by decide) ⟨Nat.le_of_ble_eq_true rfl, Nat.le_of_ble_eq_true rfl⟩ ?_
  refine gn_putR (pc := 88) dX11_init_88 rfl fX11_41 fpX11_28 (by rfl) (by decide) ?_
  refine gn_aload_n (pc := 91) dX11_init_91 rfl 0 rfl ?_
  refine gn_sipush (pc := 92) (v := 3280) dX11_init_92 (by decide) ?_
  refine gn_newa (pc := 95) (z := 3280) dX11_init_95 (inT 74 (by decide +kernel) rfl) rfl (Or.inl ⟨rfl, rfl⟩) (by rfl) (by decide) (by decide) ⟨Nat.le_of_ble_eq_true rfl, Nat.le_of_ble_eq_true rfl⟩ ?_
  refine gn_putR (pc := 97) dX11_init_97 rfl fX11_44 fpX11_34 (by rfl) (by decide) ?_
  refine gn_aload_n (pc := 100) dX11_init_100 rfl 0 rfl ?_
  refine gn_sipush (pc := 101) (v := 3280) dX11_init_101 (by decide) ?_
  refine gn_newa (pc := 104) (z := 3280) dX11_init_104 (inT 74 (by decide +kernel) rfl) rfl (Or.inl ⟨rfl, rfl⟩) (by rfl) (by decide) (by decide) ⟨Nat.le_of_ble_eq_true rfl, Nat.le_of_ble_eq_true rfl⟩ ?_
  refine gn_putR (pc := 106) dX11_init_106 rfl fX11_47 fpX11_35 (by rfl) (by decide) ?_
  refine gn_aload_n (pc := 109) dX11_init_109 rfl 0 rfl ?_
  refine gn_iconst (pc := 110) dX11_init_110 c_4 ?_
  refine gn_newa (pc := 111) (z := 4) dX11_init_111 (inT 74 (by decide +kernel) rfl) rfl (Or.inl ⟨rfl, rfl⟩) (by rfl) (by decide) (by decide) ⟨Nat.le_of_ble_eq_true rfl, Nat.le_of_ble_eq_true rfl⟩ ?_
  refine gn_putR (pc := 113) dX11_init_113 rfl fX11_50 fpX11_40 (by rfl) (by decide) ?_
  exact gn_vret (pc := 116) dX11_init_116 rfl ⟨Nat.le_of_ble_eq_true rfl, Nat.le_of_ble_eq_true rfl⟩ rfl rfl
