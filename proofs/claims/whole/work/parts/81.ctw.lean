/-! THE CONSTRUCTORS: the walk (printed by wip/whole/gen_ctw.py) -/
theorem f0_0 : decode prog_1_method_1_code 0 = .ok (.aload_n 0, 1) := by decide +kernel
theorem f0_1 : decode prog_1_method_1_code 1 = .ok (.invokespecial 5, 3) := by decide +kernel
theorem f0_4 : decode prog_1_method_1_code 4 = .ok (.aload_n 0, 1) := by decide +kernel
theorem f0_5 : decode prog_1_method_1_code 5 = .ok (.new 11, 3) := by decide +kernel
theorem f0_8 : decode prog_1_method_1_code 8 = .ok (.dup, 1) := by decide +kernel
theorem f0_9 : decode prog_1_method_1_code 9 = .ok (.invokespecial 13, 3) := by decide +kernel
theorem f0_12 : decode prog_1_method_1_code 12 = .ok (.putfield 14, 3) := by decide +kernel
theorem f0_15 : decode prog_1_method_1_code 15 = .ok (.aload_n 0, 1) := by decide +kernel
theorem f0_16 : decode prog_1_method_1_code 16 = .ok (.new 11, 3) := by decide +kernel
theorem f0_19 : decode prog_1_method_1_code 19 = .ok (.dup, 1) := by decide +kernel
theorem f0_20 : decode prog_1_method_1_code 20 = .ok (.invokespecial 13, 3) := by decide +kernel
theorem f0_23 : decode prog_1_method_1_code 23 = .ok (.putfield 18, 3) := by decide +kernel
theorem f0_26 : decode prog_1_method_1_code 26 = .ok (.aload_n 0, 1) := by decide +kernel
theorem f0_27 : decode prog_1_method_1_code 27 = .ok (.new 11, 3) := by decide +kernel
theorem f0_30 : decode prog_1_method_1_code 30 = .ok (.dup, 1) := by decide +kernel
theorem f0_31 : decode prog_1_method_1_code 31 = .ok (.invokespecial 13, 3) := by decide +kernel
theorem f0_34 : decode prog_1_method_1_code 34 = .ok (.putfield 21, 3) := by decide +kernel
theorem f0_37 : decode prog_1_method_1_code 37 = .ok (.aload_n 0, 1) := by decide +kernel
theorem f0_38 : decode prog_1_method_1_code 38 = .ok (.new 24, 3) := by decide +kernel
theorem f0_41 : decode prog_1_method_1_code 41 = .ok (.dup, 1) := by decide +kernel
theorem f0_42 : decode prog_1_method_1_code 42 = .ok (.invokespecial 26, 3) := by decide +kernel
theorem f0_45 : decode prog_1_method_1_code 45 = .ok (.putfield 27, 3) := by decide +kernel
theorem f0_48 : decode prog_1_method_1_code 48 = .ok (.aload_n 0, 1) := by decide +kernel
theorem f0_49 : decode prog_1_method_1_code 49 = .ok (.bipush 6, 2) := by decide +kernel
theorem f0_51 : decode prog_1_method_1_code 51 = .ok (.anewarray 31, 3) := by decide +kernel
theorem f0_54 : decode prog_1_method_1_code 54 = .ok (.putfield 33, 3) := by decide +kernel
theorem f0_57 : decode prog_1_method_1_code 57 = .ok (.aload_n 0, 1) := by decide +kernel
theorem f0_58 : decode prog_1_method_1_code 58 = .ok (.bipush 6, 2) := by decide +kernel
theorem f0_60 : decode prog_1_method_1_code 60 = .ok (.anewarray 37, 3) := by decide +kernel
theorem f0_63 : decode prog_1_method_1_code 63 = .ok (.putfield 39, 3) := by decide +kernel
theorem f0_66 : decode prog_1_method_1_code 66 = .ok (.aload_n 0, 1) := by decide +kernel
theorem f0_67 : decode prog_1_method_1_code 67 = .ok (.new 43, 3) := by decide +kernel
theorem f0_70 : decode prog_1_method_1_code 70 = .ok (.dup, 1) := by decide +kernel
theorem f0_71 : decode prog_1_method_1_code 71 = .ok (.invokespecial 45, 3) := by decide +kernel
theorem f0_74 : decode prog_1_method_1_code 74 = .ok (.putfield 46, 3) := by decide +kernel
theorem f0_77 : decode prog_1_method_1_code 77 = .ok (.aload_n 0, 1) := by decide +kernel
theorem f0_78 : decode prog_1_method_1_code 78 = .ok (.new 50, 3) := by decide +kernel
theorem f0_81 : decode prog_1_method_1_code 81 = .ok (.dup, 1) := by decide +kernel
theorem f0_82 : decode prog_1_method_1_code 82 = .ok (.invokespecial 52, 3) := by decide +kernel
theorem f0_85 : decode prog_1_method_1_code 85 = .ok (.putfield 53, 3) := by decide +kernel
theorem f0_88 : decode prog_1_method_1_code 88 = .ok (.iconst 0, 1) := by decide +kernel
theorem f0_89 : decode prog_1_method_1_code 89 = .ok (.istore_n 1, 1) := by decide +kernel
theorem f0_90 : decode prog_1_method_1_code 90 = .ok (.iload_n 1, 1) := by decide +kernel
theorem f0_91 : decode prog_1_method_1_code 91 = .ok (.bipush 6, 2) := by decide +kernel
theorem f0_93 : decode prog_1_method_1_code 93 = .ok (.if_icmp .ge 22, 3) := by decide +kernel
theorem f0_96 : decode prog_1_method_1_code 96 = .ok (.aload_n 0, 1) := by decide +kernel
theorem f0_97 : decode prog_1_method_1_code 97 = .ok (.getfield 33, 3) := by decide +kernel
theorem f0_100 : decode prog_1_method_1_code 100 = .ok (.iload_n 1, 1) := by decide +kernel
theorem f0_101 : decode prog_1_method_1_code 101 = .ok (.new 31, 3) := by decide +kernel
theorem f0_104 : decode prog_1_method_1_code 104 = .ok (.dup, 1) := by decide +kernel
theorem f0_105 : decode prog_1_method_1_code 105 = .ok (.invokespecial 57, 3) := by decide +kernel
theorem f0_108 : decode prog_1_method_1_code 108 = .ok (.aastore, 1) := by decide +kernel
theorem f0_109 : decode prog_1_method_1_code 109 = .ok (.iinc 1 1, 3) := by decide +kernel
theorem f0_112 : decode prog_1_method_1_code 112 = .ok (.goto (-22), 3) := by decide +kernel
theorem f0_115 : decode prog_1_method_1_code 115 = .ok (.iconst 0, 1) := by decide +kernel
theorem f0_116 : decode prog_1_method_1_code 116 = .ok (.istore_n 1, 1) := by decide +kernel
theorem f0_117 : decode prog_1_method_1_code 117 = .ok (.iload_n 1, 1) := by decide +kernel
theorem f0_118 : decode prog_1_method_1_code 118 = .ok (.bipush 6, 2) := by decide +kernel
theorem f0_120 : decode prog_1_method_1_code 120 = .ok (.if_icmp .ge 22, 3) := by decide +kernel
theorem f0_123 : decode prog_1_method_1_code 123 = .ok (.aload_n 0, 1) := by decide +kernel
theorem f0_124 : decode prog_1_method_1_code 124 = .ok (.getfield 39, 3) := by decide +kernel
theorem f0_127 : decode prog_1_method_1_code 127 = .ok (.iload_n 1, 1) := by decide +kernel
theorem f0_128 : decode prog_1_method_1_code 128 = .ok (.new 37, 3) := by decide +kernel
theorem f0_131 : decode prog_1_method_1_code 131 = .ok (.dup, 1) := by decide +kernel
theorem f0_132 : decode prog_1_method_1_code 132 = .ok (.invokespecial 58, 3) := by decide +kernel
theorem f0_135 : decode prog_1_method_1_code 135 = .ok (.aastore, 1) := by decide +kernel
theorem f0_136 : decode prog_1_method_1_code 136 = .ok (.iinc 1 1, 3) := by decide +kernel
theorem f0_139 : decode prog_1_method_1_code 139 = .ok (.goto (-22), 3) := by decide +kernel
theorem f0_142 : decode prog_1_method_1_code 142 = .ok (.return_, 1) := by decide +kernel
theorem f2_0 : decode prog_4_method_1_code 0 = .ok (.aload_n 0, 1) := by decide +kernel
theorem f2_1 : decode prog_4_method_1_code 1 = .ok (.invokespecial 3, 3) := by decide +kernel
theorem f2_4 : decode prog_4_method_1_code 4 = .ok (.aload_n 0, 1) := by decide +kernel
theorem f2_5 : decode prog_4_method_1_code 5 = .ok (.bipush 6, 2) := by decide +kernel
theorem f2_7 : decode prog_4_method_1_code 7 = .ok (.newarray .int, 2) := by decide +kernel
theorem f2_9 : decode prog_4_method_1_code 9 = .ok (.putfield 9, 3) := by decide +kernel
theorem f2_12 : decode prog_4_method_1_code 12 = .ok (.aload_n 0, 1) := by decide +kernel
theorem f2_13 : decode prog_4_method_1_code 13 = .ok (.bipush 6, 2) := by decide +kernel
theorem f2_15 : decode prog_4_method_1_code 15 = .ok (.newarray .int, 2) := by decide +kernel
theorem f2_17 : decode prog_4_method_1_code 17 = .ok (.putfield 15, 3) := by decide +kernel
theorem f2_20 : decode prog_4_method_1_code 20 = .ok (.aload_n 0, 1) := by decide +kernel
theorem f2_21 : decode prog_4_method_1_code 21 = .ok (.bipush 6, 2) := by decide +kernel
theorem f2_23 : decode prog_4_method_1_code 23 = .ok (.newarray .int, 2) := by decide +kernel
theorem f2_25 : decode prog_4_method_1_code 25 = .ok (.putfield 18, 3) := by decide +kernel
theorem f2_28 : decode prog_4_method_1_code 28 = .ok (.aload_n 0, 1) := by decide +kernel
theorem f2_29 : decode prog_4_method_1_code 29 = .ok (.bipush 36, 2) := by decide +kernel
theorem f2_31 : decode prog_4_method_1_code 31 = .ok (.newarray .int, 2) := by decide +kernel
theorem f2_33 : decode prog_4_method_1_code 33 = .ok (.putfield 21, 3) := by decide +kernel
theorem f2_36 : decode prog_4_method_1_code 36 = .ok (.aload_n 0, 1) := by decide +kernel
theorem f2_37 : decode prog_4_method_1_code 37 = .ok (.bipush 24, 2) := by decide +kernel
theorem f2_39 : decode prog_4_method_1_code 39 = .ok (.newarray .int, 2) := by decide +kernel
theorem f2_41 : decode prog_4_method_1_code 41 = .ok (.putfield 24, 3) := by decide +kernel
theorem f2_44 : decode prog_4_method_1_code 44 = .ok (.aload_n 0, 1) := by decide +kernel
theorem f2_45 : decode prog_4_method_1_code 45 = .ok (.bipush 6, 2) := by decide +kernel
theorem f2_47 : decode prog_4_method_1_code 47 = .ok (.newarray .int, 2) := by decide +kernel
theorem f2_49 : decode prog_4_method_1_code 49 = .ok (.putfield 27, 3) := by decide +kernel
theorem f2_52 : decode prog_4_method_1_code 52 = .ok (.aload_n 0, 1) := by decide +kernel
theorem f2_53 : decode prog_4_method_1_code 53 = .ok (.new 30, 3) := by decide +kernel
theorem f2_56 : decode prog_4_method_1_code 56 = .ok (.dup, 1) := by decide +kernel
theorem f2_57 : decode prog_4_method_1_code 57 = .ok (.bipush 8, 2) := by decide +kernel
theorem f2_59 : decode prog_4_method_1_code 59 = .ok (.invokespecial 32, 3) := by decide +kernel
theorem f2_62 : decode prog_4_method_1_code 62 = .ok (.putfield 35, 3) := by decide +kernel
theorem f2_65 : decode prog_4_method_1_code 65 = .ok (.aload_n 0, 1) := by decide +kernel
theorem f2_66 : decode prog_4_method_1_code 66 = .ok (.new 30, 3) := by decide +kernel
theorem f2_69 : decode prog_4_method_1_code 69 = .ok (.dup, 1) := by decide +kernel
theorem f2_70 : decode prog_4_method_1_code 70 = .ok (.iconst 5, 1) := by decide +kernel
theorem f2_71 : decode prog_4_method_1_code 71 = .ok (.invokespecial 32, 3) := by decide +kernel
theorem f2_74 : decode prog_4_method_1_code 74 = .ok (.putfield 39, 3) := by decide +kernel
theorem f2_77 : decode prog_4_method_1_code 77 = .ok (.aload_n 0, 1) := by decide +kernel
theorem f2_78 : decode prog_4_method_1_code 78 = .ok (.new 30, 3) := by decide +kernel
theorem f2_81 : decode prog_4_method_1_code 81 = .ok (.dup, 1) := by decide +kernel
theorem f2_82 : decode prog_4_method_1_code 82 = .ok (.bipush 10, 2) := by decide +kernel
theorem f2_84 : decode prog_4_method_1_code 84 = .ok (.invokespecial 32, 3) := by decide +kernel
theorem f2_87 : decode prog_4_method_1_code 87 = .ok (.putfield 42, 3) := by decide +kernel
theorem f2_90 : decode prog_4_method_1_code 90 = .ok (.aload_n 0, 1) := by decide +kernel
theorem f2_91 : decode prog_4_method_1_code 91 = .ok (.new 30, 3) := by decide +kernel
theorem f2_94 : decode prog_4_method_1_code 94 = .ok (.dup, 1) := by decide +kernel
theorem f2_95 : decode prog_4_method_1_code 95 = .ok (.bipush 8, 2) := by decide +kernel
theorem f2_97 : decode prog_4_method_1_code 97 = .ok (.invokespecial 32, 3) := by decide +kernel
theorem f2_100 : decode prog_4_method_1_code 100 = .ok (.putfield 45, 3) := by decide +kernel
theorem f2_103 : decode prog_4_method_1_code 103 = .ok (.aload_n 0, 1) := by decide +kernel
theorem f2_104 : decode prog_4_method_1_code 104 = .ok (.new 48, 3) := by decide +kernel
theorem f2_107 : decode prog_4_method_1_code 107 = .ok (.dup, 1) := by decide +kernel
theorem f2_108 : decode prog_4_method_1_code 108 = .ok (.invokespecial 50, 3) := by decide +kernel
theorem f2_111 : decode prog_4_method_1_code 111 = .ok (.putfield 51, 3) := by decide +kernel
theorem f2_114 : decode prog_4_method_1_code 114 = .ok (.return_, 1) := by decide +kernel
theorem f3_0 : decode prog_5_method_1_code 0 = .ok (.aload_n 0, 1) := by decide +kernel
theorem f3_1 : decode prog_5_method_1_code 1 = .ok (.invokespecial 1, 3) := by decide +kernel
theorem f3_4 : decode prog_5_method_1_code 4 = .ok (.aload_n 0, 1) := by decide +kernel
theorem f3_5 : decode prog_5_method_1_code 5 = .ok (.iload_n 1, 1) := by decide +kernel
theorem f3_6 : decode prog_5_method_1_code 6 = .ok (.iconst 4, 1) := by decide +kernel
theorem f3_7 : decode prog_5_method_1_code 7 = .ok (.imul, 1) := by decide +kernel
theorem f3_8 : decode prog_5_method_1_code 8 = .ok (.newarray .int, 2) := by decide +kernel
theorem f3_10 : decode prog_5_method_1_code 10 = .ok (.putfield 9, 3) := by decide +kernel
theorem f3_13 : decode prog_5_method_1_code 13 = .ok (.return_, 1) := by decide +kernel
theorem f4_0 : decode prog_6_method_1_code 0 = .ok (.aload_n 0, 1) := by decide +kernel
theorem f4_1 : decode prog_6_method_1_code 1 = .ok (.invokespecial 3, 3) := by decide +kernel
theorem f4_4 : decode prog_6_method_1_code 4 = .ok (.aload_n 0, 1) := by decide +kernel
theorem f4_5 : decode prog_6_method_1_code 5 = .ok (.bipush 100, 2) := by decide +kernel
theorem f4_7 : decode prog_6_method_1_code 7 = .ok (.newarray .int, 2) := by decide +kernel
theorem f4_9 : decode prog_6_method_1_code 9 = .ok (.putfield 9, 3) := by decide +kernel
theorem f4_12 : decode prog_6_method_1_code 12 = .ok (.aload_n 0, 1) := by decide +kernel
theorem f4_13 : decode prog_6_method_1_code 13 = .ok (.bipush 100, 2) := by decide +kernel
theorem f4_15 : decode prog_6_method_1_code 15 = .ok (.newarray .int, 2) := by decide +kernel
theorem f4_17 : decode prog_6_method_1_code 17 = .ok (.putfield 15, 3) := by decide +kernel
theorem f4_20 : decode prog_6_method_1_code 20 = .ok (.aload_n 0, 1) := by decide +kernel
theorem f4_21 : decode prog_6_method_1_code 21 = .ok (.bipush 100, 2) := by decide +kernel
theorem f4_23 : decode prog_6_method_1_code 23 = .ok (.newarray .int, 2) := by decide +kernel
theorem f4_25 : decode prog_6_method_1_code 25 = .ok (.putfield 18, 3) := by decide +kernel
theorem f4_28 : decode prog_6_method_1_code 28 = .ok (.return_, 1) := by decide +kernel
theorem f5_0 : decode prog_8_method_1_code 0 = .ok (.aload_n 0, 1) := by decide +kernel
theorem f5_1 : decode prog_8_method_1_code 1 = .ok (.invokespecial 3, 3) := by decide +kernel
theorem f5_4 : decode prog_8_method_1_code 4 = .ok (.aload_n 0, 1) := by decide +kernel
theorem f5_5 : decode prog_8_method_1_code 5 = .ok (.bipush 100, 2) := by decide +kernel
theorem f5_7 : decode prog_8_method_1_code 7 = .ok (.newarray .int, 2) := by decide +kernel
theorem f5_9 : decode prog_8_method_1_code 9 = .ok (.putfield 9, 3) := by decide +kernel
theorem f5_12 : decode prog_8_method_1_code 12 = .ok (.return_, 1) := by decide +kernel
theorem f6_0 : decode prog_2_method_1_code 0 = .ok (.aload_n 0, 1) := by decide +kernel
theorem f6_1 : decode prog_2_method_1_code 1 = .ok (.invokespecial 3, 3) := by decide +kernel
theorem f6_4 : decode prog_2_method_1_code 4 = .ok (.aload_n 0, 1) := by decide +kernel
theorem f6_5 : decode prog_2_method_1_code 5 = .ok (.bipush 20, 2) := by decide +kernel
theorem f6_7 : decode prog_2_method_1_code 7 = .ok (.newarray .int, 2) := by decide +kernel
theorem f6_9 : decode prog_2_method_1_code 9 = .ok (.putfield 9, 3) := by decide +kernel
theorem f6_12 : decode prog_2_method_1_code 12 = .ok (.return_, 1) := by decide +kernel
theorem f7_0 : decode prog_3_method_1_code 0 = .ok (.aload_n 0, 1) := by decide +kernel
theorem f7_1 : decode prog_3_method_1_code 1 = .ok (.invokespecial 3, 3) := by decide +kernel
theorem f7_4 : decode prog_3_method_1_code 4 = .ok (.aload_n 0, 1) := by decide +kernel
theorem f7_5 : decode prog_3_method_1_code 5 = .ok (.bipush 36, 2) := by decide +kernel
theorem f7_7 : decode prog_3_method_1_code 7 = .ok (.newarray .int, 2) := by decide +kernel
theorem f7_9 : decode prog_3_method_1_code 9 = .ok (.putfield 9, 3) := by decide +kernel
theorem f7_12 : decode prog_3_method_1_code 12 = .ok (.aload_n 0, 1) := by decide +kernel
theorem f7_13 : decode prog_3_method_1_code 13 = .ok (.bipush 6, 2) := by decide +kernel
theorem f7_15 : decode prog_3_method_1_code 15 = .ok (.newarray .int, 2) := by decide +kernel
theorem f7_17 : decode prog_3_method_1_code 17 = .ok (.putfield 15, 3) := by decide +kernel
theorem f7_20 : decode prog_3_method_1_code 20 = .ok (.aload_n 0, 1) := by decide +kernel
theorem f7_21 : decode prog_3_method_1_code 21 = .ok (.bipush 6, 2) := by decide +kernel
theorem f7_23 : decode prog_3_method_1_code 23 = .ok (.newarray .int, 2) := by decide +kernel
theorem f7_25 : decode prog_3_method_1_code 25 = .ok (.putfield 18, 3) := by decide +kernel
theorem f7_28 : decode prog_3_method_1_code 28 = .ok (.aload_n 0, 1) := by decide +kernel
theorem f7_29 : decode prog_3_method_1_code 29 = .ok (.bipush 6, 2) := by decide +kernel
theorem f7_31 : decode prog_3_method_1_code 31 = .ok (.newarray .int, 2) := by decide +kernel
theorem f7_33 : decode prog_3_method_1_code 33 = .ok (.putfield 21, 3) := by decide +kernel
theorem f7_36 : decode prog_3_method_1_code 36 = .ok (.return_, 1) := by decide +kernel
theorem f8_0 : decode prog_7_method_1_code 0 = .ok (.aload_n 0, 1) := by decide +kernel
theorem f8_1 : decode prog_7_method_1_code 1 = .ok (.invokespecial 3, 3) := by decide +kernel
theorem f8_4 : decode prog_7_method_1_code 4 = .ok (.aload_n 0, 1) := by decide +kernel
theorem f8_5 : decode prog_7_method_1_code 5 = .ok (.bipush 60, 2) := by decide +kernel
theorem f8_7 : decode prog_7_method_1_code 7 = .ok (.newarray .long, 2) := by decide +kernel
theorem f8_9 : decode prog_7_method_1_code 9 = .ok (.putfield 9, 3) := by decide +kernel
theorem f8_12 : decode prog_7_method_1_code 12 = .ok (.aload_n 0, 1) := by decide +kernel
theorem f8_13 : decode prog_7_method_1_code 13 = .ok (.iconst (-1), 1) := by decide +kernel
theorem f8_14 : decode prog_7_method_1_code 14 = .ok (.putfield 15, 3) := by decide +kernel
theorem f8_17 : decode prog_7_method_1_code 17 = .ok (.return_, 1) := by decide +kernel
theorem f127_0 : decode prog_10_method_1_code 0 = .ok (.aload_n 0, 1) := by decide +kernel
theorem f127_1 : decode prog_10_method_1_code 1 = .ok (.invokespecial 3, 3) := by decide +kernel
theorem f127_4 : decode prog_10_method_1_code 4 = .ok (.aload_n 0, 1) := by decide +kernel
theorem f127_5 : decode prog_10_method_1_code 5 = .ok (.bipush 6, 2) := by decide +kernel
theorem f127_7 : decode prog_10_method_1_code 7 = .ok (.newarray .int, 2) := by decide +kernel
theorem f127_9 : decode prog_10_method_1_code 9 = .ok (.putfield 9, 3) := by decide +kernel
theorem f127_12 : decode prog_10_method_1_code 12 = .ok (.aload_n 0, 1) := by decide +kernel
theorem f127_13 : decode prog_10_method_1_code 13 = .ok (.bipush 6, 2) := by decide +kernel
theorem f127_15 : decode prog_10_method_1_code 15 = .ok (.newarray .int, 2) := by decide +kernel
theorem f127_17 : decode prog_10_method_1_code 17 = .ok (.putfield 15, 3) := by decide +kernel
theorem f127_20 : decode prog_10_method_1_code 20 = .ok (.aload_n 0, 1) := by decide +kernel
theorem f127_21 : decode prog_10_method_1_code 21 = .ok (.bipush 36, 2) := by decide +kernel
theorem f127_23 : decode prog_10_method_1_code 23 = .ok (.newarray .int, 2) := by decide +kernel
theorem f127_25 : decode prog_10_method_1_code 25 = .ok (.putfield 18, 3) := by decide +kernel
theorem f127_28 : decode prog_10_method_1_code 28 = .ok (.aload_n 0, 1) := by decide +kernel
theorem f127_29 : decode prog_10_method_1_code 29 = .ok (.bipush 6, 2) := by decide +kernel
theorem f127_31 : decode prog_10_method_1_code 31 = .ok (.newarray .int, 2) := by decide +kernel
theorem f127_33 : decode prog_10_method_1_code 33 = .ok (.putfield 21, 3) := by decide +kernel
theorem f127_36 : decode prog_10_method_1_code 36 = .ok (.aload_n 0, 1) := by decide +kernel
theorem f127_37 : decode prog_10_method_1_code 37 = .ok (.bipush 24, 2) := by decide +kernel
theorem f127_39 : decode prog_10_method_1_code 39 = .ok (.newarray .int, 2) := by decide +kernel
theorem f127_41 : decode prog_10_method_1_code 41 = .ok (.putfield 24, 3) := by decide +kernel
theorem f127_44 : decode prog_10_method_1_code 44 = .ok (.aload_n 0, 1) := by decide +kernel
theorem f127_45 : decode prog_10_method_1_code 45 = .ok (.bipush 8, 2) := by decide +kernel
theorem f127_47 : decode prog_10_method_1_code 47 = .ok (.newarray .int, 2) := by decide +kernel
theorem f127_49 : decode prog_10_method_1_code 49 = .ok (.putfield 27, 3) := by decide +kernel
theorem f127_52 : decode prog_10_method_1_code 52 = .ok (.aload_n 0, 1) := by decide +kernel
theorem f127_53 : decode prog_10_method_1_code 53 = .ok (.bipush 100, 2) := by decide +kernel
theorem f127_55 : decode prog_10_method_1_code 55 = .ok (.newarray .int, 2) := by decide +kernel
theorem f127_57 : decode prog_10_method_1_code 57 = .ok (.putfield 30, 3) := by decide +kernel
theorem f127_60 : decode prog_10_method_1_code 60 = .ok (.aload_n 0, 1) := by decide +kernel
theorem f127_61 : decode prog_10_method_1_code 61 = .ok (.bipush 6, 2) := by decide +kernel
theorem f127_63 : decode prog_10_method_1_code 63 = .ok (.newarray .int, 2) := by decide +kernel
theorem f127_65 : decode prog_10_method_1_code 65 = .ok (.putfield 33, 3) := by decide +kernel
theorem f127_68 : decode prog_10_method_1_code 68 = .ok (.aload_n 0, 1) := by decide +kernel
theorem f127_69 : decode prog_10_method_1_code 69 = .ok (.bipush 61, 2) := by decide +kernel
theorem f127_71 : decode prog_10_method_1_code 71 = .ok (.newarray .int, 2) := by decide +kernel
theorem f127_73 : decode prog_10_method_1_code 73 = .ok (.putfield 36, 3) := by decide +kernel
theorem f127_76 : decode prog_10_method_1_code 76 = .ok (.aload_n 0, 1) := by decide +kernel
theorem f127_77 : decode prog_10_method_1_code 77 = .ok (.bipush 61, 2) := by decide +kernel
theorem f127_79 : decode prog_10_method_1_code 79 = .ok (.newarray .int, 2) := by decide +kernel
theorem f127_81 : decode prog_10_method_1_code 81 = .ok (.putfield 39, 3) := by decide +kernel
theorem f127_84 : decode prog_10_method_1_code 84 = .ok (.aload_n 0, 1) := by decide +kernel
theorem f127_85 : decode prog_10_method_1_code 85 = .ok (.bipush 61, 2) := by decide +kernel
theorem f127_87 : decode prog_10_method_1_code 87 = .ok (.newarray .int, 2) := by decide +kernel
theorem f127_89 : decode prog_10_method_1_code 89 = .ok (.putfield 42, 3) := by decide +kernel
theorem f127_92 : decode prog_10_method_1_code 92 = .ok (.aload_n 0, 1) := by decide +kernel
theorem f127_93 : decode prog_10_method_1_code 93 = .ok (.bipush 61, 2) := by decide +kernel
theorem f127_95 : decode prog_10_method_1_code 95 = .ok (.newarray .int, 2) := by decide +kernel
theorem f127_97 : decode prog_10_method_1_code 97 = .ok (.putfield 45, 3) := by decide +kernel
theorem f127_100 : decode prog_10_method_1_code 100 = .ok (.aload_n 0, 1) := by decide +kernel
theorem f127_101 : decode prog_10_method_1_code 101 = .ok (.sipush 800, 3) := by decide +kernel
theorem f127_104 : decode prog_10_method_1_code 104 = .ok (.newarray .int, 2) := by decide +kernel
theorem f127_106 : decode prog_10_method_1_code 106 = .ok (.putfield 48, 3) := by decide +kernel
theorem f127_109 : decode prog_10_method_1_code 109 = .ok (.aload_n 0, 1) := by decide +kernel
theorem f127_110 : decode prog_10_method_1_code 110 = .ok (.bipush 110, 2) := by decide +kernel
theorem f127_112 : decode prog_10_method_1_code 112 = .ok (.newarray .boolean, 2) := by decide +kernel
theorem f127_114 : decode prog_10_method_1_code 114 = .ok (.putfield 51, 3) := by decide +kernel
theorem f127_117 : decode prog_10_method_1_code 117 = .ok (.aload_n 0, 1) := by decide +kernel
theorem f127_118 : decode prog_10_method_1_code 118 = .ok (.iconst 5, 1) := by decide +kernel
theorem f127_119 : decode prog_10_method_1_code 119 = .ok (.newarray .int, 2) := by decide +kernel
theorem f127_121 : decode prog_10_method_1_code 121 = .ok (.putfield 55, 3) := by decide +kernel
theorem f127_124 : decode prog_10_method_1_code 124 = .ok (.aload_n 0, 1) := by decide +kernel
theorem f127_125 : decode prog_10_method_1_code 125 = .ok (.iconst 5, 1) := by decide +kernel
theorem f127_126 : decode prog_10_method_1_code 126 = .ok (.newarray .int, 2) := by decide +kernel
theorem f127_128 : decode prog_10_method_1_code 128 = .ok (.putfield 58, 3) := by decide +kernel
theorem f127_131 : decode prog_10_method_1_code 131 = .ok (.aload_n 0, 1) := by decide +kernel
theorem f127_132 : decode prog_10_method_1_code 132 = .ok (.iconst 5, 1) := by decide +kernel
theorem f127_133 : decode prog_10_method_1_code 133 = .ok (.newarray .int, 2) := by decide +kernel
theorem f127_135 : decode prog_10_method_1_code 135 = .ok (.putfield 61, 3) := by decide +kernel
theorem f127_138 : decode prog_10_method_1_code 138 = .ok (.aload_n 0, 1) := by decide +kernel
theorem f127_139 : decode prog_10_method_1_code 139 = .ok (.iconst 5, 1) := by decide +kernel
theorem f127_140 : decode prog_10_method_1_code 140 = .ok (.newarray .int, 2) := by decide +kernel
theorem f127_142 : decode prog_10_method_1_code 142 = .ok (.putfield 64, 3) := by decide +kernel
theorem f127_145 : decode prog_10_method_1_code 145 = .ok (.aload_n 0, 1) := by decide +kernel
theorem f127_146 : decode prog_10_method_1_code 146 = .ok (.bipush 10, 2) := by decide +kernel
theorem f127_148 : decode prog_10_method_1_code 148 = .ok (.newarray .int, 2) := by decide +kernel
theorem f127_150 : decode prog_10_method_1_code 150 = .ok (.putfield 67, 3) := by decide +kernel
theorem f127_153 : decode prog_10_method_1_code 153 = .ok (.aload_n 0, 1) := by decide +kernel
theorem f127_154 : decode prog_10_method_1_code 154 = .ok (.bipush 10, 2) := by decide +kernel
theorem f127_156 : decode prog_10_method_1_code 156 = .ok (.newarray .int, 2) := by decide +kernel
theorem f127_158 : decode prog_10_method_1_code 158 = .ok (.putfield 70, 3) := by decide +kernel
theorem f127_161 : decode prog_10_method_1_code 161 = .ok (.aload_n 0, 1) := by decide +kernel
theorem f127_162 : decode prog_10_method_1_code 162 = .ok (.bipush 8, 2) := by decide +kernel
theorem f127_164 : decode prog_10_method_1_code 164 = .ok (.newarray .int, 2) := by decide +kernel
theorem f127_166 : decode prog_10_method_1_code 166 = .ok (.putfield 73, 3) := by decide +kernel
theorem f127_169 : decode prog_10_method_1_code 169 = .ok (.aload_n 0, 1) := by decide +kernel
theorem f127_170 : decode prog_10_method_1_code 170 = .ok (.bipush 8, 2) := by decide +kernel
theorem f127_172 : decode prog_10_method_1_code 172 = .ok (.newarray .int, 2) := by decide +kernel
theorem f127_174 : decode prog_10_method_1_code 174 = .ok (.putfield 76, 3) := by decide +kernel
theorem f127_177 : decode prog_10_method_1_code 177 = .ok (.aload_n 0, 1) := by decide +kernel
theorem f127_178 : decode prog_10_method_1_code 178 = .ok (.bipush 20, 2) := by decide +kernel
theorem f127_180 : decode prog_10_method_1_code 180 = .ok (.newarray .int, 2) := by decide +kernel
theorem f127_182 : decode prog_10_method_1_code 182 = .ok (.putfield 79, 3) := by decide +kernel
theorem f127_185 : decode prog_10_method_1_code 185 = .ok (.aload_n 0, 1) := by decide +kernel
theorem f127_186 : decode prog_10_method_1_code 186 = .ok (.sipush 152, 3) := by decide +kernel
theorem f127_189 : decode prog_10_method_1_code 189 = .ok (.newarray .int, 2) := by decide +kernel
theorem f127_191 : decode prog_10_method_1_code 191 = .ok (.putfield 82, 3) := by decide +kernel
theorem f127_194 : decode prog_10_method_1_code 194 = .ok (.aload_n 0, 1) := by decide +kernel
theorem f127_195 : decode prog_10_method_1_code 195 = .ok (.sipush 152, 3) := by decide +kernel
theorem f127_198 : decode prog_10_method_1_code 198 = .ok (.newarray .int, 2) := by decide +kernel
theorem f127_200 : decode prog_10_method_1_code 200 = .ok (.putfield 85, 3) := by decide +kernel
theorem f127_203 : decode prog_10_method_1_code 203 = .ok (.aload_n 0, 1) := by decide +kernel
theorem f127_204 : decode prog_10_method_1_code 204 = .ok (.bipush 6, 2) := by decide +kernel
theorem f127_206 : decode prog_10_method_1_code 206 = .ok (.newarray .int, 2) := by decide +kernel
theorem f127_208 : decode prog_10_method_1_code 208 = .ok (.putfield 88, 3) := by decide +kernel
theorem f127_211 : decode prog_10_method_1_code 211 = .ok (.aload_n 0, 1) := by decide +kernel
theorem f127_212 : decode prog_10_method_1_code 212 = .ok (.bipush 6, 2) := by decide +kernel
theorem f127_214 : decode prog_10_method_1_code 214 = .ok (.newarray .int, 2) := by decide +kernel
theorem f127_216 : decode prog_10_method_1_code 216 = .ok (.putfield 91, 3) := by decide +kernel
theorem f127_219 : decode prog_10_method_1_code 219 = .ok (.aload_n 0, 1) := by decide +kernel
theorem f127_220 : decode prog_10_method_1_code 220 = .ok (.bipush 6, 2) := by decide +kernel
theorem f127_222 : decode prog_10_method_1_code 222 = .ok (.newarray .int, 2) := by decide +kernel
theorem f127_224 : decode prog_10_method_1_code 224 = .ok (.putfield 94, 3) := by decide +kernel
theorem f127_227 : decode prog_10_method_1_code 227 = .ok (.aload_n 0, 1) := by decide +kernel
theorem f127_228 : decode prog_10_method_1_code 228 = .ok (.bipush 6, 2) := by decide +kernel
theorem f127_230 : decode prog_10_method_1_code 230 = .ok (.newarray .int, 2) := by decide +kernel
theorem f127_232 : decode prog_10_method_1_code 232 = .ok (.putfield 97, 3) := by decide +kernel
theorem f127_235 : decode prog_10_method_1_code 235 = .ok (.aload_n 0, 1) := by decide +kernel
theorem f127_236 : decode prog_10_method_1_code 236 = .ok (.bipush 6, 2) := by decide +kernel
theorem f127_238 : decode prog_10_method_1_code 238 = .ok (.newarray .int, 2) := by decide +kernel
theorem f127_240 : decode prog_10_method_1_code 240 = .ok (.putfield 100, 3) := by decide +kernel
theorem f127_243 : decode prog_10_method_1_code 243 = .ok (.aload_n 0, 1) := by decide +kernel
theorem f127_244 : decode prog_10_method_1_code 244 = .ok (.bipush 6, 2) := by decide +kernel
theorem f127_246 : decode prog_10_method_1_code 246 = .ok (.newarray .int, 2) := by decide +kernel
theorem f127_248 : decode prog_10_method_1_code 248 = .ok (.putfield 103, 3) := by decide +kernel
theorem f127_251 : decode prog_10_method_1_code 251 = .ok (.aload_n 0, 1) := by decide +kernel
theorem f127_252 : decode prog_10_method_1_code 252 = .ok (.sipush 360, 3) := by decide +kernel
theorem f127_255 : decode prog_10_method_1_code 255 = .ok (.newarray .long, 2) := by decide +kernel
theorem f127_257 : decode prog_10_method_1_code 257 = .ok (.putfield 106, 3) := by decide +kernel
theorem f127_260 : decode prog_10_method_1_code 260 = .ok (.aload_n 0, 1) := by decide +kernel
theorem f127_261 : decode prog_10_method_1_code 261 = .ok (.iconst (-1), 1) := by decide +kernel
theorem f127_262 : decode prog_10_method_1_code 262 = .ok (.putfield 110, 3) := by decide +kernel
theorem f127_265 : decode prog_10_method_1_code 265 = .ok (.iconst 0, 1) := by decide +kernel
theorem f127_266 : decode prog_10_method_1_code 266 = .ok (.istore_n 1, 1) := by decide +kernel
theorem f127_267 : decode prog_10_method_1_code 267 = .ok (.iload_n 1, 1) := by decide +kernel
theorem f127_268 : decode prog_10_method_1_code 268 = .ok (.bipush 6, 2) := by decide +kernel
theorem f127_270 : decode prog_10_method_1_code 270 = .ok (.if_icmp .ge 16, 3) := by decide +kernel
theorem f127_273 : decode prog_10_method_1_code 273 = .ok (.aload_n 0, 1) := by decide +kernel
theorem f127_274 : decode prog_10_method_1_code 274 = .ok (.getfield 100, 3) := by decide +kernel
theorem f127_277 : decode prog_10_method_1_code 277 = .ok (.iload_n 1, 1) := by decide +kernel
theorem f127_278 : decode prog_10_method_1_code 278 = .ok (.iconst (-1), 1) := by decide +kernel
theorem f127_279 : decode prog_10_method_1_code 279 = .ok (.iastore, 1) := by decide +kernel
theorem f127_280 : decode prog_10_method_1_code 280 = .ok (.iinc 1 1, 3) := by decide +kernel
theorem f127_283 : decode prog_10_method_1_code 283 = .ok (.goto (-16), 3) := by decide +kernel
theorem f127_286 : decode prog_10_method_1_code 286 = .ok (.return_, 1) := by decide +kernel
theorem g0 : decode code 0 = .ok (.new 7, 3) := by decide +kernel
theorem g3 : decode code 3 = .ok (.dup, 1) := by decide +kernel
theorem g4 : decode code 4 = .ok (.invokespecial 9, 3) := by decide +kernel
theorem g7 : decode code 7 = .ok (.astore_n 1, 1) := by decide +kernel
theorem g8 : decode code 8 = .ok (.new 10, 3) := by decide +kernel
theorem g11 : decode code 11 = .ok (.dup, 1) := by decide +kernel
theorem g12 : decode code 12 = .ok (.invokespecial 12, 3) := by decide +kernel
theorem g15 : decode code 15 = .ok (.astore_n 2, 1) := by decide +kernel
section CTW
variable {zl : Nat} {nl : Option Nat} {xs : Nat → Int}
theorem ct0 {K : Hp → Prop} (k : K (HH zl xs nl 10 7 0)) : yU 37 3 [vR (some 40), vI 8] (HH zl xs nl 9 6 0) K := by
  refine y_en (L := [some (vR (some 40)), some (vI 8)]) rfl rfl ?_
  refine y_s (pc' := 1) (L' := [some (vR (some 40)), some (vI 8)]) (st' := [vR (some 40)]) (h' := (HH zl xs nl 9 6 0)) f3_0 rfl ?_
  refine y_s (pc' := 4) (L' := [some (vR (some 40)), some (vI 8)]) (st' := []) (h' := (HH zl xs nl 9 6 0)) f3_1 rfl ?_
  refine y_s (pc' := 5) (L' := [some (vR (some 40)), some (vI 8)]) (st' := [vR (some 40)]) (h' := (HH zl xs nl 9 6 0)) f3_4 rfl ?_
  refine y_s (pc' := 6) (L' := [some (vR (some 40)), some (vI 8)]) (st' := [vI 8, vR (some 40)]) (h' := (HH zl xs nl 9 6 0)) f3_5 rfl ?_
  refine y_s (pc' := 7) (L' := [some (vR (some 40)), some (vI 8)]) (st' := [vI 4, vI 8, vR (some 40)]) (h' := (HH zl xs nl 9 6 0)) f3_6 rfl ?_
  refine y_s (pc' := 8) (L' := [some (vR (some 40)), some (vI 8)]) (st' := [vI 32, vR (some 40)]) (h' := (HH zl xs nl 9 6 0)) f3_7 rfl ?_
  refine y_s (pc' := 10) (L' := [some (vR (some 40)), some (vI 8)]) (st' := [vR (some 41), vR (some 40)]) (h' := (zmk 1 32 (HH zl xs nl 9 6 0))) f3_8 rfl ?_
  rw [HH_mk (n := 9) (w := 6) (v := 0) (kd := 1) (sz := 32) rfl rfl rfl]
  refine y_s (pc' := 13) (L' := [some (vR (some 40)), some (vI 8)]) (st' := []) (h' := (zsetP (HH zl xs nl 10 6 0) 40 0 (some 41))) f3_10 rfl ?_
  rw [HH_P (a := 40) (k := 0) (q := 41) (w := 6) rfl]
  exact y_ru f3_13 ⟨rfl, k⟩
theorem ct1 {K : Hp → Prop} (k : K (HH zl xs nl 12 9 0)) : yU 37 3 [vR (some 42), vI 5] (HH zl xs nl 11 8 0) K := by
  refine y_en (L := [some (vR (some 42)), some (vI 5)]) rfl rfl ?_
  refine y_s (pc' := 1) (L' := [some (vR (some 42)), some (vI 5)]) (st' := [vR (some 42)]) (h' := (HH zl xs nl 11 8 0)) f3_0 rfl ?_
  refine y_s (pc' := 4) (L' := [some (vR (some 42)), some (vI 5)]) (st' := []) (h' := (HH zl xs nl 11 8 0)) f3_1 rfl ?_
  refine y_s (pc' := 5) (L' := [some (vR (some 42)), some (vI 5)]) (st' := [vR (some 42)]) (h' := (HH zl xs nl 11 8 0)) f3_4 rfl ?_
  refine y_s (pc' := 6) (L' := [some (vR (some 42)), some (vI 5)]) (st' := [vI 5, vR (some 42)]) (h' := (HH zl xs nl 11 8 0)) f3_5 rfl ?_
  refine y_s (pc' := 7) (L' := [some (vR (some 42)), some (vI 5)]) (st' := [vI 4, vI 5, vR (some 42)]) (h' := (HH zl xs nl 11 8 0)) f3_6 rfl ?_
  refine y_s (pc' := 8) (L' := [some (vR (some 42)), some (vI 5)]) (st' := [vI 20, vR (some 42)]) (h' := (HH zl xs nl 11 8 0)) f3_7 rfl ?_
  refine y_s (pc' := 10) (L' := [some (vR (some 42)), some (vI 5)]) (st' := [vR (some 43), vR (some 42)]) (h' := (zmk 1 20 (HH zl xs nl 11 8 0))) f3_8 rfl ?_
  rw [HH_mk (n := 11) (w := 8) (v := 0) (kd := 1) (sz := 20) rfl rfl rfl]
  refine y_s (pc' := 13) (L' := [some (vR (some 42)), some (vI 5)]) (st' := []) (h' := (zsetP (HH zl xs nl 12 8 0) 42 0 (some 43))) f3_10 rfl ?_
  rw [HH_P (a := 42) (k := 0) (q := 43) (w := 8) rfl]
  exact y_ru f3_13 ⟨rfl, k⟩
theorem ct2 {K : Hp → Prop} (k : K (HH zl xs nl 14 11 0)) : yU 37 3 [vR (some 44), vI 10] (HH zl xs nl 13 10 0) K := by
  refine y_en (L := [some (vR (some 44)), some (vI 10)]) rfl rfl ?_
  refine y_s (pc' := 1) (L' := [some (vR (some 44)), some (vI 10)]) (st' := [vR (some 44)]) (h' := (HH zl xs nl 13 10 0)) f3_0 rfl ?_
  refine y_s (pc' := 4) (L' := [some (vR (some 44)), some (vI 10)]) (st' := []) (h' := (HH zl xs nl 13 10 0)) f3_1 rfl ?_
  refine y_s (pc' := 5) (L' := [some (vR (some 44)), some (vI 10)]) (st' := [vR (some 44)]) (h' := (HH zl xs nl 13 10 0)) f3_4 rfl ?_
  refine y_s (pc' := 6) (L' := [some (vR (some 44)), some (vI 10)]) (st' := [vI 10, vR (some 44)]) (h' := (HH zl xs nl 13 10 0)) f3_5 rfl ?_
  refine y_s (pc' := 7) (L' := [some (vR (some 44)), some (vI 10)]) (st' := [vI 4, vI 10, vR (some 44)]) (h' := (HH zl xs nl 13 10 0)) f3_6 rfl ?_
  refine y_s (pc' := 8) (L' := [some (vR (some 44)), some (vI 10)]) (st' := [vI 40, vR (some 44)]) (h' := (HH zl xs nl 13 10 0)) f3_7 rfl ?_
  refine y_s (pc' := 10) (L' := [some (vR (some 44)), some (vI 10)]) (st' := [vR (some 45), vR (some 44)]) (h' := (zmk 1 40 (HH zl xs nl 13 10 0))) f3_8 rfl ?_
  rw [HH_mk (n := 13) (w := 10) (v := 0) (kd := 1) (sz := 40) rfl rfl rfl]
  refine y_s (pc' := 13) (L' := [some (vR (some 44)), some (vI 10)]) (st' := []) (h' := (zsetP (HH zl xs nl 14 10 0) 44 0 (some 45))) f3_10 rfl ?_
  rw [HH_P (a := 44) (k := 0) (q := 45) (w := 10) rfl]
  exact y_ru f3_13 ⟨rfl, k⟩
theorem ct3 {K : Hp → Prop} (k : K (HH zl xs nl 16 13 0)) : yU 37 3 [vR (some 46), vI 8] (HH zl xs nl 15 12 0) K := by
  refine y_en (L := [some (vR (some 46)), some (vI 8)]) rfl rfl ?_
  refine y_s (pc' := 1) (L' := [some (vR (some 46)), some (vI 8)]) (st' := [vR (some 46)]) (h' := (HH zl xs nl 15 12 0)) f3_0 rfl ?_
  refine y_s (pc' := 4) (L' := [some (vR (some 46)), some (vI 8)]) (st' := []) (h' := (HH zl xs nl 15 12 0)) f3_1 rfl ?_
  refine y_s (pc' := 5) (L' := [some (vR (some 46)), some (vI 8)]) (st' := [vR (some 46)]) (h' := (HH zl xs nl 15 12 0)) f3_4 rfl ?_
  refine y_s (pc' := 6) (L' := [some (vR (some 46)), some (vI 8)]) (st' := [vI 8, vR (some 46)]) (h' := (HH zl xs nl 15 12 0)) f3_5 rfl ?_
  refine y_s (pc' := 7) (L' := [some (vR (some 46)), some (vI 8)]) (st' := [vI 4, vI 8, vR (some 46)]) (h' := (HH zl xs nl 15 12 0)) f3_6 rfl ?_
  refine y_s (pc' := 8) (L' := [some (vR (some 46)), some (vI 8)]) (st' := [vI 32, vR (some 46)]) (h' := (HH zl xs nl 15 12 0)) f3_7 rfl ?_
  refine y_s (pc' := 10) (L' := [some (vR (some 46)), some (vI 8)]) (st' := [vR (some 47), vR (some 46)]) (h' := (zmk 1 32 (HH zl xs nl 15 12 0))) f3_8 rfl ?_
  rw [HH_mk (n := 15) (w := 12) (v := 0) (kd := 1) (sz := 32) rfl rfl rfl]
  refine y_s (pc' := 13) (L' := [some (vR (some 46)), some (vI 8)]) (st' := []) (h' := (zsetP (HH zl xs nl 16 12 0) 46 0 (some 47))) f3_10 rfl ?_
  rw [HH_P (a := 46) (k := 0) (q := 47) (w := 12) rfl]
  exact y_ru f3_13 ⟨rfl, k⟩
theorem ct4 {K : Hp → Prop} (k : K (HH zl xs nl 20 17 0)) : yU 37 4 [vR (some 48)] (HH zl xs nl 17 14 0) K := by
  refine y_en (L := [some (vR (some 48))]) rfl rfl ?_
  refine y_s (pc' := 1) (L' := [some (vR (some 48))]) (st' := [vR (some 48)]) (h' := (HH zl xs nl 17 14 0)) f4_0 rfl ?_
  refine y_s (pc' := 4) (L' := [some (vR (some 48))]) (st' := []) (h' := (HH zl xs nl 17 14 0)) f4_1 rfl ?_
  refine y_s (pc' := 5) (L' := [some (vR (some 48))]) (st' := [vR (some 48)]) (h' := (HH zl xs nl 17 14 0)) f4_4 rfl ?_
  refine y_s (pc' := 7) (L' := [some (vR (some 48))]) (st' := [vI 100, vR (some 48)]) (h' := (HH zl xs nl 17 14 0)) f4_5 rfl ?_
  refine y_s (pc' := 9) (L' := [some (vR (some 48))]) (st' := [vR (some 49), vR (some 48)]) (h' := (zmk 1 100 (HH zl xs nl 17 14 0))) f4_7 rfl ?_
  rw [HH_mk (n := 17) (w := 14) (v := 0) (kd := 1) (sz := 100) rfl rfl rfl]
  refine y_s (pc' := 12) (L' := [some (vR (some 48))]) (st' := []) (h' := (zsetP (HH zl xs nl 18 14 0) 48 0 (some 49))) f4_9 rfl ?_
  rw [HH_P (a := 48) (k := 0) (q := 49) (w := 14) rfl]
  refine y_s (pc' := 13) (L' := [some (vR (some 48))]) (st' := [vR (some 48)]) (h' := (HH zl xs nl 18 15 0)) f4_12 rfl ?_
  refine y_s (pc' := 15) (L' := [some (vR (some 48))]) (st' := [vI 100, vR (some 48)]) (h' := (HH zl xs nl 18 15 0)) f4_13 rfl ?_
  refine y_s (pc' := 17) (L' := [some (vR (some 48))]) (st' := [vR (some 50), vR (some 48)]) (h' := (zmk 1 100 (HH zl xs nl 18 15 0))) f4_15 rfl ?_
  rw [HH_mk (n := 18) (w := 15) (v := 0) (kd := 1) (sz := 100) rfl rfl rfl]
  refine y_s (pc' := 20) (L' := [some (vR (some 48))]) (st' := []) (h' := (zsetP (HH zl xs nl 19 15 0) 48 1 (some 50))) f4_17 rfl ?_
  rw [HH_P (a := 48) (k := 1) (q := 50) (w := 15) rfl]
  refine y_s (pc' := 21) (L' := [some (vR (some 48))]) (st' := [vR (some 48)]) (h' := (HH zl xs nl 19 16 0)) f4_20 rfl ?_
  refine y_s (pc' := 23) (L' := [some (vR (some 48))]) (st' := [vI 100, vR (some 48)]) (h' := (HH zl xs nl 19 16 0)) f4_21 rfl ?_
  refine y_s (pc' := 25) (L' := [some (vR (some 48))]) (st' := [vR (some 51), vR (some 48)]) (h' := (zmk 1 100 (HH zl xs nl 19 16 0))) f4_23 rfl ?_
  rw [HH_mk (n := 19) (w := 16) (v := 0) (kd := 1) (sz := 100) rfl rfl rfl]
  refine y_s (pc' := 28) (L' := [some (vR (some 48))]) (st' := []) (h' := (zsetP (HH zl xs nl 20 16 0) 48 2 (some 51))) f4_25 rfl ?_
  rw [HH_P (a := 48) (k := 2) (q := 51) (w := 16) rfl]
  exact y_ru f4_28 ⟨rfl, k⟩
theorem ct5 {K : Hp → Prop} (k : K (HH zl xs nl 20 18 0)) : yU 38 2 [vR (some 33)] (HH zl xs nl 2 0 0) K := by
  refine y_en (L := [some (vR (some 33))]) rfl rfl ?_
  refine y_s (pc' := 1) (L' := [some (vR (some 33))]) (st' := [vR (some 33)]) (h' := (HH zl xs nl 2 0 0)) f2_0 rfl ?_
  refine y_s (pc' := 4) (L' := [some (vR (some 33))]) (st' := []) (h' := (HH zl xs nl 2 0 0)) f2_1 rfl ?_
  refine y_s (pc' := 5) (L' := [some (vR (some 33))]) (st' := [vR (some 33)]) (h' := (HH zl xs nl 2 0 0)) f2_4 rfl ?_
  refine y_s (pc' := 7) (L' := [some (vR (some 33))]) (st' := [vI 6, vR (some 33)]) (h' := (HH zl xs nl 2 0 0)) f2_5 rfl ?_
  refine y_s (pc' := 9) (L' := [some (vR (some 33))]) (st' := [vR (some 34), vR (some 33)]) (h' := (zmk 1 6 (HH zl xs nl 2 0 0))) f2_7 rfl ?_
  rw [HH_mk (n := 2) (w := 0) (v := 0) (kd := 1) (sz := 6) rfl rfl rfl]
  refine y_s (pc' := 12) (L' := [some (vR (some 33))]) (st' := []) (h' := (zsetP (HH zl xs nl 3 0 0) 33 0 (some 34))) f2_9 rfl ?_
  rw [HH_P (a := 33) (k := 0) (q := 34) (w := 0) rfl]
  refine y_s (pc' := 13) (L' := [some (vR (some 33))]) (st' := [vR (some 33)]) (h' := (HH zl xs nl 3 1 0)) f2_12 rfl ?_
  refine y_s (pc' := 15) (L' := [some (vR (some 33))]) (st' := [vI 6, vR (some 33)]) (h' := (HH zl xs nl 3 1 0)) f2_13 rfl ?_
  refine y_s (pc' := 17) (L' := [some (vR (some 33))]) (st' := [vR (some 35), vR (some 33)]) (h' := (zmk 1 6 (HH zl xs nl 3 1 0))) f2_15 rfl ?_
  rw [HH_mk (n := 3) (w := 1) (v := 0) (kd := 1) (sz := 6) rfl rfl rfl]
  refine y_s (pc' := 20) (L' := [some (vR (some 33))]) (st' := []) (h' := (zsetP (HH zl xs nl 4 1 0) 33 1 (some 35))) f2_17 rfl ?_
  rw [HH_P (a := 33) (k := 1) (q := 35) (w := 1) rfl]
  refine y_s (pc' := 21) (L' := [some (vR (some 33))]) (st' := [vR (some 33)]) (h' := (HH zl xs nl 4 2 0)) f2_20 rfl ?_
  refine y_s (pc' := 23) (L' := [some (vR (some 33))]) (st' := [vI 6, vR (some 33)]) (h' := (HH zl xs nl 4 2 0)) f2_21 rfl ?_
  refine y_s (pc' := 25) (L' := [some (vR (some 33))]) (st' := [vR (some 36), vR (some 33)]) (h' := (zmk 1 6 (HH zl xs nl 4 2 0))) f2_23 rfl ?_
  rw [HH_mk (n := 4) (w := 2) (v := 0) (kd := 1) (sz := 6) rfl rfl rfl]
  refine y_s (pc' := 28) (L' := [some (vR (some 33))]) (st' := []) (h' := (zsetP (HH zl xs nl 5 2 0) 33 2 (some 36))) f2_25 rfl ?_
  rw [HH_P (a := 33) (k := 2) (q := 36) (w := 2) rfl]
  refine y_s (pc' := 29) (L' := [some (vR (some 33))]) (st' := [vR (some 33)]) (h' := (HH zl xs nl 5 3 0)) f2_28 rfl ?_
  refine y_s (pc' := 31) (L' := [some (vR (some 33))]) (st' := [vI 36, vR (some 33)]) (h' := (HH zl xs nl 5 3 0)) f2_29 rfl ?_
  refine y_s (pc' := 33) (L' := [some (vR (some 33))]) (st' := [vR (some 37), vR (some 33)]) (h' := (zmk 1 36 (HH zl xs nl 5 3 0))) f2_31 rfl ?_
  rw [HH_mk (n := 5) (w := 3) (v := 0) (kd := 1) (sz := 36) rfl rfl rfl]
  refine y_s (pc' := 36) (L' := [some (vR (some 33))]) (st' := []) (h' := (zsetP (HH zl xs nl 6 3 0) 33 3 (some 37))) f2_33 rfl ?_
  rw [HH_P (a := 33) (k := 3) (q := 37) (w := 3) rfl]
  refine y_s (pc' := 37) (L' := [some (vR (some 33))]) (st' := [vR (some 33)]) (h' := (HH zl xs nl 6 4 0)) f2_36 rfl ?_
  refine y_s (pc' := 39) (L' := [some (vR (some 33))]) (st' := [vI 24, vR (some 33)]) (h' := (HH zl xs nl 6 4 0)) f2_37 rfl ?_
  refine y_s (pc' := 41) (L' := [some (vR (some 33))]) (st' := [vR (some 38), vR (some 33)]) (h' := (zmk 1 24 (HH zl xs nl 6 4 0))) f2_39 rfl ?_
  rw [HH_mk (n := 6) (w := 4) (v := 0) (kd := 1) (sz := 24) rfl rfl rfl]
  refine y_s (pc' := 44) (L' := [some (vR (some 33))]) (st' := []) (h' := (zsetP (HH zl xs nl 7 4 0) 33 4 (some 38))) f2_41 rfl ?_
  rw [HH_P (a := 33) (k := 4) (q := 38) (w := 4) rfl]
  refine y_s (pc' := 45) (L' := [some (vR (some 33))]) (st' := [vR (some 33)]) (h' := (HH zl xs nl 7 5 0)) f2_44 rfl ?_
  refine y_s (pc' := 47) (L' := [some (vR (some 33))]) (st' := [vI 6, vR (some 33)]) (h' := (HH zl xs nl 7 5 0)) f2_45 rfl ?_
  refine y_s (pc' := 49) (L' := [some (vR (some 33))]) (st' := [vR (some 39), vR (some 33)]) (h' := (zmk 1 6 (HH zl xs nl 7 5 0))) f2_47 rfl ?_
  rw [HH_mk (n := 7) (w := 5) (v := 0) (kd := 1) (sz := 6) rfl rfl rfl]
  refine y_s (pc' := 52) (L' := [some (vR (some 33))]) (st' := []) (h' := (zsetP (HH zl xs nl 8 5 0) 33 5 (some 39))) f2_49 rfl ?_
  rw [HH_P (a := 33) (k := 5) (q := 39) (w := 5) rfl]
  refine y_s (pc' := 53) (L' := [some (vR (some 33))]) (st' := [vR (some 33)]) (h' := (HH zl xs nl 8 6 0)) f2_52 rfl ?_
  refine y_s (pc' := 56) (L' := [some (vR (some 33))]) (st' := [vR (some 40), vR (some 33)]) (h' := (zmk 13 2 (HH zl xs nl 8 6 0))) f2_53 rfl ?_
  rw [HH_mk (n := 8) (w := 6) (v := 0) (kd := 13) (sz := 2) rfl rfl rfl]
  refine y_s (pc' := 57) (L' := [some (vR (some 33))]) (st' := [vR (some 40), vR (some 40), vR (some 33)]) (h' := (HH zl xs nl 9 6 0)) f2_56 rfl ?_
  refine y_s (pc' := 59) (L' := [some (vR (some 33))]) (st' := [vI 8, vR (some 40), vR (some 40), vR (some 33)]) (h' := (HH zl xs nl 9 6 0)) f2_57 rfl ?_
  refine y_cU (pc' := 62) (as := [vR (some 40), vI 8]) (r := [vR (some 40), vR (some 33)]) f2_59 rfl (by decide) rfl ?_
  refine ct0 ?_
  refine y_s (pc' := 65) (L' := [some (vR (some 33))]) (st' := []) (h' := (zsetP (HH zl xs nl 10 7 0) 33 6 (some 40))) f2_62 rfl ?_
  rw [HH_P (a := 33) (k := 6) (q := 40) (w := 7) rfl]
  refine y_s (pc' := 66) (L' := [some (vR (some 33))]) (st' := [vR (some 33)]) (h' := (HH zl xs nl 10 8 0)) f2_65 rfl ?_
  refine y_s (pc' := 69) (L' := [some (vR (some 33))]) (st' := [vR (some 42), vR (some 33)]) (h' := (zmk 13 2 (HH zl xs nl 10 8 0))) f2_66 rfl ?_
  rw [HH_mk (n := 10) (w := 8) (v := 0) (kd := 13) (sz := 2) rfl rfl rfl]
  refine y_s (pc' := 70) (L' := [some (vR (some 33))]) (st' := [vR (some 42), vR (some 42), vR (some 33)]) (h' := (HH zl xs nl 11 8 0)) f2_69 rfl ?_
  refine y_s (pc' := 71) (L' := [some (vR (some 33))]) (st' := [vI 5, vR (some 42), vR (some 42), vR (some 33)]) (h' := (HH zl xs nl 11 8 0)) f2_70 rfl ?_
  refine y_cU (pc' := 74) (as := [vR (some 42), vI 5]) (r := [vR (some 42), vR (some 33)]) f2_71 rfl (by decide) rfl ?_
  refine ct1 ?_
  refine y_s (pc' := 77) (L' := [some (vR (some 33))]) (st' := []) (h' := (zsetP (HH zl xs nl 12 9 0) 33 7 (some 42))) f2_74 rfl ?_
  rw [HH_P (a := 33) (k := 7) (q := 42) (w := 9) rfl]
  refine y_s (pc' := 78) (L' := [some (vR (some 33))]) (st' := [vR (some 33)]) (h' := (HH zl xs nl 12 10 0)) f2_77 rfl ?_
  refine y_s (pc' := 81) (L' := [some (vR (some 33))]) (st' := [vR (some 44), vR (some 33)]) (h' := (zmk 13 2 (HH zl xs nl 12 10 0))) f2_78 rfl ?_
  rw [HH_mk (n := 12) (w := 10) (v := 0) (kd := 13) (sz := 2) rfl rfl rfl]
  refine y_s (pc' := 82) (L' := [some (vR (some 33))]) (st' := [vR (some 44), vR (some 44), vR (some 33)]) (h' := (HH zl xs nl 13 10 0)) f2_81 rfl ?_
  refine y_s (pc' := 84) (L' := [some (vR (some 33))]) (st' := [vI 10, vR (some 44), vR (some 44), vR (some 33)]) (h' := (HH zl xs nl 13 10 0)) f2_82 rfl ?_
  refine y_cU (pc' := 87) (as := [vR (some 44), vI 10]) (r := [vR (some 44), vR (some 33)]) f2_84 rfl (by decide) rfl ?_
  refine ct2 ?_
  refine y_s (pc' := 90) (L' := [some (vR (some 33))]) (st' := []) (h' := (zsetP (HH zl xs nl 14 11 0) 33 8 (some 44))) f2_87 rfl ?_
  rw [HH_P (a := 33) (k := 8) (q := 44) (w := 11) rfl]
  refine y_s (pc' := 91) (L' := [some (vR (some 33))]) (st' := [vR (some 33)]) (h' := (HH zl xs nl 14 12 0)) f2_90 rfl ?_
  refine y_s (pc' := 94) (L' := [some (vR (some 33))]) (st' := [vR (some 46), vR (some 33)]) (h' := (zmk 13 2 (HH zl xs nl 14 12 0))) f2_91 rfl ?_
  rw [HH_mk (n := 14) (w := 12) (v := 0) (kd := 13) (sz := 2) rfl rfl rfl]
  refine y_s (pc' := 95) (L' := [some (vR (some 33))]) (st' := [vR (some 46), vR (some 46), vR (some 33)]) (h' := (HH zl xs nl 15 12 0)) f2_94 rfl ?_
  refine y_s (pc' := 97) (L' := [some (vR (some 33))]) (st' := [vI 8, vR (some 46), vR (some 46), vR (some 33)]) (h' := (HH zl xs nl 15 12 0)) f2_95 rfl ?_
  refine y_cU (pc' := 100) (as := [vR (some 46), vI 8]) (r := [vR (some 46), vR (some 33)]) f2_97 rfl (by decide) rfl ?_
  refine ct3 ?_
  refine y_s (pc' := 103) (L' := [some (vR (some 33))]) (st' := []) (h' := (zsetP (HH zl xs nl 16 13 0) 33 9 (some 46))) f2_100 rfl ?_
  rw [HH_P (a := 33) (k := 9) (q := 46) (w := 13) rfl]
  refine y_s (pc' := 104) (L' := [some (vR (some 33))]) (st' := [vR (some 33)]) (h' := (HH zl xs nl 16 14 0)) f2_103 rfl ?_
  refine y_s (pc' := 107) (L' := [some (vR (some 33))]) (st' := [vR (some 48), vR (some 33)]) (h' := (zmk 14 5 (HH zl xs nl 16 14 0))) f2_104 rfl ?_
  rw [HH_mk (n := 16) (w := 14) (v := 0) (kd := 14) (sz := 5) rfl rfl rfl]
  refine y_s (pc' := 108) (L' := [some (vR (some 33))]) (st' := [vR (some 48), vR (some 48), vR (some 33)]) (h' := (HH zl xs nl 17 14 0)) f2_107 rfl ?_
  refine y_cU (pc' := 111) (as := [vR (some 48)]) (r := [vR (some 48), vR (some 33)]) f2_108 rfl (by decide) rfl ?_
  refine ct4 ?_
  refine y_s (pc' := 114) (L' := [some (vR (some 33))]) (st' := []) (h' := (zsetP (HH zl xs nl 20 17 0) 33 12 (some 48))) f2_111 rfl ?_
  rw [HH_P (a := 33) (k := 12) (q := 48) (w := 17) rfl]
  exact y_ru f2_114 ⟨rfl, k⟩
theorem ct6 {K : Hp → Prop} (k : K (HH zl xs nl 29 26 0)) : yU 37 3 [vR (some 59), vI 8] (HH zl xs nl 28 25 0) K := by
  refine y_en (L := [some (vR (some 59)), some (vI 8)]) rfl rfl ?_
  refine y_s (pc' := 1) (L' := [some (vR (some 59)), some (vI 8)]) (st' := [vR (some 59)]) (h' := (HH zl xs nl 28 25 0)) f3_0 rfl ?_
  refine y_s (pc' := 4) (L' := [some (vR (some 59)), some (vI 8)]) (st' := []) (h' := (HH zl xs nl 28 25 0)) f3_1 rfl ?_
  refine y_s (pc' := 5) (L' := [some (vR (some 59)), some (vI 8)]) (st' := [vR (some 59)]) (h' := (HH zl xs nl 28 25 0)) f3_4 rfl ?_
  refine y_s (pc' := 6) (L' := [some (vR (some 59)), some (vI 8)]) (st' := [vI 8, vR (some 59)]) (h' := (HH zl xs nl 28 25 0)) f3_5 rfl ?_
  refine y_s (pc' := 7) (L' := [some (vR (some 59)), some (vI 8)]) (st' := [vI 4, vI 8, vR (some 59)]) (h' := (HH zl xs nl 28 25 0)) f3_6 rfl ?_
  refine y_s (pc' := 8) (L' := [some (vR (some 59)), some (vI 8)]) (st' := [vI 32, vR (some 59)]) (h' := (HH zl xs nl 28 25 0)) f3_7 rfl ?_
  refine y_s (pc' := 10) (L' := [some (vR (some 59)), some (vI 8)]) (st' := [vR (some 60), vR (some 59)]) (h' := (zmk 1 32 (HH zl xs nl 28 25 0))) f3_8 rfl ?_
  rw [HH_mk (n := 28) (w := 25) (v := 0) (kd := 1) (sz := 32) rfl rfl rfl]
  refine y_s (pc' := 13) (L' := [some (vR (some 59)), some (vI 8)]) (st' := []) (h' := (zsetP (HH zl xs nl 29 25 0) 59 0 (some 60))) f3_10 rfl ?_
  rw [HH_P (a := 59) (k := 0) (q := 60) (w := 25) rfl]
  exact y_ru f3_13 ⟨rfl, k⟩
theorem ct7 {K : Hp → Prop} (k : K (HH zl xs nl 31 28 0)) : yU 37 3 [vR (some 61), vI 5] (HH zl xs nl 30 27 0) K := by
  refine y_en (L := [some (vR (some 61)), some (vI 5)]) rfl rfl ?_
  refine y_s (pc' := 1) (L' := [some (vR (some 61)), some (vI 5)]) (st' := [vR (some 61)]) (h' := (HH zl xs nl 30 27 0)) f3_0 rfl ?_
  refine y_s (pc' := 4) (L' := [some (vR (some 61)), some (vI 5)]) (st' := []) (h' := (HH zl xs nl 30 27 0)) f3_1 rfl ?_
  refine y_s (pc' := 5) (L' := [some (vR (some 61)), some (vI 5)]) (st' := [vR (some 61)]) (h' := (HH zl xs nl 30 27 0)) f3_4 rfl ?_
  refine y_s (pc' := 6) (L' := [some (vR (some 61)), some (vI 5)]) (st' := [vI 5, vR (some 61)]) (h' := (HH zl xs nl 30 27 0)) f3_5 rfl ?_
  refine y_s (pc' := 7) (L' := [some (vR (some 61)), some (vI 5)]) (st' := [vI 4, vI 5, vR (some 61)]) (h' := (HH zl xs nl 30 27 0)) f3_6 rfl ?_
  refine y_s (pc' := 8) (L' := [some (vR (some 61)), some (vI 5)]) (st' := [vI 20, vR (some 61)]) (h' := (HH zl xs nl 30 27 0)) f3_7 rfl ?_
  refine y_s (pc' := 10) (L' := [some (vR (some 61)), some (vI 5)]) (st' := [vR (some 62), vR (some 61)]) (h' := (zmk 1 20 (HH zl xs nl 30 27 0))) f3_8 rfl ?_
  rw [HH_mk (n := 30) (w := 27) (v := 0) (kd := 1) (sz := 20) rfl rfl rfl]
  refine y_s (pc' := 13) (L' := [some (vR (some 61)), some (vI 5)]) (st' := []) (h' := (zsetP (HH zl xs nl 31 27 0) 61 0 (some 62))) f3_10 rfl ?_
  rw [HH_P (a := 61) (k := 0) (q := 62) (w := 27) rfl]
  exact y_ru f3_13 ⟨rfl, k⟩
theorem ct8 {K : Hp → Prop} (k : K (HH zl xs nl 33 30 0)) : yU 37 3 [vR (some 63), vI 10] (HH zl xs nl 32 29 0) K := by
  refine y_en (L := [some (vR (some 63)), some (vI 10)]) rfl rfl ?_
  refine y_s (pc' := 1) (L' := [some (vR (some 63)), some (vI 10)]) (st' := [vR (some 63)]) (h' := (HH zl xs nl 32 29 0)) f3_0 rfl ?_
  refine y_s (pc' := 4) (L' := [some (vR (some 63)), some (vI 10)]) (st' := []) (h' := (HH zl xs nl 32 29 0)) f3_1 rfl ?_
  refine y_s (pc' := 5) (L' := [some (vR (some 63)), some (vI 10)]) (st' := [vR (some 63)]) (h' := (HH zl xs nl 32 29 0)) f3_4 rfl ?_
  refine y_s (pc' := 6) (L' := [some (vR (some 63)), some (vI 10)]) (st' := [vI 10, vR (some 63)]) (h' := (HH zl xs nl 32 29 0)) f3_5 rfl ?_
  refine y_s (pc' := 7) (L' := [some (vR (some 63)), some (vI 10)]) (st' := [vI 4, vI 10, vR (some 63)]) (h' := (HH zl xs nl 32 29 0)) f3_6 rfl ?_
  refine y_s (pc' := 8) (L' := [some (vR (some 63)), some (vI 10)]) (st' := [vI 40, vR (some 63)]) (h' := (HH zl xs nl 32 29 0)) f3_7 rfl ?_
  refine y_s (pc' := 10) (L' := [some (vR (some 63)), some (vI 10)]) (st' := [vR (some 64), vR (some 63)]) (h' := (zmk 1 40 (HH zl xs nl 32 29 0))) f3_8 rfl ?_
  rw [HH_mk (n := 32) (w := 29) (v := 0) (kd := 1) (sz := 40) rfl rfl rfl]
  refine y_s (pc' := 13) (L' := [some (vR (some 63)), some (vI 10)]) (st' := []) (h' := (zsetP (HH zl xs nl 33 29 0) 63 0 (some 64))) f3_10 rfl ?_
  rw [HH_P (a := 63) (k := 0) (q := 64) (w := 29) rfl]
  exact y_ru f3_13 ⟨rfl, k⟩
theorem ct9 {K : Hp → Prop} (k : K (HH zl xs nl 35 32 0)) : yU 37 3 [vR (some 65), vI 8] (HH zl xs nl 34 31 0) K := by
  refine y_en (L := [some (vR (some 65)), some (vI 8)]) rfl rfl ?_
  refine y_s (pc' := 1) (L' := [some (vR (some 65)), some (vI 8)]) (st' := [vR (some 65)]) (h' := (HH zl xs nl 34 31 0)) f3_0 rfl ?_
  refine y_s (pc' := 4) (L' := [some (vR (some 65)), some (vI 8)]) (st' := []) (h' := (HH zl xs nl 34 31 0)) f3_1 rfl ?_
  refine y_s (pc' := 5) (L' := [some (vR (some 65)), some (vI 8)]) (st' := [vR (some 65)]) (h' := (HH zl xs nl 34 31 0)) f3_4 rfl ?_
  refine y_s (pc' := 6) (L' := [some (vR (some 65)), some (vI 8)]) (st' := [vI 8, vR (some 65)]) (h' := (HH zl xs nl 34 31 0)) f3_5 rfl ?_
  refine y_s (pc' := 7) (L' := [some (vR (some 65)), some (vI 8)]) (st' := [vI 4, vI 8, vR (some 65)]) (h' := (HH zl xs nl 34 31 0)) f3_6 rfl ?_
  refine y_s (pc' := 8) (L' := [some (vR (some 65)), some (vI 8)]) (st' := [vI 32, vR (some 65)]) (h' := (HH zl xs nl 34 31 0)) f3_7 rfl ?_
  refine y_s (pc' := 10) (L' := [some (vR (some 65)), some (vI 8)]) (st' := [vR (some 66), vR (some 65)]) (h' := (zmk 1 32 (HH zl xs nl 34 31 0))) f3_8 rfl ?_
  rw [HH_mk (n := 34) (w := 31) (v := 0) (kd := 1) (sz := 32) rfl rfl rfl]
  refine y_s (pc' := 13) (L' := [some (vR (some 65)), some (vI 8)]) (st' := []) (h' := (zsetP (HH zl xs nl 35 31 0) 65 0 (some 66))) f3_10 rfl ?_
  rw [HH_P (a := 65) (k := 0) (q := 66) (w := 31) rfl]
  exact y_ru f3_13 ⟨rfl, k⟩
theorem ct10 {K : Hp → Prop} (k : K (HH zl xs nl 39 36 0)) : yU 37 4 [vR (some 67)] (HH zl xs nl 36 33 0) K := by
  refine y_en (L := [some (vR (some 67))]) rfl rfl ?_
  refine y_s (pc' := 1) (L' := [some (vR (some 67))]) (st' := [vR (some 67)]) (h' := (HH zl xs nl 36 33 0)) f4_0 rfl ?_
  refine y_s (pc' := 4) (L' := [some (vR (some 67))]) (st' := []) (h' := (HH zl xs nl 36 33 0)) f4_1 rfl ?_
  refine y_s (pc' := 5) (L' := [some (vR (some 67))]) (st' := [vR (some 67)]) (h' := (HH zl xs nl 36 33 0)) f4_4 rfl ?_
  refine y_s (pc' := 7) (L' := [some (vR (some 67))]) (st' := [vI 100, vR (some 67)]) (h' := (HH zl xs nl 36 33 0)) f4_5 rfl ?_
  refine y_s (pc' := 9) (L' := [some (vR (some 67))]) (st' := [vR (some 68), vR (some 67)]) (h' := (zmk 1 100 (HH zl xs nl 36 33 0))) f4_7 rfl ?_
  rw [HH_mk (n := 36) (w := 33) (v := 0) (kd := 1) (sz := 100) rfl rfl rfl]
  refine y_s (pc' := 12) (L' := [some (vR (some 67))]) (st' := []) (h' := (zsetP (HH zl xs nl 37 33 0) 67 0 (some 68))) f4_9 rfl ?_
  rw [HH_P (a := 67) (k := 0) (q := 68) (w := 33) rfl]
  refine y_s (pc' := 13) (L' := [some (vR (some 67))]) (st' := [vR (some 67)]) (h' := (HH zl xs nl 37 34 0)) f4_12 rfl ?_
  refine y_s (pc' := 15) (L' := [some (vR (some 67))]) (st' := [vI 100, vR (some 67)]) (h' := (HH zl xs nl 37 34 0)) f4_13 rfl ?_
  refine y_s (pc' := 17) (L' := [some (vR (some 67))]) (st' := [vR (some 69), vR (some 67)]) (h' := (zmk 1 100 (HH zl xs nl 37 34 0))) f4_15 rfl ?_
  rw [HH_mk (n := 37) (w := 34) (v := 0) (kd := 1) (sz := 100) rfl rfl rfl]
  refine y_s (pc' := 20) (L' := [some (vR (some 67))]) (st' := []) (h' := (zsetP (HH zl xs nl 38 34 0) 67 1 (some 69))) f4_17 rfl ?_
  rw [HH_P (a := 67) (k := 1) (q := 69) (w := 34) rfl]
  refine y_s (pc' := 21) (L' := [some (vR (some 67))]) (st' := [vR (some 67)]) (h' := (HH zl xs nl 38 35 0)) f4_20 rfl ?_
  refine y_s (pc' := 23) (L' := [some (vR (some 67))]) (st' := [vI 100, vR (some 67)]) (h' := (HH zl xs nl 38 35 0)) f4_21 rfl ?_
  refine y_s (pc' := 25) (L' := [some (vR (some 67))]) (st' := [vR (some 70), vR (some 67)]) (h' := (zmk 1 100 (HH zl xs nl 38 35 0))) f4_23 rfl ?_
  rw [HH_mk (n := 38) (w := 35) (v := 0) (kd := 1) (sz := 100) rfl rfl rfl]
  refine y_s (pc' := 28) (L' := [some (vR (some 67))]) (st' := []) (h' := (zsetP (HH zl xs nl 39 35 0) 67 2 (some 70))) f4_25 rfl ?_
  rw [HH_P (a := 67) (k := 2) (q := 70) (w := 35) rfl]
  exact y_ru f4_28 ⟨rfl, k⟩
theorem ct11 {K : Hp → Prop} (k : K (HH zl xs nl 39 37 0)) : yU 38 2 [vR (some 52)] (HH zl xs nl 21 19 0) K := by
  refine y_en (L := [some (vR (some 52))]) rfl rfl ?_
  refine y_s (pc' := 1) (L' := [some (vR (some 52))]) (st' := [vR (some 52)]) (h' := (HH zl xs nl 21 19 0)) f2_0 rfl ?_
  refine y_s (pc' := 4) (L' := [some (vR (some 52))]) (st' := []) (h' := (HH zl xs nl 21 19 0)) f2_1 rfl ?_
  refine y_s (pc' := 5) (L' := [some (vR (some 52))]) (st' := [vR (some 52)]) (h' := (HH zl xs nl 21 19 0)) f2_4 rfl ?_
  refine y_s (pc' := 7) (L' := [some (vR (some 52))]) (st' := [vI 6, vR (some 52)]) (h' := (HH zl xs nl 21 19 0)) f2_5 rfl ?_
  refine y_s (pc' := 9) (L' := [some (vR (some 52))]) (st' := [vR (some 53), vR (some 52)]) (h' := (zmk 1 6 (HH zl xs nl 21 19 0))) f2_7 rfl ?_
  rw [HH_mk (n := 21) (w := 19) (v := 0) (kd := 1) (sz := 6) rfl rfl rfl]
  refine y_s (pc' := 12) (L' := [some (vR (some 52))]) (st' := []) (h' := (zsetP (HH zl xs nl 22 19 0) 52 0 (some 53))) f2_9 rfl ?_
  rw [HH_P (a := 52) (k := 0) (q := 53) (w := 19) rfl]
  refine y_s (pc' := 13) (L' := [some (vR (some 52))]) (st' := [vR (some 52)]) (h' := (HH zl xs nl 22 20 0)) f2_12 rfl ?_
  refine y_s (pc' := 15) (L' := [some (vR (some 52))]) (st' := [vI 6, vR (some 52)]) (h' := (HH zl xs nl 22 20 0)) f2_13 rfl ?_
  refine y_s (pc' := 17) (L' := [some (vR (some 52))]) (st' := [vR (some 54), vR (some 52)]) (h' := (zmk 1 6 (HH zl xs nl 22 20 0))) f2_15 rfl ?_
  rw [HH_mk (n := 22) (w := 20) (v := 0) (kd := 1) (sz := 6) rfl rfl rfl]
  refine y_s (pc' := 20) (L' := [some (vR (some 52))]) (st' := []) (h' := (zsetP (HH zl xs nl 23 20 0) 52 1 (some 54))) f2_17 rfl ?_
  rw [HH_P (a := 52) (k := 1) (q := 54) (w := 20) rfl]
  refine y_s (pc' := 21) (L' := [some (vR (some 52))]) (st' := [vR (some 52)]) (h' := (HH zl xs nl 23 21 0)) f2_20 rfl ?_
  refine y_s (pc' := 23) (L' := [some (vR (some 52))]) (st' := [vI 6, vR (some 52)]) (h' := (HH zl xs nl 23 21 0)) f2_21 rfl ?_
  refine y_s (pc' := 25) (L' := [some (vR (some 52))]) (st' := [vR (some 55), vR (some 52)]) (h' := (zmk 1 6 (HH zl xs nl 23 21 0))) f2_23 rfl ?_
  rw [HH_mk (n := 23) (w := 21) (v := 0) (kd := 1) (sz := 6) rfl rfl rfl]
  refine y_s (pc' := 28) (L' := [some (vR (some 52))]) (st' := []) (h' := (zsetP (HH zl xs nl 24 21 0) 52 2 (some 55))) f2_25 rfl ?_
  rw [HH_P (a := 52) (k := 2) (q := 55) (w := 21) rfl]
  refine y_s (pc' := 29) (L' := [some (vR (some 52))]) (st' := [vR (some 52)]) (h' := (HH zl xs nl 24 22 0)) f2_28 rfl ?_
  refine y_s (pc' := 31) (L' := [some (vR (some 52))]) (st' := [vI 36, vR (some 52)]) (h' := (HH zl xs nl 24 22 0)) f2_29 rfl ?_
  refine y_s (pc' := 33) (L' := [some (vR (some 52))]) (st' := [vR (some 56), vR (some 52)]) (h' := (zmk 1 36 (HH zl xs nl 24 22 0))) f2_31 rfl ?_
  rw [HH_mk (n := 24) (w := 22) (v := 0) (kd := 1) (sz := 36) rfl rfl rfl]
  refine y_s (pc' := 36) (L' := [some (vR (some 52))]) (st' := []) (h' := (zsetP (HH zl xs nl 25 22 0) 52 3 (some 56))) f2_33 rfl ?_
  rw [HH_P (a := 52) (k := 3) (q := 56) (w := 22) rfl]
  refine y_s (pc' := 37) (L' := [some (vR (some 52))]) (st' := [vR (some 52)]) (h' := (HH zl xs nl 25 23 0)) f2_36 rfl ?_
  refine y_s (pc' := 39) (L' := [some (vR (some 52))]) (st' := [vI 24, vR (some 52)]) (h' := (HH zl xs nl 25 23 0)) f2_37 rfl ?_
  refine y_s (pc' := 41) (L' := [some (vR (some 52))]) (st' := [vR (some 57), vR (some 52)]) (h' := (zmk 1 24 (HH zl xs nl 25 23 0))) f2_39 rfl ?_
  rw [HH_mk (n := 25) (w := 23) (v := 0) (kd := 1) (sz := 24) rfl rfl rfl]
  refine y_s (pc' := 44) (L' := [some (vR (some 52))]) (st' := []) (h' := (zsetP (HH zl xs nl 26 23 0) 52 4 (some 57))) f2_41 rfl ?_
  rw [HH_P (a := 52) (k := 4) (q := 57) (w := 23) rfl]
  refine y_s (pc' := 45) (L' := [some (vR (some 52))]) (st' := [vR (some 52)]) (h' := (HH zl xs nl 26 24 0)) f2_44 rfl ?_
  refine y_s (pc' := 47) (L' := [some (vR (some 52))]) (st' := [vI 6, vR (some 52)]) (h' := (HH zl xs nl 26 24 0)) f2_45 rfl ?_
  refine y_s (pc' := 49) (L' := [some (vR (some 52))]) (st' := [vR (some 58), vR (some 52)]) (h' := (zmk 1 6 (HH zl xs nl 26 24 0))) f2_47 rfl ?_
  rw [HH_mk (n := 26) (w := 24) (v := 0) (kd := 1) (sz := 6) rfl rfl rfl]
  refine y_s (pc' := 52) (L' := [some (vR (some 52))]) (st' := []) (h' := (zsetP (HH zl xs nl 27 24 0) 52 5 (some 58))) f2_49 rfl ?_
  rw [HH_P (a := 52) (k := 5) (q := 58) (w := 24) rfl]
  refine y_s (pc' := 53) (L' := [some (vR (some 52))]) (st' := [vR (some 52)]) (h' := (HH zl xs nl 27 25 0)) f2_52 rfl ?_
  refine y_s (pc' := 56) (L' := [some (vR (some 52))]) (st' := [vR (some 59), vR (some 52)]) (h' := (zmk 13 2 (HH zl xs nl 27 25 0))) f2_53 rfl ?_
  rw [HH_mk (n := 27) (w := 25) (v := 0) (kd := 13) (sz := 2) rfl rfl rfl]
  refine y_s (pc' := 57) (L' := [some (vR (some 52))]) (st' := [vR (some 59), vR (some 59), vR (some 52)]) (h' := (HH zl xs nl 28 25 0)) f2_56 rfl ?_
  refine y_s (pc' := 59) (L' := [some (vR (some 52))]) (st' := [vI 8, vR (some 59), vR (some 59), vR (some 52)]) (h' := (HH zl xs nl 28 25 0)) f2_57 rfl ?_
  refine y_cU (pc' := 62) (as := [vR (some 59), vI 8]) (r := [vR (some 59), vR (some 52)]) f2_59 rfl (by decide) rfl ?_
  refine ct6 ?_
  refine y_s (pc' := 65) (L' := [some (vR (some 52))]) (st' := []) (h' := (zsetP (HH zl xs nl 29 26 0) 52 6 (some 59))) f2_62 rfl ?_
  rw [HH_P (a := 52) (k := 6) (q := 59) (w := 26) rfl]
  refine y_s (pc' := 66) (L' := [some (vR (some 52))]) (st' := [vR (some 52)]) (h' := (HH zl xs nl 29 27 0)) f2_65 rfl ?_
  refine y_s (pc' := 69) (L' := [some (vR (some 52))]) (st' := [vR (some 61), vR (some 52)]) (h' := (zmk 13 2 (HH zl xs nl 29 27 0))) f2_66 rfl ?_
  rw [HH_mk (n := 29) (w := 27) (v := 0) (kd := 13) (sz := 2) rfl rfl rfl]
  refine y_s (pc' := 70) (L' := [some (vR (some 52))]) (st' := [vR (some 61), vR (some 61), vR (some 52)]) (h' := (HH zl xs nl 30 27 0)) f2_69 rfl ?_
  refine y_s (pc' := 71) (L' := [some (vR (some 52))]) (st' := [vI 5, vR (some 61), vR (some 61), vR (some 52)]) (h' := (HH zl xs nl 30 27 0)) f2_70 rfl ?_
  refine y_cU (pc' := 74) (as := [vR (some 61), vI 5]) (r := [vR (some 61), vR (some 52)]) f2_71 rfl (by decide) rfl ?_
  refine ct7 ?_
  refine y_s (pc' := 77) (L' := [some (vR (some 52))]) (st' := []) (h' := (zsetP (HH zl xs nl 31 28 0) 52 7 (some 61))) f2_74 rfl ?_
  rw [HH_P (a := 52) (k := 7) (q := 61) (w := 28) rfl]
  refine y_s (pc' := 78) (L' := [some (vR (some 52))]) (st' := [vR (some 52)]) (h' := (HH zl xs nl 31 29 0)) f2_77 rfl ?_
  refine y_s (pc' := 81) (L' := [some (vR (some 52))]) (st' := [vR (some 63), vR (some 52)]) (h' := (zmk 13 2 (HH zl xs nl 31 29 0))) f2_78 rfl ?_
  rw [HH_mk (n := 31) (w := 29) (v := 0) (kd := 13) (sz := 2) rfl rfl rfl]
  refine y_s (pc' := 82) (L' := [some (vR (some 52))]) (st' := [vR (some 63), vR (some 63), vR (some 52)]) (h' := (HH zl xs nl 32 29 0)) f2_81 rfl ?_
  refine y_s (pc' := 84) (L' := [some (vR (some 52))]) (st' := [vI 10, vR (some 63), vR (some 63), vR (some 52)]) (h' := (HH zl xs nl 32 29 0)) f2_82 rfl ?_
  refine y_cU (pc' := 87) (as := [vR (some 63), vI 10]) (r := [vR (some 63), vR (some 52)]) f2_84 rfl (by decide) rfl ?_
  refine ct8 ?_
  refine y_s (pc' := 90) (L' := [some (vR (some 52))]) (st' := []) (h' := (zsetP (HH zl xs nl 33 30 0) 52 8 (some 63))) f2_87 rfl ?_
  rw [HH_P (a := 52) (k := 8) (q := 63) (w := 30) rfl]
  refine y_s (pc' := 91) (L' := [some (vR (some 52))]) (st' := [vR (some 52)]) (h' := (HH zl xs nl 33 31 0)) f2_90 rfl ?_
  refine y_s (pc' := 94) (L' := [some (vR (some 52))]) (st' := [vR (some 65), vR (some 52)]) (h' := (zmk 13 2 (HH zl xs nl 33 31 0))) f2_91 rfl ?_
  rw [HH_mk (n := 33) (w := 31) (v := 0) (kd := 13) (sz := 2) rfl rfl rfl]
  refine y_s (pc' := 95) (L' := [some (vR (some 52))]) (st' := [vR (some 65), vR (some 65), vR (some 52)]) (h' := (HH zl xs nl 34 31 0)) f2_94 rfl ?_
  refine y_s (pc' := 97) (L' := [some (vR (some 52))]) (st' := [vI 8, vR (some 65), vR (some 65), vR (some 52)]) (h' := (HH zl xs nl 34 31 0)) f2_95 rfl ?_
  refine y_cU (pc' := 100) (as := [vR (some 65), vI 8]) (r := [vR (some 65), vR (some 52)]) f2_97 rfl (by decide) rfl ?_
  refine ct9 ?_
  refine y_s (pc' := 103) (L' := [some (vR (some 52))]) (st' := []) (h' := (zsetP (HH zl xs nl 35 32 0) 52 9 (some 65))) f2_100 rfl ?_
  rw [HH_P (a := 52) (k := 9) (q := 65) (w := 32) rfl]
  refine y_s (pc' := 104) (L' := [some (vR (some 52))]) (st' := [vR (some 52)]) (h' := (HH zl xs nl 35 33 0)) f2_103 rfl ?_
  refine y_s (pc' := 107) (L' := [some (vR (some 52))]) (st' := [vR (some 67), vR (some 52)]) (h' := (zmk 14 5 (HH zl xs nl 35 33 0))) f2_104 rfl ?_
  rw [HH_mk (n := 35) (w := 33) (v := 0) (kd := 14) (sz := 5) rfl rfl rfl]
  refine y_s (pc' := 108) (L' := [some (vR (some 52))]) (st' := [vR (some 67), vR (some 67), vR (some 52)]) (h' := (HH zl xs nl 36 33 0)) f2_107 rfl ?_
  refine y_cU (pc' := 111) (as := [vR (some 67)]) (r := [vR (some 67), vR (some 52)]) f2_108 rfl (by decide) rfl ?_
  refine ct10 ?_
  refine y_s (pc' := 114) (L' := [some (vR (some 52))]) (st' := []) (h' := (zsetP (HH zl xs nl 39 36 0) 52 12 (some 67))) f2_111 rfl ?_
  rw [HH_P (a := 52) (k := 12) (q := 67) (w := 36) rfl]
  exact y_ru f2_114 ⟨rfl, k⟩
theorem ct12 {K : Hp → Prop} (k : K (HH zl xs nl 48 45 0)) : yU 37 3 [vR (some 78), vI 8] (HH zl xs nl 47 44 0) K := by
  refine y_en (L := [some (vR (some 78)), some (vI 8)]) rfl rfl ?_
  refine y_s (pc' := 1) (L' := [some (vR (some 78)), some (vI 8)]) (st' := [vR (some 78)]) (h' := (HH zl xs nl 47 44 0)) f3_0 rfl ?_
  refine y_s (pc' := 4) (L' := [some (vR (some 78)), some (vI 8)]) (st' := []) (h' := (HH zl xs nl 47 44 0)) f3_1 rfl ?_
  refine y_s (pc' := 5) (L' := [some (vR (some 78)), some (vI 8)]) (st' := [vR (some 78)]) (h' := (HH zl xs nl 47 44 0)) f3_4 rfl ?_
  refine y_s (pc' := 6) (L' := [some (vR (some 78)), some (vI 8)]) (st' := [vI 8, vR (some 78)]) (h' := (HH zl xs nl 47 44 0)) f3_5 rfl ?_
  refine y_s (pc' := 7) (L' := [some (vR (some 78)), some (vI 8)]) (st' := [vI 4, vI 8, vR (some 78)]) (h' := (HH zl xs nl 47 44 0)) f3_6 rfl ?_
  refine y_s (pc' := 8) (L' := [some (vR (some 78)), some (vI 8)]) (st' := [vI 32, vR (some 78)]) (h' := (HH zl xs nl 47 44 0)) f3_7 rfl ?_
  refine y_s (pc' := 10) (L' := [some (vR (some 78)), some (vI 8)]) (st' := [vR (some 79), vR (some 78)]) (h' := (zmk 1 32 (HH zl xs nl 47 44 0))) f3_8 rfl ?_
  rw [HH_mk (n := 47) (w := 44) (v := 0) (kd := 1) (sz := 32) rfl rfl rfl]
  refine y_s (pc' := 13) (L' := [some (vR (some 78)), some (vI 8)]) (st' := []) (h' := (zsetP (HH zl xs nl 48 44 0) 78 0 (some 79))) f3_10 rfl ?_
  rw [HH_P (a := 78) (k := 0) (q := 79) (w := 44) rfl]
  exact y_ru f3_13 ⟨rfl, k⟩
theorem ct13 {K : Hp → Prop} (k : K (HH zl xs nl 50 47 0)) : yU 37 3 [vR (some 80), vI 5] (HH zl xs nl 49 46 0) K := by
  refine y_en (L := [some (vR (some 80)), some (vI 5)]) rfl rfl ?_
  refine y_s (pc' := 1) (L' := [some (vR (some 80)), some (vI 5)]) (st' := [vR (some 80)]) (h' := (HH zl xs nl 49 46 0)) f3_0 rfl ?_
  refine y_s (pc' := 4) (L' := [some (vR (some 80)), some (vI 5)]) (st' := []) (h' := (HH zl xs nl 49 46 0)) f3_1 rfl ?_
  refine y_s (pc' := 5) (L' := [some (vR (some 80)), some (vI 5)]) (st' := [vR (some 80)]) (h' := (HH zl xs nl 49 46 0)) f3_4 rfl ?_
  refine y_s (pc' := 6) (L' := [some (vR (some 80)), some (vI 5)]) (st' := [vI 5, vR (some 80)]) (h' := (HH zl xs nl 49 46 0)) f3_5 rfl ?_
  refine y_s (pc' := 7) (L' := [some (vR (some 80)), some (vI 5)]) (st' := [vI 4, vI 5, vR (some 80)]) (h' := (HH zl xs nl 49 46 0)) f3_6 rfl ?_
  refine y_s (pc' := 8) (L' := [some (vR (some 80)), some (vI 5)]) (st' := [vI 20, vR (some 80)]) (h' := (HH zl xs nl 49 46 0)) f3_7 rfl ?_
  refine y_s (pc' := 10) (L' := [some (vR (some 80)), some (vI 5)]) (st' := [vR (some 81), vR (some 80)]) (h' := (zmk 1 20 (HH zl xs nl 49 46 0))) f3_8 rfl ?_
  rw [HH_mk (n := 49) (w := 46) (v := 0) (kd := 1) (sz := 20) rfl rfl rfl]
  refine y_s (pc' := 13) (L' := [some (vR (some 80)), some (vI 5)]) (st' := []) (h' := (zsetP (HH zl xs nl 50 46 0) 80 0 (some 81))) f3_10 rfl ?_
  rw [HH_P (a := 80) (k := 0) (q := 81) (w := 46) rfl]
  exact y_ru f3_13 ⟨rfl, k⟩
theorem ct14 {K : Hp → Prop} (k : K (HH zl xs nl 52 49 0)) : yU 37 3 [vR (some 82), vI 10] (HH zl xs nl 51 48 0) K := by
  refine y_en (L := [some (vR (some 82)), some (vI 10)]) rfl rfl ?_
  refine y_s (pc' := 1) (L' := [some (vR (some 82)), some (vI 10)]) (st' := [vR (some 82)]) (h' := (HH zl xs nl 51 48 0)) f3_0 rfl ?_
  refine y_s (pc' := 4) (L' := [some (vR (some 82)), some (vI 10)]) (st' := []) (h' := (HH zl xs nl 51 48 0)) f3_1 rfl ?_
  refine y_s (pc' := 5) (L' := [some (vR (some 82)), some (vI 10)]) (st' := [vR (some 82)]) (h' := (HH zl xs nl 51 48 0)) f3_4 rfl ?_
  refine y_s (pc' := 6) (L' := [some (vR (some 82)), some (vI 10)]) (st' := [vI 10, vR (some 82)]) (h' := (HH zl xs nl 51 48 0)) f3_5 rfl ?_
  refine y_s (pc' := 7) (L' := [some (vR (some 82)), some (vI 10)]) (st' := [vI 4, vI 10, vR (some 82)]) (h' := (HH zl xs nl 51 48 0)) f3_6 rfl ?_
  refine y_s (pc' := 8) (L' := [some (vR (some 82)), some (vI 10)]) (st' := [vI 40, vR (some 82)]) (h' := (HH zl xs nl 51 48 0)) f3_7 rfl ?_
  refine y_s (pc' := 10) (L' := [some (vR (some 82)), some (vI 10)]) (st' := [vR (some 83), vR (some 82)]) (h' := (zmk 1 40 (HH zl xs nl 51 48 0))) f3_8 rfl ?_
  rw [HH_mk (n := 51) (w := 48) (v := 0) (kd := 1) (sz := 40) rfl rfl rfl]
  refine y_s (pc' := 13) (L' := [some (vR (some 82)), some (vI 10)]) (st' := []) (h' := (zsetP (HH zl xs nl 52 48 0) 82 0 (some 83))) f3_10 rfl ?_
  rw [HH_P (a := 82) (k := 0) (q := 83) (w := 48) rfl]
  exact y_ru f3_13 ⟨rfl, k⟩
theorem ct15 {K : Hp → Prop} (k : K (HH zl xs nl 54 51 0)) : yU 37 3 [vR (some 84), vI 8] (HH zl xs nl 53 50 0) K := by
  refine y_en (L := [some (vR (some 84)), some (vI 8)]) rfl rfl ?_
  refine y_s (pc' := 1) (L' := [some (vR (some 84)), some (vI 8)]) (st' := [vR (some 84)]) (h' := (HH zl xs nl 53 50 0)) f3_0 rfl ?_
  refine y_s (pc' := 4) (L' := [some (vR (some 84)), some (vI 8)]) (st' := []) (h' := (HH zl xs nl 53 50 0)) f3_1 rfl ?_
  refine y_s (pc' := 5) (L' := [some (vR (some 84)), some (vI 8)]) (st' := [vR (some 84)]) (h' := (HH zl xs nl 53 50 0)) f3_4 rfl ?_
  refine y_s (pc' := 6) (L' := [some (vR (some 84)), some (vI 8)]) (st' := [vI 8, vR (some 84)]) (h' := (HH zl xs nl 53 50 0)) f3_5 rfl ?_
  refine y_s (pc' := 7) (L' := [some (vR (some 84)), some (vI 8)]) (st' := [vI 4, vI 8, vR (some 84)]) (h' := (HH zl xs nl 53 50 0)) f3_6 rfl ?_
  refine y_s (pc' := 8) (L' := [some (vR (some 84)), some (vI 8)]) (st' := [vI 32, vR (some 84)]) (h' := (HH zl xs nl 53 50 0)) f3_7 rfl ?_
  refine y_s (pc' := 10) (L' := [some (vR (some 84)), some (vI 8)]) (st' := [vR (some 85), vR (some 84)]) (h' := (zmk 1 32 (HH zl xs nl 53 50 0))) f3_8 rfl ?_
  rw [HH_mk (n := 53) (w := 50) (v := 0) (kd := 1) (sz := 32) rfl rfl rfl]
  refine y_s (pc' := 13) (L' := [some (vR (some 84)), some (vI 8)]) (st' := []) (h' := (zsetP (HH zl xs nl 54 50 0) 84 0 (some 85))) f3_10 rfl ?_
  rw [HH_P (a := 84) (k := 0) (q := 85) (w := 50) rfl]
  exact y_ru f3_13 ⟨rfl, k⟩
theorem ct16 {K : Hp → Prop} (k : K (HH zl xs nl 58 55 0)) : yU 37 4 [vR (some 86)] (HH zl xs nl 55 52 0) K := by
  refine y_en (L := [some (vR (some 86))]) rfl rfl ?_
  refine y_s (pc' := 1) (L' := [some (vR (some 86))]) (st' := [vR (some 86)]) (h' := (HH zl xs nl 55 52 0)) f4_0 rfl ?_
  refine y_s (pc' := 4) (L' := [some (vR (some 86))]) (st' := []) (h' := (HH zl xs nl 55 52 0)) f4_1 rfl ?_
  refine y_s (pc' := 5) (L' := [some (vR (some 86))]) (st' := [vR (some 86)]) (h' := (HH zl xs nl 55 52 0)) f4_4 rfl ?_
  refine y_s (pc' := 7) (L' := [some (vR (some 86))]) (st' := [vI 100, vR (some 86)]) (h' := (HH zl xs nl 55 52 0)) f4_5 rfl ?_
  refine y_s (pc' := 9) (L' := [some (vR (some 86))]) (st' := [vR (some 87), vR (some 86)]) (h' := (zmk 1 100 (HH zl xs nl 55 52 0))) f4_7 rfl ?_
  rw [HH_mk (n := 55) (w := 52) (v := 0) (kd := 1) (sz := 100) rfl rfl rfl]
  refine y_s (pc' := 12) (L' := [some (vR (some 86))]) (st' := []) (h' := (zsetP (HH zl xs nl 56 52 0) 86 0 (some 87))) f4_9 rfl ?_
  rw [HH_P (a := 86) (k := 0) (q := 87) (w := 52) rfl]
  refine y_s (pc' := 13) (L' := [some (vR (some 86))]) (st' := [vR (some 86)]) (h' := (HH zl xs nl 56 53 0)) f4_12 rfl ?_
  refine y_s (pc' := 15) (L' := [some (vR (some 86))]) (st' := [vI 100, vR (some 86)]) (h' := (HH zl xs nl 56 53 0)) f4_13 rfl ?_
  refine y_s (pc' := 17) (L' := [some (vR (some 86))]) (st' := [vR (some 88), vR (some 86)]) (h' := (zmk 1 100 (HH zl xs nl 56 53 0))) f4_15 rfl ?_
  rw [HH_mk (n := 56) (w := 53) (v := 0) (kd := 1) (sz := 100) rfl rfl rfl]
  refine y_s (pc' := 20) (L' := [some (vR (some 86))]) (st' := []) (h' := (zsetP (HH zl xs nl 57 53 0) 86 1 (some 88))) f4_17 rfl ?_
  rw [HH_P (a := 86) (k := 1) (q := 88) (w := 53) rfl]
  refine y_s (pc' := 21) (L' := [some (vR (some 86))]) (st' := [vR (some 86)]) (h' := (HH zl xs nl 57 54 0)) f4_20 rfl ?_
  refine y_s (pc' := 23) (L' := [some (vR (some 86))]) (st' := [vI 100, vR (some 86)]) (h' := (HH zl xs nl 57 54 0)) f4_21 rfl ?_
  refine y_s (pc' := 25) (L' := [some (vR (some 86))]) (st' := [vR (some 89), vR (some 86)]) (h' := (zmk 1 100 (HH zl xs nl 57 54 0))) f4_23 rfl ?_
  rw [HH_mk (n := 57) (w := 54) (v := 0) (kd := 1) (sz := 100) rfl rfl rfl]
  refine y_s (pc' := 28) (L' := [some (vR (some 86))]) (st' := []) (h' := (zsetP (HH zl xs nl 58 54 0) 86 2 (some 89))) f4_25 rfl ?_
  rw [HH_P (a := 86) (k := 2) (q := 89) (w := 54) rfl]
  exact y_ru f4_28 ⟨rfl, k⟩
theorem ct17 {K : Hp → Prop} (k : K (HH zl xs nl 58 56 0)) : yU 38 2 [vR (some 71)] (HH zl xs nl 40 38 0) K := by
  refine y_en (L := [some (vR (some 71))]) rfl rfl ?_
  refine y_s (pc' := 1) (L' := [some (vR (some 71))]) (st' := [vR (some 71)]) (h' := (HH zl xs nl 40 38 0)) f2_0 rfl ?_
  refine y_s (pc' := 4) (L' := [some (vR (some 71))]) (st' := []) (h' := (HH zl xs nl 40 38 0)) f2_1 rfl ?_
  refine y_s (pc' := 5) (L' := [some (vR (some 71))]) (st' := [vR (some 71)]) (h' := (HH zl xs nl 40 38 0)) f2_4 rfl ?_
  refine y_s (pc' := 7) (L' := [some (vR (some 71))]) (st' := [vI 6, vR (some 71)]) (h' := (HH zl xs nl 40 38 0)) f2_5 rfl ?_
  refine y_s (pc' := 9) (L' := [some (vR (some 71))]) (st' := [vR (some 72), vR (some 71)]) (h' := (zmk 1 6 (HH zl xs nl 40 38 0))) f2_7 rfl ?_
  rw [HH_mk (n := 40) (w := 38) (v := 0) (kd := 1) (sz := 6) rfl rfl rfl]
  refine y_s (pc' := 12) (L' := [some (vR (some 71))]) (st' := []) (h' := (zsetP (HH zl xs nl 41 38 0) 71 0 (some 72))) f2_9 rfl ?_
  rw [HH_P (a := 71) (k := 0) (q := 72) (w := 38) rfl]
  refine y_s (pc' := 13) (L' := [some (vR (some 71))]) (st' := [vR (some 71)]) (h' := (HH zl xs nl 41 39 0)) f2_12 rfl ?_
  refine y_s (pc' := 15) (L' := [some (vR (some 71))]) (st' := [vI 6, vR (some 71)]) (h' := (HH zl xs nl 41 39 0)) f2_13 rfl ?_
  refine y_s (pc' := 17) (L' := [some (vR (some 71))]) (st' := [vR (some 73), vR (some 71)]) (h' := (zmk 1 6 (HH zl xs nl 41 39 0))) f2_15 rfl ?_
  rw [HH_mk (n := 41) (w := 39) (v := 0) (kd := 1) (sz := 6) rfl rfl rfl]
  refine y_s (pc' := 20) (L' := [some (vR (some 71))]) (st' := []) (h' := (zsetP (HH zl xs nl 42 39 0) 71 1 (some 73))) f2_17 rfl ?_
  rw [HH_P (a := 71) (k := 1) (q := 73) (w := 39) rfl]
  refine y_s (pc' := 21) (L' := [some (vR (some 71))]) (st' := [vR (some 71)]) (h' := (HH zl xs nl 42 40 0)) f2_20 rfl ?_
  refine y_s (pc' := 23) (L' := [some (vR (some 71))]) (st' := [vI 6, vR (some 71)]) (h' := (HH zl xs nl 42 40 0)) f2_21 rfl ?_
  refine y_s (pc' := 25) (L' := [some (vR (some 71))]) (st' := [vR (some 74), vR (some 71)]) (h' := (zmk 1 6 (HH zl xs nl 42 40 0))) f2_23 rfl ?_
  rw [HH_mk (n := 42) (w := 40) (v := 0) (kd := 1) (sz := 6) rfl rfl rfl]
  refine y_s (pc' := 28) (L' := [some (vR (some 71))]) (st' := []) (h' := (zsetP (HH zl xs nl 43 40 0) 71 2 (some 74))) f2_25 rfl ?_
  rw [HH_P (a := 71) (k := 2) (q := 74) (w := 40) rfl]
  refine y_s (pc' := 29) (L' := [some (vR (some 71))]) (st' := [vR (some 71)]) (h' := (HH zl xs nl 43 41 0)) f2_28 rfl ?_
  refine y_s (pc' := 31) (L' := [some (vR (some 71))]) (st' := [vI 36, vR (some 71)]) (h' := (HH zl xs nl 43 41 0)) f2_29 rfl ?_
  refine y_s (pc' := 33) (L' := [some (vR (some 71))]) (st' := [vR (some 75), vR (some 71)]) (h' := (zmk 1 36 (HH zl xs nl 43 41 0))) f2_31 rfl ?_
  rw [HH_mk (n := 43) (w := 41) (v := 0) (kd := 1) (sz := 36) rfl rfl rfl]
  refine y_s (pc' := 36) (L' := [some (vR (some 71))]) (st' := []) (h' := (zsetP (HH zl xs nl 44 41 0) 71 3 (some 75))) f2_33 rfl ?_
  rw [HH_P (a := 71) (k := 3) (q := 75) (w := 41) rfl]
  refine y_s (pc' := 37) (L' := [some (vR (some 71))]) (st' := [vR (some 71)]) (h' := (HH zl xs nl 44 42 0)) f2_36 rfl ?_
  refine y_s (pc' := 39) (L' := [some (vR (some 71))]) (st' := [vI 24, vR (some 71)]) (h' := (HH zl xs nl 44 42 0)) f2_37 rfl ?_
  refine y_s (pc' := 41) (L' := [some (vR (some 71))]) (st' := [vR (some 76), vR (some 71)]) (h' := (zmk 1 24 (HH zl xs nl 44 42 0))) f2_39 rfl ?_
  rw [HH_mk (n := 44) (w := 42) (v := 0) (kd := 1) (sz := 24) rfl rfl rfl]
  refine y_s (pc' := 44) (L' := [some (vR (some 71))]) (st' := []) (h' := (zsetP (HH zl xs nl 45 42 0) 71 4 (some 76))) f2_41 rfl ?_
  rw [HH_P (a := 71) (k := 4) (q := 76) (w := 42) rfl]
  refine y_s (pc' := 45) (L' := [some (vR (some 71))]) (st' := [vR (some 71)]) (h' := (HH zl xs nl 45 43 0)) f2_44 rfl ?_
  refine y_s (pc' := 47) (L' := [some (vR (some 71))]) (st' := [vI 6, vR (some 71)]) (h' := (HH zl xs nl 45 43 0)) f2_45 rfl ?_
  refine y_s (pc' := 49) (L' := [some (vR (some 71))]) (st' := [vR (some 77), vR (some 71)]) (h' := (zmk 1 6 (HH zl xs nl 45 43 0))) f2_47 rfl ?_
  rw [HH_mk (n := 45) (w := 43) (v := 0) (kd := 1) (sz := 6) rfl rfl rfl]
  refine y_s (pc' := 52) (L' := [some (vR (some 71))]) (st' := []) (h' := (zsetP (HH zl xs nl 46 43 0) 71 5 (some 77))) f2_49 rfl ?_
  rw [HH_P (a := 71) (k := 5) (q := 77) (w := 43) rfl]
  refine y_s (pc' := 53) (L' := [some (vR (some 71))]) (st' := [vR (some 71)]) (h' := (HH zl xs nl 46 44 0)) f2_52 rfl ?_
  refine y_s (pc' := 56) (L' := [some (vR (some 71))]) (st' := [vR (some 78), vR (some 71)]) (h' := (zmk 13 2 (HH zl xs nl 46 44 0))) f2_53 rfl ?_
  rw [HH_mk (n := 46) (w := 44) (v := 0) (kd := 13) (sz := 2) rfl rfl rfl]
  refine y_s (pc' := 57) (L' := [some (vR (some 71))]) (st' := [vR (some 78), vR (some 78), vR (some 71)]) (h' := (HH zl xs nl 47 44 0)) f2_56 rfl ?_
  refine y_s (pc' := 59) (L' := [some (vR (some 71))]) (st' := [vI 8, vR (some 78), vR (some 78), vR (some 71)]) (h' := (HH zl xs nl 47 44 0)) f2_57 rfl ?_
  refine y_cU (pc' := 62) (as := [vR (some 78), vI 8]) (r := [vR (some 78), vR (some 71)]) f2_59 rfl (by decide) rfl ?_
  refine ct12 ?_
  refine y_s (pc' := 65) (L' := [some (vR (some 71))]) (st' := []) (h' := (zsetP (HH zl xs nl 48 45 0) 71 6 (some 78))) f2_62 rfl ?_
  rw [HH_P (a := 71) (k := 6) (q := 78) (w := 45) rfl]
  refine y_s (pc' := 66) (L' := [some (vR (some 71))]) (st' := [vR (some 71)]) (h' := (HH zl xs nl 48 46 0)) f2_65 rfl ?_
  refine y_s (pc' := 69) (L' := [some (vR (some 71))]) (st' := [vR (some 80), vR (some 71)]) (h' := (zmk 13 2 (HH zl xs nl 48 46 0))) f2_66 rfl ?_
  rw [HH_mk (n := 48) (w := 46) (v := 0) (kd := 13) (sz := 2) rfl rfl rfl]
  refine y_s (pc' := 70) (L' := [some (vR (some 71))]) (st' := [vR (some 80), vR (some 80), vR (some 71)]) (h' := (HH zl xs nl 49 46 0)) f2_69 rfl ?_
  refine y_s (pc' := 71) (L' := [some (vR (some 71))]) (st' := [vI 5, vR (some 80), vR (some 80), vR (some 71)]) (h' := (HH zl xs nl 49 46 0)) f2_70 rfl ?_
  refine y_cU (pc' := 74) (as := [vR (some 80), vI 5]) (r := [vR (some 80), vR (some 71)]) f2_71 rfl (by decide) rfl ?_
  refine ct13 ?_
  refine y_s (pc' := 77) (L' := [some (vR (some 71))]) (st' := []) (h' := (zsetP (HH zl xs nl 50 47 0) 71 7 (some 80))) f2_74 rfl ?_
  rw [HH_P (a := 71) (k := 7) (q := 80) (w := 47) rfl]
  refine y_s (pc' := 78) (L' := [some (vR (some 71))]) (st' := [vR (some 71)]) (h' := (HH zl xs nl 50 48 0)) f2_77 rfl ?_
  refine y_s (pc' := 81) (L' := [some (vR (some 71))]) (st' := [vR (some 82), vR (some 71)]) (h' := (zmk 13 2 (HH zl xs nl 50 48 0))) f2_78 rfl ?_
  rw [HH_mk (n := 50) (w := 48) (v := 0) (kd := 13) (sz := 2) rfl rfl rfl]
  refine y_s (pc' := 82) (L' := [some (vR (some 71))]) (st' := [vR (some 82), vR (some 82), vR (some 71)]) (h' := (HH zl xs nl 51 48 0)) f2_81 rfl ?_
  refine y_s (pc' := 84) (L' := [some (vR (some 71))]) (st' := [vI 10, vR (some 82), vR (some 82), vR (some 71)]) (h' := (HH zl xs nl 51 48 0)) f2_82 rfl ?_
  refine y_cU (pc' := 87) (as := [vR (some 82), vI 10]) (r := [vR (some 82), vR (some 71)]) f2_84 rfl (by decide) rfl ?_
  refine ct14 ?_
  refine y_s (pc' := 90) (L' := [some (vR (some 71))]) (st' := []) (h' := (zsetP (HH zl xs nl 52 49 0) 71 8 (some 82))) f2_87 rfl ?_
  rw [HH_P (a := 71) (k := 8) (q := 82) (w := 49) rfl]
  refine y_s (pc' := 91) (L' := [some (vR (some 71))]) (st' := [vR (some 71)]) (h' := (HH zl xs nl 52 50 0)) f2_90 rfl ?_
  refine y_s (pc' := 94) (L' := [some (vR (some 71))]) (st' := [vR (some 84), vR (some 71)]) (h' := (zmk 13 2 (HH zl xs nl 52 50 0))) f2_91 rfl ?_
  rw [HH_mk (n := 52) (w := 50) (v := 0) (kd := 13) (sz := 2) rfl rfl rfl]
  refine y_s (pc' := 95) (L' := [some (vR (some 71))]) (st' := [vR (some 84), vR (some 84), vR (some 71)]) (h' := (HH zl xs nl 53 50 0)) f2_94 rfl ?_
  refine y_s (pc' := 97) (L' := [some (vR (some 71))]) (st' := [vI 8, vR (some 84), vR (some 84), vR (some 71)]) (h' := (HH zl xs nl 53 50 0)) f2_95 rfl ?_
  refine y_cU (pc' := 100) (as := [vR (some 84), vI 8]) (r := [vR (some 84), vR (some 71)]) f2_97 rfl (by decide) rfl ?_
  refine ct15 ?_
  refine y_s (pc' := 103) (L' := [some (vR (some 71))]) (st' := []) (h' := (zsetP (HH zl xs nl 54 51 0) 71 9 (some 84))) f2_100 rfl ?_
  rw [HH_P (a := 71) (k := 9) (q := 84) (w := 51) rfl]
  refine y_s (pc' := 104) (L' := [some (vR (some 71))]) (st' := [vR (some 71)]) (h' := (HH zl xs nl 54 52 0)) f2_103 rfl ?_
  refine y_s (pc' := 107) (L' := [some (vR (some 71))]) (st' := [vR (some 86), vR (some 71)]) (h' := (zmk 14 5 (HH zl xs nl 54 52 0))) f2_104 rfl ?_
  rw [HH_mk (n := 54) (w := 52) (v := 0) (kd := 14) (sz := 5) rfl rfl rfl]
  refine y_s (pc' := 108) (L' := [some (vR (some 71))]) (st' := [vR (some 86), vR (some 86), vR (some 71)]) (h' := (HH zl xs nl 55 52 0)) f2_107 rfl ?_
  refine y_cU (pc' := 111) (as := [vR (some 86)]) (r := [vR (some 86), vR (some 71)]) f2_108 rfl (by decide) rfl ?_
  refine ct16 ?_
  refine y_s (pc' := 114) (L' := [some (vR (some 71))]) (st' := []) (h' := (zsetP (HH zl xs nl 58 55 0) 71 12 (some 86))) f2_111 rfl ?_
  rw [HH_P (a := 71) (k := 12) (q := 86) (w := 55) rfl]
  exact y_ru f2_114 ⟨rfl, k⟩
theorem ct18 {K : Hp → Prop} (k : K (HH zl xs nl 60 58 0)) : yU 38 5 [vR (some 90)] (HH zl xs nl 59 57 0) K := by
  refine y_en (L := [some (vR (some 90))]) rfl rfl ?_
  refine y_s (pc' := 1) (L' := [some (vR (some 90))]) (st' := [vR (some 90)]) (h' := (HH zl xs nl 59 57 0)) f5_0 rfl ?_
  refine y_s (pc' := 4) (L' := [some (vR (some 90))]) (st' := []) (h' := (HH zl xs nl 59 57 0)) f5_1 rfl ?_
  refine y_s (pc' := 5) (L' := [some (vR (some 90))]) (st' := [vR (some 90)]) (h' := (HH zl xs nl 59 57 0)) f5_4 rfl ?_
  refine y_s (pc' := 7) (L' := [some (vR (some 90))]) (st' := [vI 100, vR (some 90)]) (h' := (HH zl xs nl 59 57 0)) f5_5 rfl ?_
  refine y_s (pc' := 9) (L' := [some (vR (some 90))]) (st' := [vR (some 91), vR (some 90)]) (h' := (zmk 1 100 (HH zl xs nl 59 57 0))) f5_7 rfl ?_
  rw [HH_mk (n := 59) (w := 57) (v := 0) (kd := 1) (sz := 100) rfl rfl rfl]
  refine y_s (pc' := 12) (L' := [some (vR (some 90))]) (st' := []) (h' := (zsetP (HH zl xs nl 60 57 0) 90 0 (some 91))) f5_9 rfl ?_
  rw [HH_P (a := 90) (k := 0) (q := 91) (w := 57) rfl]
  exact y_ru f5_12 ⟨rfl, k⟩
theorem ct19 {K : Hp → Prop} (k : K (HH zl xs nl 64 62 0)) : yU 38 6 [vR (some 94)] (HH zl xs nl 63 61 0) K := by
  refine y_en (L := [some (vR (some 94))]) rfl rfl ?_
  refine y_s (pc' := 1) (L' := [some (vR (some 94))]) (st' := [vR (some 94)]) (h' := (HH zl xs nl 63 61 0)) f6_0 rfl ?_
  refine y_s (pc' := 4) (L' := [some (vR (some 94))]) (st' := []) (h' := (HH zl xs nl 63 61 0)) f6_1 rfl ?_
  refine y_s (pc' := 5) (L' := [some (vR (some 94))]) (st' := [vR (some 94)]) (h' := (HH zl xs nl 63 61 0)) f6_4 rfl ?_
  refine y_s (pc' := 7) (L' := [some (vR (some 94))]) (st' := [vI 20, vR (some 94)]) (h' := (HH zl xs nl 63 61 0)) f6_5 rfl ?_
  refine y_s (pc' := 9) (L' := [some (vR (some 94))]) (st' := [vR (some 95), vR (some 94)]) (h' := (zmk 1 20 (HH zl xs nl 63 61 0))) f6_7 rfl ?_
  rw [HH_mk (n := 63) (w := 61) (v := 0) (kd := 1) (sz := 20) rfl rfl rfl]
  refine y_s (pc' := 12) (L' := [some (vR (some 94))]) (st' := []) (h' := (zsetP (HH zl xs nl 64 61 0) 94 0 (some 95))) f6_9 rfl ?_
  rw [HH_P (a := 94) (k := 0) (q := 95) (w := 61) rfl]
  exact y_ru f6_12 ⟨rfl, k⟩
theorem ct20 {K : Hp → Prop} (k : K (HH zl xs nl 69 67 0)) : yU 38 7 [vR (some 96)] (HH zl xs nl 65 63 0) K := by
  refine y_en (L := [some (vR (some 96))]) rfl rfl ?_
  refine y_s (pc' := 1) (L' := [some (vR (some 96))]) (st' := [vR (some 96)]) (h' := (HH zl xs nl 65 63 0)) f7_0 rfl ?_
  refine y_s (pc' := 4) (L' := [some (vR (some 96))]) (st' := []) (h' := (HH zl xs nl 65 63 0)) f7_1 rfl ?_
  refine y_s (pc' := 5) (L' := [some (vR (some 96))]) (st' := [vR (some 96)]) (h' := (HH zl xs nl 65 63 0)) f7_4 rfl ?_
  refine y_s (pc' := 7) (L' := [some (vR (some 96))]) (st' := [vI 36, vR (some 96)]) (h' := (HH zl xs nl 65 63 0)) f7_5 rfl ?_
  refine y_s (pc' := 9) (L' := [some (vR (some 96))]) (st' := [vR (some 97), vR (some 96)]) (h' := (zmk 1 36 (HH zl xs nl 65 63 0))) f7_7 rfl ?_
  rw [HH_mk (n := 65) (w := 63) (v := 0) (kd := 1) (sz := 36) rfl rfl rfl]
  refine y_s (pc' := 12) (L' := [some (vR (some 96))]) (st' := []) (h' := (zsetP (HH zl xs nl 66 63 0) 96 0 (some 97))) f7_9 rfl ?_
  rw [HH_P (a := 96) (k := 0) (q := 97) (w := 63) rfl]
  refine y_s (pc' := 13) (L' := [some (vR (some 96))]) (st' := [vR (some 96)]) (h' := (HH zl xs nl 66 64 0)) f7_12 rfl ?_
  refine y_s (pc' := 15) (L' := [some (vR (some 96))]) (st' := [vI 6, vR (some 96)]) (h' := (HH zl xs nl 66 64 0)) f7_13 rfl ?_
  refine y_s (pc' := 17) (L' := [some (vR (some 96))]) (st' := [vR (some 98), vR (some 96)]) (h' := (zmk 1 6 (HH zl xs nl 66 64 0))) f7_15 rfl ?_
  rw [HH_mk (n := 66) (w := 64) (v := 0) (kd := 1) (sz := 6) rfl rfl rfl]
  refine y_s (pc' := 20) (L' := [some (vR (some 96))]) (st' := []) (h' := (zsetP (HH zl xs nl 67 64 0) 96 1 (some 98))) f7_17 rfl ?_
  rw [HH_P (a := 96) (k := 1) (q := 98) (w := 64) rfl]
  refine y_s (pc' := 21) (L' := [some (vR (some 96))]) (st' := [vR (some 96)]) (h' := (HH zl xs nl 67 65 0)) f7_20 rfl ?_
  refine y_s (pc' := 23) (L' := [some (vR (some 96))]) (st' := [vI 6, vR (some 96)]) (h' := (HH zl xs nl 67 65 0)) f7_21 rfl ?_
  refine y_s (pc' := 25) (L' := [some (vR (some 96))]) (st' := [vR (some 99), vR (some 96)]) (h' := (zmk 1 6 (HH zl xs nl 67 65 0))) f7_23 rfl ?_
  rw [HH_mk (n := 67) (w := 65) (v := 0) (kd := 1) (sz := 6) rfl rfl rfl]
  refine y_s (pc' := 28) (L' := [some (vR (some 96))]) (st' := []) (h' := (zsetP (HH zl xs nl 68 65 0) 96 2 (some 99))) f7_25 rfl ?_
  rw [HH_P (a := 96) (k := 2) (q := 99) (w := 65) rfl]
  refine y_s (pc' := 29) (L' := [some (vR (some 96))]) (st' := [vR (some 96)]) (h' := (HH zl xs nl 68 66 0)) f7_28 rfl ?_
  refine y_s (pc' := 31) (L' := [some (vR (some 96))]) (st' := [vI 6, vR (some 96)]) (h' := (HH zl xs nl 68 66 0)) f7_29 rfl ?_
  refine y_s (pc' := 33) (L' := [some (vR (some 96))]) (st' := [vR (some 100), vR (some 96)]) (h' := (zmk 1 6 (HH zl xs nl 68 66 0))) f7_31 rfl ?_
  rw [HH_mk (n := 68) (w := 66) (v := 0) (kd := 1) (sz := 6) rfl rfl rfl]
  refine y_s (pc' := 36) (L' := [some (vR (some 96))]) (st' := []) (h' := (zsetP (HH zl xs nl 69 66 0) 96 3 (some 100))) f7_33 rfl ?_
  rw [HH_P (a := 96) (k := 3) (q := 100) (w := 66) rfl]
  exact y_ru f7_36 ⟨rfl, k⟩
theorem ct21 {K : Hp → Prop} (k : K (HH zl xs nl 73 71 0)) : yU 38 4 [vR (some 101)] (HH zl xs nl 70 68 0) K := by
  refine y_en (L := [some (vR (some 101))]) rfl rfl ?_
  refine y_s (pc' := 1) (L' := [some (vR (some 101))]) (st' := [vR (some 101)]) (h' := (HH zl xs nl 70 68 0)) f4_0 rfl ?_
  refine y_s (pc' := 4) (L' := [some (vR (some 101))]) (st' := []) (h' := (HH zl xs nl 70 68 0)) f4_1 rfl ?_
  refine y_s (pc' := 5) (L' := [some (vR (some 101))]) (st' := [vR (some 101)]) (h' := (HH zl xs nl 70 68 0)) f4_4 rfl ?_
  refine y_s (pc' := 7) (L' := [some (vR (some 101))]) (st' := [vI 100, vR (some 101)]) (h' := (HH zl xs nl 70 68 0)) f4_5 rfl ?_
  refine y_s (pc' := 9) (L' := [some (vR (some 101))]) (st' := [vR (some 102), vR (some 101)]) (h' := (zmk 1 100 (HH zl xs nl 70 68 0))) f4_7 rfl ?_
  rw [HH_mk (n := 70) (w := 68) (v := 0) (kd := 1) (sz := 100) rfl rfl rfl]
  refine y_s (pc' := 12) (L' := [some (vR (some 101))]) (st' := []) (h' := (zsetP (HH zl xs nl 71 68 0) 101 0 (some 102))) f4_9 rfl ?_
  rw [HH_P (a := 101) (k := 0) (q := 102) (w := 68) rfl]
  refine y_s (pc' := 13) (L' := [some (vR (some 101))]) (st' := [vR (some 101)]) (h' := (HH zl xs nl 71 69 0)) f4_12 rfl ?_
  refine y_s (pc' := 15) (L' := [some (vR (some 101))]) (st' := [vI 100, vR (some 101)]) (h' := (HH zl xs nl 71 69 0)) f4_13 rfl ?_
  refine y_s (pc' := 17) (L' := [some (vR (some 101))]) (st' := [vR (some 103), vR (some 101)]) (h' := (zmk 1 100 (HH zl xs nl 71 69 0))) f4_15 rfl ?_
  rw [HH_mk (n := 71) (w := 69) (v := 0) (kd := 1) (sz := 100) rfl rfl rfl]
  refine y_s (pc' := 20) (L' := [some (vR (some 101))]) (st' := []) (h' := (zsetP (HH zl xs nl 72 69 0) 101 1 (some 103))) f4_17 rfl ?_
  rw [HH_P (a := 101) (k := 1) (q := 103) (w := 69) rfl]
  refine y_s (pc' := 21) (L' := [some (vR (some 101))]) (st' := [vR (some 101)]) (h' := (HH zl xs nl 72 70 0)) f4_20 rfl ?_
  refine y_s (pc' := 23) (L' := [some (vR (some 101))]) (st' := [vI 100, vR (some 101)]) (h' := (HH zl xs nl 72 70 0)) f4_21 rfl ?_
  refine y_s (pc' := 25) (L' := [some (vR (some 101))]) (st' := [vR (some 104), vR (some 101)]) (h' := (zmk 1 100 (HH zl xs nl 72 70 0))) f4_23 rfl ?_
  rw [HH_mk (n := 72) (w := 70) (v := 0) (kd := 1) (sz := 100) rfl rfl rfl]
  refine y_s (pc' := 28) (L' := [some (vR (some 101))]) (st' := []) (h' := (zsetP (HH zl xs nl 73 70 0) 101 2 (some 104))) f4_25 rfl ?_
  rw [HH_P (a := 101) (k := 2) (q := 104) (w := 70) rfl]
  exact y_ru f4_28 ⟨rfl, k⟩
theorem ct22 {K : Hp → Prop} (k : K (HH zl xs nl 77 75 0)) : yU 38 4 [vR (some 105)] (HH zl xs nl 74 72 0) K := by
  refine y_en (L := [some (vR (some 105))]) rfl rfl ?_
  refine y_s (pc' := 1) (L' := [some (vR (some 105))]) (st' := [vR (some 105)]) (h' := (HH zl xs nl 74 72 0)) f4_0 rfl ?_
  refine y_s (pc' := 4) (L' := [some (vR (some 105))]) (st' := []) (h' := (HH zl xs nl 74 72 0)) f4_1 rfl ?_
  refine y_s (pc' := 5) (L' := [some (vR (some 105))]) (st' := [vR (some 105)]) (h' := (HH zl xs nl 74 72 0)) f4_4 rfl ?_
  refine y_s (pc' := 7) (L' := [some (vR (some 105))]) (st' := [vI 100, vR (some 105)]) (h' := (HH zl xs nl 74 72 0)) f4_5 rfl ?_
  refine y_s (pc' := 9) (L' := [some (vR (some 105))]) (st' := [vR (some 106), vR (some 105)]) (h' := (zmk 1 100 (HH zl xs nl 74 72 0))) f4_7 rfl ?_
  rw [HH_mk (n := 74) (w := 72) (v := 0) (kd := 1) (sz := 100) rfl rfl rfl]
  refine y_s (pc' := 12) (L' := [some (vR (some 105))]) (st' := []) (h' := (zsetP (HH zl xs nl 75 72 0) 105 0 (some 106))) f4_9 rfl ?_
  rw [HH_P (a := 105) (k := 0) (q := 106) (w := 72) rfl]
  refine y_s (pc' := 13) (L' := [some (vR (some 105))]) (st' := [vR (some 105)]) (h' := (HH zl xs nl 75 73 0)) f4_12 rfl ?_
  refine y_s (pc' := 15) (L' := [some (vR (some 105))]) (st' := [vI 100, vR (some 105)]) (h' := (HH zl xs nl 75 73 0)) f4_13 rfl ?_
  refine y_s (pc' := 17) (L' := [some (vR (some 105))]) (st' := [vR (some 107), vR (some 105)]) (h' := (zmk 1 100 (HH zl xs nl 75 73 0))) f4_15 rfl ?_
  rw [HH_mk (n := 75) (w := 73) (v := 0) (kd := 1) (sz := 100) rfl rfl rfl]
  refine y_s (pc' := 20) (L' := [some (vR (some 105))]) (st' := []) (h' := (zsetP (HH zl xs nl 76 73 0) 105 1 (some 107))) f4_17 rfl ?_
  rw [HH_P (a := 105) (k := 1) (q := 107) (w := 73) rfl]
  refine y_s (pc' := 21) (L' := [some (vR (some 105))]) (st' := [vR (some 105)]) (h' := (HH zl xs nl 76 74 0)) f4_20 rfl ?_
  refine y_s (pc' := 23) (L' := [some (vR (some 105))]) (st' := [vI 100, vR (some 105)]) (h' := (HH zl xs nl 76 74 0)) f4_21 rfl ?_
  refine y_s (pc' := 25) (L' := [some (vR (some 105))]) (st' := [vR (some 108), vR (some 105)]) (h' := (zmk 1 100 (HH zl xs nl 76 74 0))) f4_23 rfl ?_
  rw [HH_mk (n := 76) (w := 74) (v := 0) (kd := 1) (sz := 100) rfl rfl rfl]
  refine y_s (pc' := 28) (L' := [some (vR (some 105))]) (st' := []) (h' := (zsetP (HH zl xs nl 77 74 0) 105 2 (some 108))) f4_25 rfl ?_
  rw [HH_P (a := 105) (k := 2) (q := 108) (w := 74) rfl]
  exact y_ru f4_28 ⟨rfl, k⟩
theorem ct23 {K : Hp → Prop} (k : K (HH zl xs nl 81 79 0)) : yU 38 4 [vR (some 109)] (HH zl xs nl 78 76 0) K := by
  refine y_en (L := [some (vR (some 109))]) rfl rfl ?_
  refine y_s (pc' := 1) (L' := [some (vR (some 109))]) (st' := [vR (some 109)]) (h' := (HH zl xs nl 78 76 0)) f4_0 rfl ?_
  refine y_s (pc' := 4) (L' := [some (vR (some 109))]) (st' := []) (h' := (HH zl xs nl 78 76 0)) f4_1 rfl ?_
  refine y_s (pc' := 5) (L' := [some (vR (some 109))]) (st' := [vR (some 109)]) (h' := (HH zl xs nl 78 76 0)) f4_4 rfl ?_
  refine y_s (pc' := 7) (L' := [some (vR (some 109))]) (st' := [vI 100, vR (some 109)]) (h' := (HH zl xs nl 78 76 0)) f4_5 rfl ?_
  refine y_s (pc' := 9) (L' := [some (vR (some 109))]) (st' := [vR (some 110), vR (some 109)]) (h' := (zmk 1 100 (HH zl xs nl 78 76 0))) f4_7 rfl ?_
  rw [HH_mk (n := 78) (w := 76) (v := 0) (kd := 1) (sz := 100) rfl rfl rfl]
  refine y_s (pc' := 12) (L' := [some (vR (some 109))]) (st' := []) (h' := (zsetP (HH zl xs nl 79 76 0) 109 0 (some 110))) f4_9 rfl ?_
  rw [HH_P (a := 109) (k := 0) (q := 110) (w := 76) rfl]
  refine y_s (pc' := 13) (L' := [some (vR (some 109))]) (st' := [vR (some 109)]) (h' := (HH zl xs nl 79 77 0)) f4_12 rfl ?_
  refine y_s (pc' := 15) (L' := [some (vR (some 109))]) (st' := [vI 100, vR (some 109)]) (h' := (HH zl xs nl 79 77 0)) f4_13 rfl ?_
  refine y_s (pc' := 17) (L' := [some (vR (some 109))]) (st' := [vR (some 111), vR (some 109)]) (h' := (zmk 1 100 (HH zl xs nl 79 77 0))) f4_15 rfl ?_
  rw [HH_mk (n := 79) (w := 77) (v := 0) (kd := 1) (sz := 100) rfl rfl rfl]
  refine y_s (pc' := 20) (L' := [some (vR (some 109))]) (st' := []) (h' := (zsetP (HH zl xs nl 80 77 0) 109 1 (some 111))) f4_17 rfl ?_
  rw [HH_P (a := 109) (k := 1) (q := 111) (w := 77) rfl]
  refine y_s (pc' := 21) (L' := [some (vR (some 109))]) (st' := [vR (some 109)]) (h' := (HH zl xs nl 80 78 0)) f4_20 rfl ?_
  refine y_s (pc' := 23) (L' := [some (vR (some 109))]) (st' := [vI 100, vR (some 109)]) (h' := (HH zl xs nl 80 78 0)) f4_21 rfl ?_
  refine y_s (pc' := 25) (L' := [some (vR (some 109))]) (st' := [vR (some 112), vR (some 109)]) (h' := (zmk 1 100 (HH zl xs nl 80 78 0))) f4_23 rfl ?_
  rw [HH_mk (n := 80) (w := 78) (v := 0) (kd := 1) (sz := 100) rfl rfl rfl]
  refine y_s (pc' := 28) (L' := [some (vR (some 109))]) (st' := []) (h' := (zsetP (HH zl xs nl 81 78 0) 109 2 (some 112))) f4_25 rfl ?_
  rw [HH_P (a := 109) (k := 2) (q := 112) (w := 78) rfl]
  exact y_ru f4_28 ⟨rfl, k⟩
theorem ct24 {K : Hp → Prop} (k : K (HH zl xs nl 85 83 0)) : yU 38 4 [vR (some 113)] (HH zl xs nl 82 80 0) K := by
  refine y_en (L := [some (vR (some 113))]) rfl rfl ?_
  refine y_s (pc' := 1) (L' := [some (vR (some 113))]) (st' := [vR (some 113)]) (h' := (HH zl xs nl 82 80 0)) f4_0 rfl ?_
  refine y_s (pc' := 4) (L' := [some (vR (some 113))]) (st' := []) (h' := (HH zl xs nl 82 80 0)) f4_1 rfl ?_
  refine y_s (pc' := 5) (L' := [some (vR (some 113))]) (st' := [vR (some 113)]) (h' := (HH zl xs nl 82 80 0)) f4_4 rfl ?_
  refine y_s (pc' := 7) (L' := [some (vR (some 113))]) (st' := [vI 100, vR (some 113)]) (h' := (HH zl xs nl 82 80 0)) f4_5 rfl ?_
  refine y_s (pc' := 9) (L' := [some (vR (some 113))]) (st' := [vR (some 114), vR (some 113)]) (h' := (zmk 1 100 (HH zl xs nl 82 80 0))) f4_7 rfl ?_
  rw [HH_mk (n := 82) (w := 80) (v := 0) (kd := 1) (sz := 100) rfl rfl rfl]
  refine y_s (pc' := 12) (L' := [some (vR (some 113))]) (st' := []) (h' := (zsetP (HH zl xs nl 83 80 0) 113 0 (some 114))) f4_9 rfl ?_
  rw [HH_P (a := 113) (k := 0) (q := 114) (w := 80) rfl]
  refine y_s (pc' := 13) (L' := [some (vR (some 113))]) (st' := [vR (some 113)]) (h' := (HH zl xs nl 83 81 0)) f4_12 rfl ?_
  refine y_s (pc' := 15) (L' := [some (vR (some 113))]) (st' := [vI 100, vR (some 113)]) (h' := (HH zl xs nl 83 81 0)) f4_13 rfl ?_
  refine y_s (pc' := 17) (L' := [some (vR (some 113))]) (st' := [vR (some 115), vR (some 113)]) (h' := (zmk 1 100 (HH zl xs nl 83 81 0))) f4_15 rfl ?_
  rw [HH_mk (n := 83) (w := 81) (v := 0) (kd := 1) (sz := 100) rfl rfl rfl]
  refine y_s (pc' := 20) (L' := [some (vR (some 113))]) (st' := []) (h' := (zsetP (HH zl xs nl 84 81 0) 113 1 (some 115))) f4_17 rfl ?_
  rw [HH_P (a := 113) (k := 1) (q := 115) (w := 81) rfl]
  refine y_s (pc' := 21) (L' := [some (vR (some 113))]) (st' := [vR (some 113)]) (h' := (HH zl xs nl 84 82 0)) f4_20 rfl ?_
  refine y_s (pc' := 23) (L' := [some (vR (some 113))]) (st' := [vI 100, vR (some 113)]) (h' := (HH zl xs nl 84 82 0)) f4_21 rfl ?_
  refine y_s (pc' := 25) (L' := [some (vR (some 113))]) (st' := [vR (some 116), vR (some 113)]) (h' := (zmk 1 100 (HH zl xs nl 84 82 0))) f4_23 rfl ?_
  rw [HH_mk (n := 84) (w := 82) (v := 0) (kd := 1) (sz := 100) rfl rfl rfl]
  refine y_s (pc' := 28) (L' := [some (vR (some 113))]) (st' := []) (h' := (zsetP (HH zl xs nl 85 82 0) 113 2 (some 116))) f4_25 rfl ?_
  rw [HH_P (a := 113) (k := 2) (q := 116) (w := 82) rfl]
  exact y_ru f4_28 ⟨rfl, k⟩
theorem ct25 {K : Hp → Prop} (k : K (HH zl xs nl 89 87 0)) : yU 38 4 [vR (some 117)] (HH zl xs nl 86 84 0) K := by
  refine y_en (L := [some (vR (some 117))]) rfl rfl ?_
  refine y_s (pc' := 1) (L' := [some (vR (some 117))]) (st' := [vR (some 117)]) (h' := (HH zl xs nl 86 84 0)) f4_0 rfl ?_
  refine y_s (pc' := 4) (L' := [some (vR (some 117))]) (st' := []) (h' := (HH zl xs nl 86 84 0)) f4_1 rfl ?_
  refine y_s (pc' := 5) (L' := [some (vR (some 117))]) (st' := [vR (some 117)]) (h' := (HH zl xs nl 86 84 0)) f4_4 rfl ?_
  refine y_s (pc' := 7) (L' := [some (vR (some 117))]) (st' := [vI 100, vR (some 117)]) (h' := (HH zl xs nl 86 84 0)) f4_5 rfl ?_
  refine y_s (pc' := 9) (L' := [some (vR (some 117))]) (st' := [vR (some 118), vR (some 117)]) (h' := (zmk 1 100 (HH zl xs nl 86 84 0))) f4_7 rfl ?_
  rw [HH_mk (n := 86) (w := 84) (v := 0) (kd := 1) (sz := 100) rfl rfl rfl]
  refine y_s (pc' := 12) (L' := [some (vR (some 117))]) (st' := []) (h' := (zsetP (HH zl xs nl 87 84 0) 117 0 (some 118))) f4_9 rfl ?_
  rw [HH_P (a := 117) (k := 0) (q := 118) (w := 84) rfl]
  refine y_s (pc' := 13) (L' := [some (vR (some 117))]) (st' := [vR (some 117)]) (h' := (HH zl xs nl 87 85 0)) f4_12 rfl ?_
  refine y_s (pc' := 15) (L' := [some (vR (some 117))]) (st' := [vI 100, vR (some 117)]) (h' := (HH zl xs nl 87 85 0)) f4_13 rfl ?_
  refine y_s (pc' := 17) (L' := [some (vR (some 117))]) (st' := [vR (some 119), vR (some 117)]) (h' := (zmk 1 100 (HH zl xs nl 87 85 0))) f4_15 rfl ?_
  rw [HH_mk (n := 87) (w := 85) (v := 0) (kd := 1) (sz := 100) rfl rfl rfl]
  refine y_s (pc' := 20) (L' := [some (vR (some 117))]) (st' := []) (h' := (zsetP (HH zl xs nl 88 85 0) 117 1 (some 119))) f4_17 rfl ?_
  rw [HH_P (a := 117) (k := 1) (q := 119) (w := 85) rfl]
  refine y_s (pc' := 21) (L' := [some (vR (some 117))]) (st' := [vR (some 117)]) (h' := (HH zl xs nl 88 86 0)) f4_20 rfl ?_
  refine y_s (pc' := 23) (L' := [some (vR (some 117))]) (st' := [vI 100, vR (some 117)]) (h' := (HH zl xs nl 88 86 0)) f4_21 rfl ?_
  refine y_s (pc' := 25) (L' := [some (vR (some 117))]) (st' := [vR (some 120), vR (some 117)]) (h' := (zmk 1 100 (HH zl xs nl 88 86 0))) f4_23 rfl ?_
  rw [HH_mk (n := 88) (w := 86) (v := 0) (kd := 1) (sz := 100) rfl rfl rfl]
  refine y_s (pc' := 28) (L' := [some (vR (some 117))]) (st' := []) (h' := (zsetP (HH zl xs nl 89 86 0) 117 2 (some 120))) f4_25 rfl ?_
  rw [HH_P (a := 117) (k := 2) (q := 120) (w := 86) rfl]
  exact y_ru f4_28 ⟨rfl, k⟩
theorem ct26 {K : Hp → Prop} (k : K (HH zl xs nl 93 91 0)) : yU 38 4 [vR (some 121)] (HH zl xs nl 90 88 0) K := by
  refine y_en (L := [some (vR (some 121))]) rfl rfl ?_
  refine y_s (pc' := 1) (L' := [some (vR (some 121))]) (st' := [vR (some 121)]) (h' := (HH zl xs nl 90 88 0)) f4_0 rfl ?_
  refine y_s (pc' := 4) (L' := [some (vR (some 121))]) (st' := []) (h' := (HH zl xs nl 90 88 0)) f4_1 rfl ?_
  refine y_s (pc' := 5) (L' := [some (vR (some 121))]) (st' := [vR (some 121)]) (h' := (HH zl xs nl 90 88 0)) f4_4 rfl ?_
  refine y_s (pc' := 7) (L' := [some (vR (some 121))]) (st' := [vI 100, vR (some 121)]) (h' := (HH zl xs nl 90 88 0)) f4_5 rfl ?_
  refine y_s (pc' := 9) (L' := [some (vR (some 121))]) (st' := [vR (some 122), vR (some 121)]) (h' := (zmk 1 100 (HH zl xs nl 90 88 0))) f4_7 rfl ?_
  rw [HH_mk (n := 90) (w := 88) (v := 0) (kd := 1) (sz := 100) rfl rfl rfl]
  refine y_s (pc' := 12) (L' := [some (vR (some 121))]) (st' := []) (h' := (zsetP (HH zl xs nl 91 88 0) 121 0 (some 122))) f4_9 rfl ?_
  rw [HH_P (a := 121) (k := 0) (q := 122) (w := 88) rfl]
  refine y_s (pc' := 13) (L' := [some (vR (some 121))]) (st' := [vR (some 121)]) (h' := (HH zl xs nl 91 89 0)) f4_12 rfl ?_
  refine y_s (pc' := 15) (L' := [some (vR (some 121))]) (st' := [vI 100, vR (some 121)]) (h' := (HH zl xs nl 91 89 0)) f4_13 rfl ?_
  refine y_s (pc' := 17) (L' := [some (vR (some 121))]) (st' := [vR (some 123), vR (some 121)]) (h' := (zmk 1 100 (HH zl xs nl 91 89 0))) f4_15 rfl ?_
  rw [HH_mk (n := 91) (w := 89) (v := 0) (kd := 1) (sz := 100) rfl rfl rfl]
  refine y_s (pc' := 20) (L' := [some (vR (some 121))]) (st' := []) (h' := (zsetP (HH zl xs nl 92 89 0) 121 1 (some 123))) f4_17 rfl ?_
  rw [HH_P (a := 121) (k := 1) (q := 123) (w := 89) rfl]
  refine y_s (pc' := 21) (L' := [some (vR (some 121))]) (st' := [vR (some 121)]) (h' := (HH zl xs nl 92 90 0)) f4_20 rfl ?_
  refine y_s (pc' := 23) (L' := [some (vR (some 121))]) (st' := [vI 100, vR (some 121)]) (h' := (HH zl xs nl 92 90 0)) f4_21 rfl ?_
  refine y_s (pc' := 25) (L' := [some (vR (some 121))]) (st' := [vR (some 124), vR (some 121)]) (h' := (zmk 1 100 (HH zl xs nl 92 90 0))) f4_23 rfl ?_
  rw [HH_mk (n := 92) (w := 90) (v := 0) (kd := 1) (sz := 100) rfl rfl rfl]
  refine y_s (pc' := 28) (L' := [some (vR (some 121))]) (st' := []) (h' := (zsetP (HH zl xs nl 93 90 0) 121 2 (some 124))) f4_25 rfl ?_
  rw [HH_P (a := 121) (k := 2) (q := 124) (w := 90) rfl]
  exact y_ru f4_28 ⟨rfl, k⟩
theorem ct27 {K : Hp → Prop} (k : K (HH zl xs nl 95 93 1)) : yU 38 8 [vR (some 125)] (HH zl xs nl 94 92 0) K := by
  refine y_en (L := [some (vR (some 125))]) rfl rfl ?_
  refine y_s (pc' := 1) (L' := [some (vR (some 125))]) (st' := [vR (some 125)]) (h' := (HH zl xs nl 94 92 0)) f8_0 rfl ?_
  refine y_s (pc' := 4) (L' := [some (vR (some 125))]) (st' := []) (h' := (HH zl xs nl 94 92 0)) f8_1 rfl ?_
  refine y_s (pc' := 5) (L' := [some (vR (some 125))]) (st' := [vR (some 125)]) (h' := (HH zl xs nl 94 92 0)) f8_4 rfl ?_
  refine y_s (pc' := 7) (L' := [some (vR (some 125))]) (st' := [vI 60, vR (some 125)]) (h' := (HH zl xs nl 94 92 0)) f8_5 rfl ?_
  refine y_s (pc' := 9) (L' := [some (vR (some 125))]) (st' := [vR (some 126), vR (some 125)]) (h' := (zmk 3 60 (HH zl xs nl 94 92 0))) f8_7 rfl ?_
  rw [HH_mk (n := 94) (w := 92) (v := 0) (kd := 3) (sz := 60) rfl rfl rfl]
  refine y_s (pc' := 12) (L' := [some (vR (some 125))]) (st' := []) (h' := (zsetP (HH zl xs nl 95 92 0) 125 0 (some 126))) f8_9 rfl ?_
  rw [HH_P (a := 125) (k := 0) (q := 126) (w := 92) rfl]
  refine y_s (pc' := 13) (L' := [some (vR (some 125))]) (st' := [vR (some 125)]) (h' := (HH zl xs nl 95 93 0)) f8_12 rfl ?_
  refine y_s (pc' := 14) (L' := [some (vR (some 125))]) (st' := [vI (-1), vR (some 125)]) (h' := (HH zl xs nl 95 93 0)) f8_13 rfl ?_
  refine y_s (pc' := 17) (L' := [some (vR (some 125))]) (st' := []) (h' := (zsetV (HH zl xs nl 95 93 0) 125 1 (-1))) f8_14 rfl ?_
  rw [HH_V (a := 125) (k := 1) (x := (-1)) (v := 0) rfl]
  exact y_ru f8_17 ⟨rfl, k⟩
theorem ct28 {K : Hp → Prop} (k : K (HH zl xs nl 97 95 2)) : yU 38 8 [vR (some 127)] (HH zl xs nl 96 94 1) K := by
  refine y_en (L := [some (vR (some 127))]) rfl rfl ?_
  refine y_s (pc' := 1) (L' := [some (vR (some 127))]) (st' := [vR (some 127)]) (h' := (HH zl xs nl 96 94 1)) f8_0 rfl ?_
  refine y_s (pc' := 4) (L' := [some (vR (some 127))]) (st' := []) (h' := (HH zl xs nl 96 94 1)) f8_1 rfl ?_
  refine y_s (pc' := 5) (L' := [some (vR (some 127))]) (st' := [vR (some 127)]) (h' := (HH zl xs nl 96 94 1)) f8_4 rfl ?_
  refine y_s (pc' := 7) (L' := [some (vR (some 127))]) (st' := [vI 60, vR (some 127)]) (h' := (HH zl xs nl 96 94 1)) f8_5 rfl ?_
  refine y_s (pc' := 9) (L' := [some (vR (some 127))]) (st' := [vR (some 128), vR (some 127)]) (h' := (zmk 3 60 (HH zl xs nl 96 94 1))) f8_7 rfl ?_
  rw [HH_mk (n := 96) (w := 94) (v := 1) (kd := 3) (sz := 60) rfl rfl rfl]
  refine y_s (pc' := 12) (L' := [some (vR (some 127))]) (st' := []) (h' := (zsetP (HH zl xs nl 97 94 1) 127 0 (some 128))) f8_9 rfl ?_
  rw [HH_P (a := 127) (k := 0) (q := 128) (w := 94) rfl]
  refine y_s (pc' := 13) (L' := [some (vR (some 127))]) (st' := [vR (some 127)]) (h' := (HH zl xs nl 97 95 1)) f8_12 rfl ?_
  refine y_s (pc' := 14) (L' := [some (vR (some 127))]) (st' := [vI (-1), vR (some 127)]) (h' := (HH zl xs nl 97 95 1)) f8_13 rfl ?_
  refine y_s (pc' := 17) (L' := [some (vR (some 127))]) (st' := []) (h' := (zsetV (HH zl xs nl 97 95 1) 127 1 (-1))) f8_14 rfl ?_
  rw [HH_V (a := 127) (k := 1) (x := (-1)) (v := 1) rfl]
  exact y_ru f8_17 ⟨rfl, k⟩
theorem ct29 {K : Hp → Prop} (k : K (HH zl xs nl 99 97 3)) : yU 38 8 [vR (some 129)] (HH zl xs nl 98 96 2) K := by
  refine y_en (L := [some (vR (some 129))]) rfl rfl ?_
  refine y_s (pc' := 1) (L' := [some (vR (some 129))]) (st' := [vR (some 129)]) (h' := (HH zl xs nl 98 96 2)) f8_0 rfl ?_
  refine y_s (pc' := 4) (L' := [some (vR (some 129))]) (st' := []) (h' := (HH zl xs nl 98 96 2)) f8_1 rfl ?_
  refine y_s (pc' := 5) (L' := [some (vR (some 129))]) (st' := [vR (some 129)]) (h' := (HH zl xs nl 98 96 2)) f8_4 rfl ?_
  refine y_s (pc' := 7) (L' := [some (vR (some 129))]) (st' := [vI 60, vR (some 129)]) (h' := (HH zl xs nl 98 96 2)) f8_5 rfl ?_
  refine y_s (pc' := 9) (L' := [some (vR (some 129))]) (st' := [vR (some 130), vR (some 129)]) (h' := (zmk 3 60 (HH zl xs nl 98 96 2))) f8_7 rfl ?_
  rw [HH_mk (n := 98) (w := 96) (v := 2) (kd := 3) (sz := 60) rfl rfl rfl]
  refine y_s (pc' := 12) (L' := [some (vR (some 129))]) (st' := []) (h' := (zsetP (HH zl xs nl 99 96 2) 129 0 (some 130))) f8_9 rfl ?_
  rw [HH_P (a := 129) (k := 0) (q := 130) (w := 96) rfl]
  refine y_s (pc' := 13) (L' := [some (vR (some 129))]) (st' := [vR (some 129)]) (h' := (HH zl xs nl 99 97 2)) f8_12 rfl ?_
  refine y_s (pc' := 14) (L' := [some (vR (some 129))]) (st' := [vI (-1), vR (some 129)]) (h' := (HH zl xs nl 99 97 2)) f8_13 rfl ?_
  refine y_s (pc' := 17) (L' := [some (vR (some 129))]) (st' := []) (h' := (zsetV (HH zl xs nl 99 97 2) 129 1 (-1))) f8_14 rfl ?_
  rw [HH_V (a := 129) (k := 1) (x := (-1)) (v := 2) rfl]
  exact y_ru f8_17 ⟨rfl, k⟩
theorem ct30 {K : Hp → Prop} (k : K (HH zl xs nl 101 99 4)) : yU 38 8 [vR (some 131)] (HH zl xs nl 100 98 3) K := by
  refine y_en (L := [some (vR (some 131))]) rfl rfl ?_
  refine y_s (pc' := 1) (L' := [some (vR (some 131))]) (st' := [vR (some 131)]) (h' := (HH zl xs nl 100 98 3)) f8_0 rfl ?_
  refine y_s (pc' := 4) (L' := [some (vR (some 131))]) (st' := []) (h' := (HH zl xs nl 100 98 3)) f8_1 rfl ?_
  refine y_s (pc' := 5) (L' := [some (vR (some 131))]) (st' := [vR (some 131)]) (h' := (HH zl xs nl 100 98 3)) f8_4 rfl ?_
  refine y_s (pc' := 7) (L' := [some (vR (some 131))]) (st' := [vI 60, vR (some 131)]) (h' := (HH zl xs nl 100 98 3)) f8_5 rfl ?_
  refine y_s (pc' := 9) (L' := [some (vR (some 131))]) (st' := [vR (some 132), vR (some 131)]) (h' := (zmk 3 60 (HH zl xs nl 100 98 3))) f8_7 rfl ?_
  rw [HH_mk (n := 100) (w := 98) (v := 3) (kd := 3) (sz := 60) rfl rfl rfl]
  refine y_s (pc' := 12) (L' := [some (vR (some 131))]) (st' := []) (h' := (zsetP (HH zl xs nl 101 98 3) 131 0 (some 132))) f8_9 rfl ?_
  rw [HH_P (a := 131) (k := 0) (q := 132) (w := 98) rfl]
  refine y_s (pc' := 13) (L' := [some (vR (some 131))]) (st' := [vR (some 131)]) (h' := (HH zl xs nl 101 99 3)) f8_12 rfl ?_
  refine y_s (pc' := 14) (L' := [some (vR (some 131))]) (st' := [vI (-1), vR (some 131)]) (h' := (HH zl xs nl 101 99 3)) f8_13 rfl ?_
  refine y_s (pc' := 17) (L' := [some (vR (some 131))]) (st' := []) (h' := (zsetV (HH zl xs nl 101 99 3) 131 1 (-1))) f8_14 rfl ?_
  rw [HH_V (a := 131) (k := 1) (x := (-1)) (v := 3) rfl]
  exact y_ru f8_17 ⟨rfl, k⟩
theorem ct31 {K : Hp → Prop} (k : K (HH zl xs nl 103 101 5)) : yU 38 8 [vR (some 133)] (HH zl xs nl 102 100 4) K := by
  refine y_en (L := [some (vR (some 133))]) rfl rfl ?_
  refine y_s (pc' := 1) (L' := [some (vR (some 133))]) (st' := [vR (some 133)]) (h' := (HH zl xs nl 102 100 4)) f8_0 rfl ?_
  refine y_s (pc' := 4) (L' := [some (vR (some 133))]) (st' := []) (h' := (HH zl xs nl 102 100 4)) f8_1 rfl ?_
  refine y_s (pc' := 5) (L' := [some (vR (some 133))]) (st' := [vR (some 133)]) (h' := (HH zl xs nl 102 100 4)) f8_4 rfl ?_
  refine y_s (pc' := 7) (L' := [some (vR (some 133))]) (st' := [vI 60, vR (some 133)]) (h' := (HH zl xs nl 102 100 4)) f8_5 rfl ?_
  refine y_s (pc' := 9) (L' := [some (vR (some 133))]) (st' := [vR (some 134), vR (some 133)]) (h' := (zmk 3 60 (HH zl xs nl 102 100 4))) f8_7 rfl ?_
  rw [HH_mk (n := 102) (w := 100) (v := 4) (kd := 3) (sz := 60) rfl rfl rfl]
  refine y_s (pc' := 12) (L' := [some (vR (some 133))]) (st' := []) (h' := (zsetP (HH zl xs nl 103 100 4) 133 0 (some 134))) f8_9 rfl ?_
  rw [HH_P (a := 133) (k := 0) (q := 134) (w := 100) rfl]
  refine y_s (pc' := 13) (L' := [some (vR (some 133))]) (st' := [vR (some 133)]) (h' := (HH zl xs nl 103 101 4)) f8_12 rfl ?_
  refine y_s (pc' := 14) (L' := [some (vR (some 133))]) (st' := [vI (-1), vR (some 133)]) (h' := (HH zl xs nl 103 101 4)) f8_13 rfl ?_
  refine y_s (pc' := 17) (L' := [some (vR (some 133))]) (st' := []) (h' := (zsetV (HH zl xs nl 103 101 4) 133 1 (-1))) f8_14 rfl ?_
  rw [HH_V (a := 133) (k := 1) (x := (-1)) (v := 4) rfl]
  exact y_ru f8_17 ⟨rfl, k⟩
theorem ct32 {K : Hp → Prop} (k : K (HH zl xs nl 105 103 6)) : yU 38 8 [vR (some 135)] (HH zl xs nl 104 102 5) K := by
  refine y_en (L := [some (vR (some 135))]) rfl rfl ?_
  refine y_s (pc' := 1) (L' := [some (vR (some 135))]) (st' := [vR (some 135)]) (h' := (HH zl xs nl 104 102 5)) f8_0 rfl ?_
  refine y_s (pc' := 4) (L' := [some (vR (some 135))]) (st' := []) (h' := (HH zl xs nl 104 102 5)) f8_1 rfl ?_
  refine y_s (pc' := 5) (L' := [some (vR (some 135))]) (st' := [vR (some 135)]) (h' := (HH zl xs nl 104 102 5)) f8_4 rfl ?_
  refine y_s (pc' := 7) (L' := [some (vR (some 135))]) (st' := [vI 60, vR (some 135)]) (h' := (HH zl xs nl 104 102 5)) f8_5 rfl ?_
  refine y_s (pc' := 9) (L' := [some (vR (some 135))]) (st' := [vR (some 136), vR (some 135)]) (h' := (zmk 3 60 (HH zl xs nl 104 102 5))) f8_7 rfl ?_
  rw [HH_mk (n := 104) (w := 102) (v := 5) (kd := 3) (sz := 60) rfl rfl rfl]
  refine y_s (pc' := 12) (L' := [some (vR (some 135))]) (st' := []) (h' := (zsetP (HH zl xs nl 105 102 5) 135 0 (some 136))) f8_9 rfl ?_
  rw [HH_P (a := 135) (k := 0) (q := 136) (w := 102) rfl]
  refine y_s (pc' := 13) (L' := [some (vR (some 135))]) (st' := [vR (some 135)]) (h' := (HH zl xs nl 105 103 5)) f8_12 rfl ?_
  refine y_s (pc' := 14) (L' := [some (vR (some 135))]) (st' := [vI (-1), vR (some 135)]) (h' := (HH zl xs nl 105 103 5)) f8_13 rfl ?_
  refine y_s (pc' := 17) (L' := [some (vR (some 135))]) (st' := []) (h' := (zsetV (HH zl xs nl 105 103 5) 135 1 (-1))) f8_14 rfl ?_
  rw [HH_V (a := 135) (k := 1) (x := (-1)) (v := 5) rfl]
  exact y_ru f8_17 ⟨rfl, k⟩
theorem ct33 {K : Hp → Prop} (k : K (HH zl xs nl 105 104 6)) : yU 39 0 [vR (some 32)] (HH zl xs nl 1 0 0) K := by
  refine y_en (L := [some (vR (some 32)), none]) rfl rfl ?_
  refine y_s (pc' := 1) (L' := [some (vR (some 32)), none]) (st' := [vR (some 32)]) (h' := (HH zl xs nl 1 0 0)) f0_0 rfl ?_
  refine y_s (pc' := 4) (L' := [some (vR (some 32)), none]) (st' := []) (h' := (HH zl xs nl 1 0 0)) f0_1 rfl ?_
  refine y_s (pc' := 5) (L' := [some (vR (some 32)), none]) (st' := [vR (some 32)]) (h' := (HH zl xs nl 1 0 0)) f0_4 rfl ?_
  refine y_s (pc' := 8) (L' := [some (vR (some 32)), none]) (st' := [vR (some 33), vR (some 32)]) (h' := (zmk 12 13 (HH zl xs nl 1 0 0))) f0_5 rfl ?_
  rw [HH_mk (n := 1) (w := 0) (v := 0) (kd := 12) (sz := 13) rfl rfl rfl]
  refine y_s (pc' := 9) (L' := [some (vR (some 32)), none]) (st' := [vR (some 33), vR (some 33), vR (some 32)]) (h' := (HH zl xs nl 2 0 0)) f0_8 rfl ?_
  refine y_cU (pc' := 12) (as := [vR (some 33)]) (r := [vR (some 33), vR (some 32)]) f0_9 rfl (by decide) rfl ?_
  refine ct5 ?_
  refine y_s (pc' := 15) (L' := [some (vR (some 32)), none]) (st' := []) (h' := (zsetP (HH zl xs nl 20 18 0) 32 0 (some 33))) f0_12 rfl ?_
  rw [HH_P (a := 32) (k := 0) (q := 33) (w := 18) rfl]
  refine y_s (pc' := 16) (L' := [some (vR (some 32)), none]) (st' := [vR (some 32)]) (h' := (HH zl xs nl 20 19 0)) f0_15 rfl ?_
  refine y_s (pc' := 19) (L' := [some (vR (some 32)), none]) (st' := [vR (some 52), vR (some 32)]) (h' := (zmk 12 13 (HH zl xs nl 20 19 0))) f0_16 rfl ?_
  rw [HH_mk (n := 20) (w := 19) (v := 0) (kd := 12) (sz := 13) rfl rfl rfl]
  refine y_s (pc' := 20) (L' := [some (vR (some 32)), none]) (st' := [vR (some 52), vR (some 52), vR (some 32)]) (h' := (HH zl xs nl 21 19 0)) f0_19 rfl ?_
  refine y_cU (pc' := 23) (as := [vR (some 52)]) (r := [vR (some 52), vR (some 32)]) f0_20 rfl (by decide) rfl ?_
  refine ct11 ?_
  refine y_s (pc' := 26) (L' := [some (vR (some 32)), none]) (st' := []) (h' := (zsetP (HH zl xs nl 39 37 0) 32 1 (some 52))) f0_23 rfl ?_
  rw [HH_P (a := 32) (k := 1) (q := 52) (w := 37) rfl]
  refine y_s (pc' := 27) (L' := [some (vR (some 32)), none]) (st' := [vR (some 32)]) (h' := (HH zl xs nl 39 38 0)) f0_26 rfl ?_
  refine y_s (pc' := 30) (L' := [some (vR (some 32)), none]) (st' := [vR (some 71), vR (some 32)]) (h' := (zmk 12 13 (HH zl xs nl 39 38 0))) f0_27 rfl ?_
  rw [HH_mk (n := 39) (w := 38) (v := 0) (kd := 12) (sz := 13) rfl rfl rfl]
  refine y_s (pc' := 31) (L' := [some (vR (some 32)), none]) (st' := [vR (some 71), vR (some 71), vR (some 32)]) (h' := (HH zl xs nl 40 38 0)) f0_30 rfl ?_
  refine y_cU (pc' := 34) (as := [vR (some 71)]) (r := [vR (some 71), vR (some 32)]) f0_31 rfl (by decide) rfl ?_
  refine ct17 ?_
  refine y_s (pc' := 37) (L' := [some (vR (some 32)), none]) (st' := []) (h' := (zsetP (HH zl xs nl 58 56 0) 32 2 (some 71))) f0_34 rfl ?_
  rw [HH_P (a := 32) (k := 2) (q := 71) (w := 56) rfl]
  refine y_s (pc' := 38) (L' := [some (vR (some 32)), none]) (st' := [vR (some 32)]) (h' := (HH zl xs nl 58 57 0)) f0_37 rfl ?_
  refine y_s (pc' := 41) (L' := [some (vR (some 32)), none]) (st' := [vR (some 90), vR (some 32)]) (h' := (zmk 16 5 (HH zl xs nl 58 57 0))) f0_38 rfl ?_
  rw [HH_mk (n := 58) (w := 57) (v := 0) (kd := 16) (sz := 5) rfl rfl rfl]
  refine y_s (pc' := 42) (L' := [some (vR (some 32)), none]) (st' := [vR (some 90), vR (some 90), vR (some 32)]) (h' := (HH zl xs nl 59 57 0)) f0_41 rfl ?_
  refine y_cU (pc' := 45) (as := [vR (some 90)]) (r := [vR (some 90), vR (some 32)]) f0_42 rfl (by decide) rfl ?_
  refine ct18 ?_
  refine y_s (pc' := 48) (L' := [some (vR (some 32)), none]) (st' := []) (h' := (zsetP (HH zl xs nl 60 58 0) 32 4 (some 90))) f0_45 rfl ?_
  rw [HH_P (a := 32) (k := 4) (q := 90) (w := 58) rfl]
  refine y_s (pc' := 49) (L' := [some (vR (some 32)), none]) (st' := [vR (some 32)]) (h' := (HH zl xs nl 60 59 0)) f0_48 rfl ?_
  refine y_s (pc' := 51) (L' := [some (vR (some 32)), none]) (st' := [vI 6, vR (some 32)]) (h' := (HH zl xs nl 60 59 0)) f0_49 rfl ?_
  refine y_s (pc' := 54) (L' := [some (vR (some 32)), none]) (st' := [vR (some 92), vR (some 32)]) (h' := (zmk 5 6 (HH zl xs nl 60 59 0))) f0_51 rfl ?_
  rw [HH_mk (n := 60) (w := 59) (v := 0) (kd := 5) (sz := 6) rfl rfl rfl]
  refine y_s (pc' := 57) (L' := [some (vR (some 32)), none]) (st' := []) (h' := (zsetP (HH zl xs nl 61 59 0) 32 5 (some 92))) f0_54 rfl ?_
  rw [HH_P (a := 32) (k := 5) (q := 92) (w := 59) rfl]
  refine y_s (pc' := 58) (L' := [some (vR (some 32)), none]) (st' := [vR (some 32)]) (h' := (HH zl xs nl 61 60 0)) f0_57 rfl ?_
  refine y_s (pc' := 60) (L' := [some (vR (some 32)), none]) (st' := [vI 6, vR (some 32)]) (h' := (HH zl xs nl 61 60 0)) f0_58 rfl ?_
  refine y_s (pc' := 63) (L' := [some (vR (some 32)), none]) (st' := [vR (some 93), vR (some 32)]) (h' := (zmk 6 6 (HH zl xs nl 61 60 0))) f0_60 rfl ?_
  rw [HH_mk (n := 61) (w := 60) (v := 0) (kd := 6) (sz := 6) rfl rfl rfl]
  refine y_s (pc' := 66) (L' := [some (vR (some 32)), none]) (st' := []) (h' := (zsetP (HH zl xs nl 62 60 0) 32 7 (some 93))) f0_63 rfl ?_
  rw [HH_P (a := 32) (k := 7) (q := 93) (w := 60) rfl]
  refine y_s (pc' := 67) (L' := [some (vR (some 32)), none]) (st' := [vR (some 32)]) (h' := (HH zl xs nl 62 61 0)) f0_66 rfl ?_
  refine y_s (pc' := 70) (L' := [some (vR (some 32)), none]) (st' := [vR (some 94), vR (some 32)]) (h' := (zmk 10 5 (HH zl xs nl 62 61 0))) f0_67 rfl ?_
  rw [HH_mk (n := 62) (w := 61) (v := 0) (kd := 10) (sz := 5) rfl rfl rfl]
  refine y_s (pc' := 71) (L' := [some (vR (some 32)), none]) (st' := [vR (some 94), vR (some 94), vR (some 32)]) (h' := (HH zl xs nl 63 61 0)) f0_70 rfl ?_
  refine y_cU (pc' := 74) (as := [vR (some 94)]) (r := [vR (some 94), vR (some 32)]) f0_71 rfl (by decide) rfl ?_
  refine ct19 ?_
  refine y_s (pc' := 77) (L' := [some (vR (some 32)), none]) (st' := []) (h' := (zsetP (HH zl xs nl 64 62 0) 32 8 (some 94))) f0_74 rfl ?_
  rw [HH_P (a := 32) (k := 8) (q := 94) (w := 62) rfl]
  refine y_s (pc' := 78) (L' := [some (vR (some 32)), none]) (st' := [vR (some 32)]) (h' := (HH zl xs nl 64 63 0)) f0_77 rfl ?_
  refine y_s (pc' := 81) (L' := [some (vR (some 32)), none]) (st' := [vR (some 96), vR (some 32)]) (h' := (zmk 11 6 (HH zl xs nl 64 63 0))) f0_78 rfl ?_
  rw [HH_mk (n := 64) (w := 63) (v := 0) (kd := 11) (sz := 6) rfl rfl rfl]
  refine y_s (pc' := 82) (L' := [some (vR (some 32)), none]) (st' := [vR (some 96), vR (some 96), vR (some 32)]) (h' := (HH zl xs nl 65 63 0)) f0_81 rfl ?_
  refine y_cU (pc' := 85) (as := [vR (some 96)]) (r := [vR (some 96), vR (some 32)]) f0_82 rfl (by decide) rfl ?_
  refine ct20 ?_
  refine y_s (pc' := 88) (L' := [some (vR (some 32)), none]) (st' := []) (h' := (zsetP (HH zl xs nl 69 67 0) 32 9 (some 96))) f0_85 rfl ?_
  rw [HH_P (a := 32) (k := 9) (q := 96) (w := 67) rfl]
  refine y_s (pc' := 89) (L' := [some (vR (some 32)), none]) (st' := [vI 0]) (h' := (HH zl xs nl 69 68 0)) f0_88 rfl ?_
  refine y_s (pc' := 90) (L' := [some (vR (some 32)), some (vI 0)]) (st' := []) (h' := (HH zl xs nl 69 68 0)) f0_89 rfl ?_
  refine y_s (pc' := 91) (L' := [some (vR (some 32)), some (vI 0)]) (st' := [vI 0]) (h' := (HH zl xs nl 69 68 0)) f0_90 rfl ?_
  refine y_s (pc' := 93) (L' := [some (vR (some 32)), some (vI 0)]) (st' := [vI 6, vI 0]) (h' := (HH zl xs nl 69 68 0)) f0_91 rfl ?_
  refine y_s (pc' := 96) (L' := [some (vR (some 32)), some (vI 0)]) (st' := []) (h' := (HH zl xs nl 69 68 0)) f0_93 rfl ?_
  refine y_s (pc' := 97) (L' := [some (vR (some 32)), some (vI 0)]) (st' := [vR (some 32)]) (h' := (HH zl xs nl 69 68 0)) f0_96 rfl ?_
  refine y_s (pc' := 100) (L' := [some (vR (some 32)), some (vI 0)]) (st' := [vR (some 92)]) (h' := (HH zl xs nl 69 68 0)) f0_97 rfl ?_
  refine y_s (pc' := 101) (L' := [some (vR (some 32)), some (vI 0)]) (st' := [vI 0, vR (some 92)]) (h' := (HH zl xs nl 69 68 0)) f0_100 rfl ?_
  refine y_s (pc' := 104) (L' := [some (vR (some 32)), some (vI 0)]) (st' := [vR (some 101), vI 0, vR (some 92)]) (h' := (zmk 14 5 (HH zl xs nl 69 68 0))) f0_101 rfl ?_
  rw [HH_mk (n := 69) (w := 68) (v := 0) (kd := 14) (sz := 5) rfl rfl rfl]
  refine y_s (pc' := 105) (L' := [some (vR (some 32)), some (vI 0)]) (st' := [vR (some 101), vR (some 101), vI 0, vR (some 92)]) (h' := (HH zl xs nl 70 68 0)) f0_104 rfl ?_
  refine y_cU (pc' := 108) (as := [vR (some 101)]) (r := [vR (some 101), vI 0, vR (some 92)]) f0_105 rfl (by decide) rfl ?_
  refine ct21 ?_
  refine y_s (pc' := 109) (L' := [some (vR (some 32)), some (vI 0)]) (st' := []) (h' := (zsetP (HH zl xs nl 73 71 0) 92 0 (some 101))) f0_108 rfl ?_
  rw [HH_P (a := 92) (k := 0) (q := 101) (w := 71) rfl]
  refine y_s (pc' := 112) (L' := [some (vR (some 32)), some (vI 1)]) (st' := []) (h' := (HH zl xs nl 73 72 0)) f0_109 rfl ?_
  refine y_s (pc' := 90) (L' := [some (vR (some 32)), some (vI 1)]) (st' := []) (h' := (HH zl xs nl 73 72 0)) f0_112 rfl ?_
  refine y_s (pc' := 91) (L' := [some (vR (some 32)), some (vI 1)]) (st' := [vI 1]) (h' := (HH zl xs nl 73 72 0)) f0_90 rfl ?_
  refine y_s (pc' := 93) (L' := [some (vR (some 32)), some (vI 1)]) (st' := [vI 6, vI 1]) (h' := (HH zl xs nl 73 72 0)) f0_91 rfl ?_
  refine y_s (pc' := 96) (L' := [some (vR (some 32)), some (vI 1)]) (st' := []) (h' := (HH zl xs nl 73 72 0)) f0_93 rfl ?_
  refine y_s (pc' := 97) (L' := [some (vR (some 32)), some (vI 1)]) (st' := [vR (some 32)]) (h' := (HH zl xs nl 73 72 0)) f0_96 rfl ?_
  refine y_s (pc' := 100) (L' := [some (vR (some 32)), some (vI 1)]) (st' := [vR (some 92)]) (h' := (HH zl xs nl 73 72 0)) f0_97 rfl ?_
  refine y_s (pc' := 101) (L' := [some (vR (some 32)), some (vI 1)]) (st' := [vI 1, vR (some 92)]) (h' := (HH zl xs nl 73 72 0)) f0_100 rfl ?_
  refine y_s (pc' := 104) (L' := [some (vR (some 32)), some (vI 1)]) (st' := [vR (some 105), vI 1, vR (some 92)]) (h' := (zmk 14 5 (HH zl xs nl 73 72 0))) f0_101 rfl ?_
  rw [HH_mk (n := 73) (w := 72) (v := 0) (kd := 14) (sz := 5) rfl rfl rfl]
  refine y_s (pc' := 105) (L' := [some (vR (some 32)), some (vI 1)]) (st' := [vR (some 105), vR (some 105), vI 1, vR (some 92)]) (h' := (HH zl xs nl 74 72 0)) f0_104 rfl ?_
  refine y_cU (pc' := 108) (as := [vR (some 105)]) (r := [vR (some 105), vI 1, vR (some 92)]) f0_105 rfl (by decide) rfl ?_
  refine ct22 ?_
  refine y_s (pc' := 109) (L' := [some (vR (some 32)), some (vI 1)]) (st' := []) (h' := (zsetP (HH zl xs nl 77 75 0) 92 1 (some 105))) f0_108 rfl ?_
  rw [HH_P (a := 92) (k := 1) (q := 105) (w := 75) rfl]
  refine y_s (pc' := 112) (L' := [some (vR (some 32)), some (vI 2)]) (st' := []) (h' := (HH zl xs nl 77 76 0)) f0_109 rfl ?_
  refine y_s (pc' := 90) (L' := [some (vR (some 32)), some (vI 2)]) (st' := []) (h' := (HH zl xs nl 77 76 0)) f0_112 rfl ?_
  refine y_s (pc' := 91) (L' := [some (vR (some 32)), some (vI 2)]) (st' := [vI 2]) (h' := (HH zl xs nl 77 76 0)) f0_90 rfl ?_
  refine y_s (pc' := 93) (L' := [some (vR (some 32)), some (vI 2)]) (st' := [vI 6, vI 2]) (h' := (HH zl xs nl 77 76 0)) f0_91 rfl ?_
  refine y_s (pc' := 96) (L' := [some (vR (some 32)), some (vI 2)]) (st' := []) (h' := (HH zl xs nl 77 76 0)) f0_93 rfl ?_
  refine y_s (pc' := 97) (L' := [some (vR (some 32)), some (vI 2)]) (st' := [vR (some 32)]) (h' := (HH zl xs nl 77 76 0)) f0_96 rfl ?_
  refine y_s (pc' := 100) (L' := [some (vR (some 32)), some (vI 2)]) (st' := [vR (some 92)]) (h' := (HH zl xs nl 77 76 0)) f0_97 rfl ?_
  refine y_s (pc' := 101) (L' := [some (vR (some 32)), some (vI 2)]) (st' := [vI 2, vR (some 92)]) (h' := (HH zl xs nl 77 76 0)) f0_100 rfl ?_
  refine y_s (pc' := 104) (L' := [some (vR (some 32)), some (vI 2)]) (st' := [vR (some 109), vI 2, vR (some 92)]) (h' := (zmk 14 5 (HH zl xs nl 77 76 0))) f0_101 rfl ?_
  rw [HH_mk (n := 77) (w := 76) (v := 0) (kd := 14) (sz := 5) rfl rfl rfl]
  refine y_s (pc' := 105) (L' := [some (vR (some 32)), some (vI 2)]) (st' := [vR (some 109), vR (some 109), vI 2, vR (some 92)]) (h' := (HH zl xs nl 78 76 0)) f0_104 rfl ?_
  refine y_cU (pc' := 108) (as := [vR (some 109)]) (r := [vR (some 109), vI 2, vR (some 92)]) f0_105 rfl (by decide) rfl ?_
  refine ct23 ?_
  refine y_s (pc' := 109) (L' := [some (vR (some 32)), some (vI 2)]) (st' := []) (h' := (zsetP (HH zl xs nl 81 79 0) 92 2 (some 109))) f0_108 rfl ?_
  rw [HH_P (a := 92) (k := 2) (q := 109) (w := 79) rfl]
  refine y_s (pc' := 112) (L' := [some (vR (some 32)), some (vI 3)]) (st' := []) (h' := (HH zl xs nl 81 80 0)) f0_109 rfl ?_
  refine y_s (pc' := 90) (L' := [some (vR (some 32)), some (vI 3)]) (st' := []) (h' := (HH zl xs nl 81 80 0)) f0_112 rfl ?_
  refine y_s (pc' := 91) (L' := [some (vR (some 32)), some (vI 3)]) (st' := [vI 3]) (h' := (HH zl xs nl 81 80 0)) f0_90 rfl ?_
  refine y_s (pc' := 93) (L' := [some (vR (some 32)), some (vI 3)]) (st' := [vI 6, vI 3]) (h' := (HH zl xs nl 81 80 0)) f0_91 rfl ?_
  refine y_s (pc' := 96) (L' := [some (vR (some 32)), some (vI 3)]) (st' := []) (h' := (HH zl xs nl 81 80 0)) f0_93 rfl ?_
  refine y_s (pc' := 97) (L' := [some (vR (some 32)), some (vI 3)]) (st' := [vR (some 32)]) (h' := (HH zl xs nl 81 80 0)) f0_96 rfl ?_
  refine y_s (pc' := 100) (L' := [some (vR (some 32)), some (vI 3)]) (st' := [vR (some 92)]) (h' := (HH zl xs nl 81 80 0)) f0_97 rfl ?_
  refine y_s (pc' := 101) (L' := [some (vR (some 32)), some (vI 3)]) (st' := [vI 3, vR (some 92)]) (h' := (HH zl xs nl 81 80 0)) f0_100 rfl ?_
  refine y_s (pc' := 104) (L' := [some (vR (some 32)), some (vI 3)]) (st' := [vR (some 113), vI 3, vR (some 92)]) (h' := (zmk 14 5 (HH zl xs nl 81 80 0))) f0_101 rfl ?_
  rw [HH_mk (n := 81) (w := 80) (v := 0) (kd := 14) (sz := 5) rfl rfl rfl]
  refine y_s (pc' := 105) (L' := [some (vR (some 32)), some (vI 3)]) (st' := [vR (some 113), vR (some 113), vI 3, vR (some 92)]) (h' := (HH zl xs nl 82 80 0)) f0_104 rfl ?_
  refine y_cU (pc' := 108) (as := [vR (some 113)]) (r := [vR (some 113), vI 3, vR (some 92)]) f0_105 rfl (by decide) rfl ?_
  refine ct24 ?_
  refine y_s (pc' := 109) (L' := [some (vR (some 32)), some (vI 3)]) (st' := []) (h' := (zsetP (HH zl xs nl 85 83 0) 92 3 (some 113))) f0_108 rfl ?_
  rw [HH_P (a := 92) (k := 3) (q := 113) (w := 83) rfl]
  refine y_s (pc' := 112) (L' := [some (vR (some 32)), some (vI 4)]) (st' := []) (h' := (HH zl xs nl 85 84 0)) f0_109 rfl ?_
  refine y_s (pc' := 90) (L' := [some (vR (some 32)), some (vI 4)]) (st' := []) (h' := (HH zl xs nl 85 84 0)) f0_112 rfl ?_
  refine y_s (pc' := 91) (L' := [some (vR (some 32)), some (vI 4)]) (st' := [vI 4]) (h' := (HH zl xs nl 85 84 0)) f0_90 rfl ?_
  refine y_s (pc' := 93) (L' := [some (vR (some 32)), some (vI 4)]) (st' := [vI 6, vI 4]) (h' := (HH zl xs nl 85 84 0)) f0_91 rfl ?_
  refine y_s (pc' := 96) (L' := [some (vR (some 32)), some (vI 4)]) (st' := []) (h' := (HH zl xs nl 85 84 0)) f0_93 rfl ?_
  refine y_s (pc' := 97) (L' := [some (vR (some 32)), some (vI 4)]) (st' := [vR (some 32)]) (h' := (HH zl xs nl 85 84 0)) f0_96 rfl ?_
  refine y_s (pc' := 100) (L' := [some (vR (some 32)), some (vI 4)]) (st' := [vR (some 92)]) (h' := (HH zl xs nl 85 84 0)) f0_97 rfl ?_
  refine y_s (pc' := 101) (L' := [some (vR (some 32)), some (vI 4)]) (st' := [vI 4, vR (some 92)]) (h' := (HH zl xs nl 85 84 0)) f0_100 rfl ?_
  refine y_s (pc' := 104) (L' := [some (vR (some 32)), some (vI 4)]) (st' := [vR (some 117), vI 4, vR (some 92)]) (h' := (zmk 14 5 (HH zl xs nl 85 84 0))) f0_101 rfl ?_
  rw [HH_mk (n := 85) (w := 84) (v := 0) (kd := 14) (sz := 5) rfl rfl rfl]
  refine y_s (pc' := 105) (L' := [some (vR (some 32)), some (vI 4)]) (st' := [vR (some 117), vR (some 117), vI 4, vR (some 92)]) (h' := (HH zl xs nl 86 84 0)) f0_104 rfl ?_
  refine y_cU (pc' := 108) (as := [vR (some 117)]) (r := [vR (some 117), vI 4, vR (some 92)]) f0_105 rfl (by decide) rfl ?_
  refine ct25 ?_
  refine y_s (pc' := 109) (L' := [some (vR (some 32)), some (vI 4)]) (st' := []) (h' := (zsetP (HH zl xs nl 89 87 0) 92 4 (some 117))) f0_108 rfl ?_
  rw [HH_P (a := 92) (k := 4) (q := 117) (w := 87) rfl]
  refine y_s (pc' := 112) (L' := [some (vR (some 32)), some (vI 5)]) (st' := []) (h' := (HH zl xs nl 89 88 0)) f0_109 rfl ?_
  refine y_s (pc' := 90) (L' := [some (vR (some 32)), some (vI 5)]) (st' := []) (h' := (HH zl xs nl 89 88 0)) f0_112 rfl ?_
  refine y_s (pc' := 91) (L' := [some (vR (some 32)), some (vI 5)]) (st' := [vI 5]) (h' := (HH zl xs nl 89 88 0)) f0_90 rfl ?_
  refine y_s (pc' := 93) (L' := [some (vR (some 32)), some (vI 5)]) (st' := [vI 6, vI 5]) (h' := (HH zl xs nl 89 88 0)) f0_91 rfl ?_
  refine y_s (pc' := 96) (L' := [some (vR (some 32)), some (vI 5)]) (st' := []) (h' := (HH zl xs nl 89 88 0)) f0_93 rfl ?_
  refine y_s (pc' := 97) (L' := [some (vR (some 32)), some (vI 5)]) (st' := [vR (some 32)]) (h' := (HH zl xs nl 89 88 0)) f0_96 rfl ?_
  refine y_s (pc' := 100) (L' := [some (vR (some 32)), some (vI 5)]) (st' := [vR (some 92)]) (h' := (HH zl xs nl 89 88 0)) f0_97 rfl ?_
  refine y_s (pc' := 101) (L' := [some (vR (some 32)), some (vI 5)]) (st' := [vI 5, vR (some 92)]) (h' := (HH zl xs nl 89 88 0)) f0_100 rfl ?_
  refine y_s (pc' := 104) (L' := [some (vR (some 32)), some (vI 5)]) (st' := [vR (some 121), vI 5, vR (some 92)]) (h' := (zmk 14 5 (HH zl xs nl 89 88 0))) f0_101 rfl ?_
  rw [HH_mk (n := 89) (w := 88) (v := 0) (kd := 14) (sz := 5) rfl rfl rfl]
  refine y_s (pc' := 105) (L' := [some (vR (some 32)), some (vI 5)]) (st' := [vR (some 121), vR (some 121), vI 5, vR (some 92)]) (h' := (HH zl xs nl 90 88 0)) f0_104 rfl ?_
  refine y_cU (pc' := 108) (as := [vR (some 121)]) (r := [vR (some 121), vI 5, vR (some 92)]) f0_105 rfl (by decide) rfl ?_
  refine ct26 ?_
  refine y_s (pc' := 109) (L' := [some (vR (some 32)), some (vI 5)]) (st' := []) (h' := (zsetP (HH zl xs nl 93 91 0) 92 5 (some 121))) f0_108 rfl ?_
  rw [HH_P (a := 92) (k := 5) (q := 121) (w := 91) rfl]
  refine y_s (pc' := 112) (L' := [some (vR (some 32)), some (vI 6)]) (st' := []) (h' := (HH zl xs nl 93 92 0)) f0_109 rfl ?_
  refine y_s (pc' := 90) (L' := [some (vR (some 32)), some (vI 6)]) (st' := []) (h' := (HH zl xs nl 93 92 0)) f0_112 rfl ?_
  refine y_s (pc' := 91) (L' := [some (vR (some 32)), some (vI 6)]) (st' := [vI 6]) (h' := (HH zl xs nl 93 92 0)) f0_90 rfl ?_
  refine y_s (pc' := 93) (L' := [some (vR (some 32)), some (vI 6)]) (st' := [vI 6, vI 6]) (h' := (HH zl xs nl 93 92 0)) f0_91 rfl ?_
  refine y_s (pc' := 115) (L' := [some (vR (some 32)), some (vI 6)]) (st' := []) (h' := (HH zl xs nl 93 92 0)) f0_93 rfl ?_
  refine y_s (pc' := 116) (L' := [some (vR (some 32)), some (vI 6)]) (st' := [vI 0]) (h' := (HH zl xs nl 93 92 0)) f0_115 rfl ?_
  refine y_s (pc' := 117) (L' := [some (vR (some 32)), some (vI 0)]) (st' := []) (h' := (HH zl xs nl 93 92 0)) f0_116 rfl ?_
  refine y_s (pc' := 118) (L' := [some (vR (some 32)), some (vI 0)]) (st' := [vI 0]) (h' := (HH zl xs nl 93 92 0)) f0_117 rfl ?_
  refine y_s (pc' := 120) (L' := [some (vR (some 32)), some (vI 0)]) (st' := [vI 6, vI 0]) (h' := (HH zl xs nl 93 92 0)) f0_118 rfl ?_
  refine y_s (pc' := 123) (L' := [some (vR (some 32)), some (vI 0)]) (st' := []) (h' := (HH zl xs nl 93 92 0)) f0_120 rfl ?_
  refine y_s (pc' := 124) (L' := [some (vR (some 32)), some (vI 0)]) (st' := [vR (some 32)]) (h' := (HH zl xs nl 93 92 0)) f0_123 rfl ?_
  refine y_s (pc' := 127) (L' := [some (vR (some 32)), some (vI 0)]) (st' := [vR (some 93)]) (h' := (HH zl xs nl 93 92 0)) f0_124 rfl ?_
  refine y_s (pc' := 128) (L' := [some (vR (some 32)), some (vI 0)]) (st' := [vI 0, vR (some 93)]) (h' := (HH zl xs nl 93 92 0)) f0_127 rfl ?_
  refine y_s (pc' := 131) (L' := [some (vR (some 32)), some (vI 0)]) (st' := [vR (some 125), vI 0, vR (some 93)]) (h' := (zmk 15 3 (HH zl xs nl 93 92 0))) f0_128 rfl ?_
  rw [HH_mk (n := 93) (w := 92) (v := 0) (kd := 15) (sz := 3) rfl rfl rfl]
  refine y_s (pc' := 132) (L' := [some (vR (some 32)), some (vI 0)]) (st' := [vR (some 125), vR (some 125), vI 0, vR (some 93)]) (h' := (HH zl xs nl 94 92 0)) f0_131 rfl ?_
  refine y_cU (pc' := 135) (as := [vR (some 125)]) (r := [vR (some 125), vI 0, vR (some 93)]) f0_132 rfl (by decide) rfl ?_
  refine ct27 ?_
  refine y_s (pc' := 136) (L' := [some (vR (some 32)), some (vI 0)]) (st' := []) (h' := (zsetP (HH zl xs nl 95 93 1) 93 0 (some 125))) f0_135 rfl ?_
  rw [HH_P (a := 93) (k := 0) (q := 125) (w := 93) rfl]
  refine y_s (pc' := 139) (L' := [some (vR (some 32)), some (vI 1)]) (st' := []) (h' := (HH zl xs nl 95 94 1)) f0_136 rfl ?_
  refine y_s (pc' := 117) (L' := [some (vR (some 32)), some (vI 1)]) (st' := []) (h' := (HH zl xs nl 95 94 1)) f0_139 rfl ?_
  refine y_s (pc' := 118) (L' := [some (vR (some 32)), some (vI 1)]) (st' := [vI 1]) (h' := (HH zl xs nl 95 94 1)) f0_117 rfl ?_
  refine y_s (pc' := 120) (L' := [some (vR (some 32)), some (vI 1)]) (st' := [vI 6, vI 1]) (h' := (HH zl xs nl 95 94 1)) f0_118 rfl ?_
  refine y_s (pc' := 123) (L' := [some (vR (some 32)), some (vI 1)]) (st' := []) (h' := (HH zl xs nl 95 94 1)) f0_120 rfl ?_
  refine y_s (pc' := 124) (L' := [some (vR (some 32)), some (vI 1)]) (st' := [vR (some 32)]) (h' := (HH zl xs nl 95 94 1)) f0_123 rfl ?_
  refine y_s (pc' := 127) (L' := [some (vR (some 32)), some (vI 1)]) (st' := [vR (some 93)]) (h' := (HH zl xs nl 95 94 1)) f0_124 rfl ?_
  refine y_s (pc' := 128) (L' := [some (vR (some 32)), some (vI 1)]) (st' := [vI 1, vR (some 93)]) (h' := (HH zl xs nl 95 94 1)) f0_127 rfl ?_
  refine y_s (pc' := 131) (L' := [some (vR (some 32)), some (vI 1)]) (st' := [vR (some 127), vI 1, vR (some 93)]) (h' := (zmk 15 3 (HH zl xs nl 95 94 1))) f0_128 rfl ?_
  rw [HH_mk (n := 95) (w := 94) (v := 1) (kd := 15) (sz := 3) rfl rfl rfl]
  refine y_s (pc' := 132) (L' := [some (vR (some 32)), some (vI 1)]) (st' := [vR (some 127), vR (some 127), vI 1, vR (some 93)]) (h' := (HH zl xs nl 96 94 1)) f0_131 rfl ?_
  refine y_cU (pc' := 135) (as := [vR (some 127)]) (r := [vR (some 127), vI 1, vR (some 93)]) f0_132 rfl (by decide) rfl ?_
  refine ct28 ?_
  refine y_s (pc' := 136) (L' := [some (vR (some 32)), some (vI 1)]) (st' := []) (h' := (zsetP (HH zl xs nl 97 95 2) 93 1 (some 127))) f0_135 rfl ?_
  rw [HH_P (a := 93) (k := 1) (q := 127) (w := 95) rfl]
  refine y_s (pc' := 139) (L' := [some (vR (some 32)), some (vI 2)]) (st' := []) (h' := (HH zl xs nl 97 96 2)) f0_136 rfl ?_
  refine y_s (pc' := 117) (L' := [some (vR (some 32)), some (vI 2)]) (st' := []) (h' := (HH zl xs nl 97 96 2)) f0_139 rfl ?_
  refine y_s (pc' := 118) (L' := [some (vR (some 32)), some (vI 2)]) (st' := [vI 2]) (h' := (HH zl xs nl 97 96 2)) f0_117 rfl ?_
  refine y_s (pc' := 120) (L' := [some (vR (some 32)), some (vI 2)]) (st' := [vI 6, vI 2]) (h' := (HH zl xs nl 97 96 2)) f0_118 rfl ?_
  refine y_s (pc' := 123) (L' := [some (vR (some 32)), some (vI 2)]) (st' := []) (h' := (HH zl xs nl 97 96 2)) f0_120 rfl ?_
  refine y_s (pc' := 124) (L' := [some (vR (some 32)), some (vI 2)]) (st' := [vR (some 32)]) (h' := (HH zl xs nl 97 96 2)) f0_123 rfl ?_
  refine y_s (pc' := 127) (L' := [some (vR (some 32)), some (vI 2)]) (st' := [vR (some 93)]) (h' := (HH zl xs nl 97 96 2)) f0_124 rfl ?_
  refine y_s (pc' := 128) (L' := [some (vR (some 32)), some (vI 2)]) (st' := [vI 2, vR (some 93)]) (h' := (HH zl xs nl 97 96 2)) f0_127 rfl ?_
  refine y_s (pc' := 131) (L' := [some (vR (some 32)), some (vI 2)]) (st' := [vR (some 129), vI 2, vR (some 93)]) (h' := (zmk 15 3 (HH zl xs nl 97 96 2))) f0_128 rfl ?_
  rw [HH_mk (n := 97) (w := 96) (v := 2) (kd := 15) (sz := 3) rfl rfl rfl]
  refine y_s (pc' := 132) (L' := [some (vR (some 32)), some (vI 2)]) (st' := [vR (some 129), vR (some 129), vI 2, vR (some 93)]) (h' := (HH zl xs nl 98 96 2)) f0_131 rfl ?_
  refine y_cU (pc' := 135) (as := [vR (some 129)]) (r := [vR (some 129), vI 2, vR (some 93)]) f0_132 rfl (by decide) rfl ?_
  refine ct29 ?_
  refine y_s (pc' := 136) (L' := [some (vR (some 32)), some (vI 2)]) (st' := []) (h' := (zsetP (HH zl xs nl 99 97 3) 93 2 (some 129))) f0_135 rfl ?_
  rw [HH_P (a := 93) (k := 2) (q := 129) (w := 97) rfl]
  refine y_s (pc' := 139) (L' := [some (vR (some 32)), some (vI 3)]) (st' := []) (h' := (HH zl xs nl 99 98 3)) f0_136 rfl ?_
  refine y_s (pc' := 117) (L' := [some (vR (some 32)), some (vI 3)]) (st' := []) (h' := (HH zl xs nl 99 98 3)) f0_139 rfl ?_
  refine y_s (pc' := 118) (L' := [some (vR (some 32)), some (vI 3)]) (st' := [vI 3]) (h' := (HH zl xs nl 99 98 3)) f0_117 rfl ?_
  refine y_s (pc' := 120) (L' := [some (vR (some 32)), some (vI 3)]) (st' := [vI 6, vI 3]) (h' := (HH zl xs nl 99 98 3)) f0_118 rfl ?_
  refine y_s (pc' := 123) (L' := [some (vR (some 32)), some (vI 3)]) (st' := []) (h' := (HH zl xs nl 99 98 3)) f0_120 rfl ?_
  refine y_s (pc' := 124) (L' := [some (vR (some 32)), some (vI 3)]) (st' := [vR (some 32)]) (h' := (HH zl xs nl 99 98 3)) f0_123 rfl ?_
  refine y_s (pc' := 127) (L' := [some (vR (some 32)), some (vI 3)]) (st' := [vR (some 93)]) (h' := (HH zl xs nl 99 98 3)) f0_124 rfl ?_
  refine y_s (pc' := 128) (L' := [some (vR (some 32)), some (vI 3)]) (st' := [vI 3, vR (some 93)]) (h' := (HH zl xs nl 99 98 3)) f0_127 rfl ?_
  refine y_s (pc' := 131) (L' := [some (vR (some 32)), some (vI 3)]) (st' := [vR (some 131), vI 3, vR (some 93)]) (h' := (zmk 15 3 (HH zl xs nl 99 98 3))) f0_128 rfl ?_
  rw [HH_mk (n := 99) (w := 98) (v := 3) (kd := 15) (sz := 3) rfl rfl rfl]
  refine y_s (pc' := 132) (L' := [some (vR (some 32)), some (vI 3)]) (st' := [vR (some 131), vR (some 131), vI 3, vR (some 93)]) (h' := (HH zl xs nl 100 98 3)) f0_131 rfl ?_
  refine y_cU (pc' := 135) (as := [vR (some 131)]) (r := [vR (some 131), vI 3, vR (some 93)]) f0_132 rfl (by decide) rfl ?_
  refine ct30 ?_
  refine y_s (pc' := 136) (L' := [some (vR (some 32)), some (vI 3)]) (st' := []) (h' := (zsetP (HH zl xs nl 101 99 4) 93 3 (some 131))) f0_135 rfl ?_
  rw [HH_P (a := 93) (k := 3) (q := 131) (w := 99) rfl]
  refine y_s (pc' := 139) (L' := [some (vR (some 32)), some (vI 4)]) (st' := []) (h' := (HH zl xs nl 101 100 4)) f0_136 rfl ?_
  refine y_s (pc' := 117) (L' := [some (vR (some 32)), some (vI 4)]) (st' := []) (h' := (HH zl xs nl 101 100 4)) f0_139 rfl ?_
  refine y_s (pc' := 118) (L' := [some (vR (some 32)), some (vI 4)]) (st' := [vI 4]) (h' := (HH zl xs nl 101 100 4)) f0_117 rfl ?_
  refine y_s (pc' := 120) (L' := [some (vR (some 32)), some (vI 4)]) (st' := [vI 6, vI 4]) (h' := (HH zl xs nl 101 100 4)) f0_118 rfl ?_
  refine y_s (pc' := 123) (L' := [some (vR (some 32)), some (vI 4)]) (st' := []) (h' := (HH zl xs nl 101 100 4)) f0_120 rfl ?_
  refine y_s (pc' := 124) (L' := [some (vR (some 32)), some (vI 4)]) (st' := [vR (some 32)]) (h' := (HH zl xs nl 101 100 4)) f0_123 rfl ?_
  refine y_s (pc' := 127) (L' := [some (vR (some 32)), some (vI 4)]) (st' := [vR (some 93)]) (h' := (HH zl xs nl 101 100 4)) f0_124 rfl ?_
  refine y_s (pc' := 128) (L' := [some (vR (some 32)), some (vI 4)]) (st' := [vI 4, vR (some 93)]) (h' := (HH zl xs nl 101 100 4)) f0_127 rfl ?_
  refine y_s (pc' := 131) (L' := [some (vR (some 32)), some (vI 4)]) (st' := [vR (some 133), vI 4, vR (some 93)]) (h' := (zmk 15 3 (HH zl xs nl 101 100 4))) f0_128 rfl ?_
  rw [HH_mk (n := 101) (w := 100) (v := 4) (kd := 15) (sz := 3) rfl rfl rfl]
  refine y_s (pc' := 132) (L' := [some (vR (some 32)), some (vI 4)]) (st' := [vR (some 133), vR (some 133), vI 4, vR (some 93)]) (h' := (HH zl xs nl 102 100 4)) f0_131 rfl ?_
  refine y_cU (pc' := 135) (as := [vR (some 133)]) (r := [vR (some 133), vI 4, vR (some 93)]) f0_132 rfl (by decide) rfl ?_
  refine ct31 ?_
  refine y_s (pc' := 136) (L' := [some (vR (some 32)), some (vI 4)]) (st' := []) (h' := (zsetP (HH zl xs nl 103 101 5) 93 4 (some 133))) f0_135 rfl ?_
  rw [HH_P (a := 93) (k := 4) (q := 133) (w := 101) rfl]
  refine y_s (pc' := 139) (L' := [some (vR (some 32)), some (vI 5)]) (st' := []) (h' := (HH zl xs nl 103 102 5)) f0_136 rfl ?_
  refine y_s (pc' := 117) (L' := [some (vR (some 32)), some (vI 5)]) (st' := []) (h' := (HH zl xs nl 103 102 5)) f0_139 rfl ?_
  refine y_s (pc' := 118) (L' := [some (vR (some 32)), some (vI 5)]) (st' := [vI 5]) (h' := (HH zl xs nl 103 102 5)) f0_117 rfl ?_
  refine y_s (pc' := 120) (L' := [some (vR (some 32)), some (vI 5)]) (st' := [vI 6, vI 5]) (h' := (HH zl xs nl 103 102 5)) f0_118 rfl ?_
  refine y_s (pc' := 123) (L' := [some (vR (some 32)), some (vI 5)]) (st' := []) (h' := (HH zl xs nl 103 102 5)) f0_120 rfl ?_
  refine y_s (pc' := 124) (L' := [some (vR (some 32)), some (vI 5)]) (st' := [vR (some 32)]) (h' := (HH zl xs nl 103 102 5)) f0_123 rfl ?_
  refine y_s (pc' := 127) (L' := [some (vR (some 32)), some (vI 5)]) (st' := [vR (some 93)]) (h' := (HH zl xs nl 103 102 5)) f0_124 rfl ?_
  refine y_s (pc' := 128) (L' := [some (vR (some 32)), some (vI 5)]) (st' := [vI 5, vR (some 93)]) (h' := (HH zl xs nl 103 102 5)) f0_127 rfl ?_
  refine y_s (pc' := 131) (L' := [some (vR (some 32)), some (vI 5)]) (st' := [vR (some 135), vI 5, vR (some 93)]) (h' := (zmk 15 3 (HH zl xs nl 103 102 5))) f0_128 rfl ?_
  rw [HH_mk (n := 103) (w := 102) (v := 5) (kd := 15) (sz := 3) rfl rfl rfl]
  refine y_s (pc' := 132) (L' := [some (vR (some 32)), some (vI 5)]) (st' := [vR (some 135), vR (some 135), vI 5, vR (some 93)]) (h' := (HH zl xs nl 104 102 5)) f0_131 rfl ?_
  refine y_cU (pc' := 135) (as := [vR (some 135)]) (r := [vR (some 135), vI 5, vR (some 93)]) f0_132 rfl (by decide) rfl ?_
  refine ct32 ?_
  refine y_s (pc' := 136) (L' := [some (vR (some 32)), some (vI 5)]) (st' := []) (h' := (zsetP (HH zl xs nl 105 103 6) 93 5 (some 135))) f0_135 rfl ?_
  rw [HH_P (a := 93) (k := 5) (q := 135) (w := 103) rfl]
  refine y_s (pc' := 139) (L' := [some (vR (some 32)), some (vI 6)]) (st' := []) (h' := (HH zl xs nl 105 104 6)) f0_136 rfl ?_
  refine y_s (pc' := 117) (L' := [some (vR (some 32)), some (vI 6)]) (st' := []) (h' := (HH zl xs nl 105 104 6)) f0_139 rfl ?_
  refine y_s (pc' := 118) (L' := [some (vR (some 32)), some (vI 6)]) (st' := [vI 6]) (h' := (HH zl xs nl 105 104 6)) f0_117 rfl ?_
  refine y_s (pc' := 120) (L' := [some (vR (some 32)), some (vI 6)]) (st' := [vI 6, vI 6]) (h' := (HH zl xs nl 105 104 6)) f0_118 rfl ?_
  refine y_s (pc' := 142) (L' := [some (vR (some 32)), some (vI 6)]) (st' := []) (h' := (HH zl xs nl 105 104 6)) f0_120 rfl ?_
  exact y_ru f0_142 ⟨rfl, k⟩
theorem ct34 {K : Hp → Prop} (k : K (HH zl xs nl 138 136 13)) : yU 39 127 [vR (some 137)] (HH zl xs nl 106 104 6) K := by
  refine y_en (L := [some (vR (some 137)), none]) rfl rfl ?_
  refine y_s (pc' := 1) (L' := [some (vR (some 137)), none]) (st' := [vR (some 137)]) (h' := (HH zl xs nl 106 104 6)) f127_0 rfl ?_
  refine y_s (pc' := 4) (L' := [some (vR (some 137)), none]) (st' := []) (h' := (HH zl xs nl 106 104 6)) f127_1 rfl ?_
  refine y_s (pc' := 5) (L' := [some (vR (some 137)), none]) (st' := [vR (some 137)]) (h' := (HH zl xs nl 106 104 6)) f127_4 rfl ?_
  refine y_s (pc' := 7) (L' := [some (vR (some 137)), none]) (st' := [vI 6, vR (some 137)]) (h' := (HH zl xs nl 106 104 6)) f127_5 rfl ?_
  refine y_s (pc' := 9) (L' := [some (vR (some 137)), none]) (st' := [vR (some 138), vR (some 137)]) (h' := (zmk 1 6 (HH zl xs nl 106 104 6))) f127_7 rfl ?_
  rw [HH_mk (n := 106) (w := 104) (v := 6) (kd := 1) (sz := 6) rfl rfl rfl]
  refine y_s (pc' := 12) (L' := [some (vR (some 137)), none]) (st' := []) (h' := (zsetP (HH zl xs nl 107 104 6) 137 1 (some 138))) f127_9 rfl ?_
  rw [HH_P (a := 137) (k := 1) (q := 138) (w := 104) rfl]
  refine y_s (pc' := 13) (L' := [some (vR (some 137)), none]) (st' := [vR (some 137)]) (h' := (HH zl xs nl 107 105 6)) f127_12 rfl ?_
  refine y_s (pc' := 15) (L' := [some (vR (some 137)), none]) (st' := [vI 6, vR (some 137)]) (h' := (HH zl xs nl 107 105 6)) f127_13 rfl ?_
  refine y_s (pc' := 17) (L' := [some (vR (some 137)), none]) (st' := [vR (some 139), vR (some 137)]) (h' := (zmk 1 6 (HH zl xs nl 107 105 6))) f127_15 rfl ?_
  rw [HH_mk (n := 107) (w := 105) (v := 6) (kd := 1) (sz := 6) rfl rfl rfl]
  refine y_s (pc' := 20) (L' := [some (vR (some 137)), none]) (st' := []) (h' := (zsetP (HH zl xs nl 108 105 6) 137 2 (some 139))) f127_17 rfl ?_
  rw [HH_P (a := 137) (k := 2) (q := 139) (w := 105) rfl]
  refine y_s (pc' := 21) (L' := [some (vR (some 137)), none]) (st' := [vR (some 137)]) (h' := (HH zl xs nl 108 106 6)) f127_20 rfl ?_
  refine y_s (pc' := 23) (L' := [some (vR (some 137)), none]) (st' := [vI 36, vR (some 137)]) (h' := (HH zl xs nl 108 106 6)) f127_21 rfl ?_
  refine y_s (pc' := 25) (L' := [some (vR (some 137)), none]) (st' := [vR (some 140), vR (some 137)]) (h' := (zmk 1 36 (HH zl xs nl 108 106 6))) f127_23 rfl ?_
  rw [HH_mk (n := 108) (w := 106) (v := 6) (kd := 1) (sz := 36) rfl rfl rfl]
  refine y_s (pc' := 28) (L' := [some (vR (some 137)), none]) (st' := []) (h' := (zsetP (HH zl xs nl 109 106 6) 137 3 (some 140))) f127_25 rfl ?_
  rw [HH_P (a := 137) (k := 3) (q := 140) (w := 106) rfl]
  refine y_s (pc' := 29) (L' := [some (vR (some 137)), none]) (st' := [vR (some 137)]) (h' := (HH zl xs nl 109 107 6)) f127_28 rfl ?_
  refine y_s (pc' := 31) (L' := [some (vR (some 137)), none]) (st' := [vI 6, vR (some 137)]) (h' := (HH zl xs nl 109 107 6)) f127_29 rfl ?_
  refine y_s (pc' := 33) (L' := [some (vR (some 137)), none]) (st' := [vR (some 141), vR (some 137)]) (h' := (zmk 1 6 (HH zl xs nl 109 107 6))) f127_31 rfl ?_
  rw [HH_mk (n := 109) (w := 107) (v := 6) (kd := 1) (sz := 6) rfl rfl rfl]
  refine y_s (pc' := 36) (L' := [some (vR (some 137)), none]) (st' := []) (h' := (zsetP (HH zl xs nl 110 107 6) 137 4 (some 141))) f127_33 rfl ?_
  rw [HH_P (a := 137) (k := 4) (q := 141) (w := 107) rfl]
  refine y_s (pc' := 37) (L' := [some (vR (some 137)), none]) (st' := [vR (some 137)]) (h' := (HH zl xs nl 110 108 6)) f127_36 rfl ?_
  refine y_s (pc' := 39) (L' := [some (vR (some 137)), none]) (st' := [vI 24, vR (some 137)]) (h' := (HH zl xs nl 110 108 6)) f127_37 rfl ?_
  refine y_s (pc' := 41) (L' := [some (vR (some 137)), none]) (st' := [vR (some 142), vR (some 137)]) (h' := (zmk 1 24 (HH zl xs nl 110 108 6))) f127_39 rfl ?_
  rw [HH_mk (n := 110) (w := 108) (v := 6) (kd := 1) (sz := 24) rfl rfl rfl]
  refine y_s (pc' := 44) (L' := [some (vR (some 137)), none]) (st' := []) (h' := (zsetP (HH zl xs nl 111 108 6) 137 5 (some 142))) f127_41 rfl ?_
  rw [HH_P (a := 137) (k := 5) (q := 142) (w := 108) rfl]
  refine y_s (pc' := 45) (L' := [some (vR (some 137)), none]) (st' := [vR (some 137)]) (h' := (HH zl xs nl 111 109 6)) f127_44 rfl ?_
  refine y_s (pc' := 47) (L' := [some (vR (some 137)), none]) (st' := [vI 8, vR (some 137)]) (h' := (HH zl xs nl 111 109 6)) f127_45 rfl ?_
  refine y_s (pc' := 49) (L' := [some (vR (some 137)), none]) (st' := [vR (some 143), vR (some 137)]) (h' := (zmk 1 8 (HH zl xs nl 111 109 6))) f127_47 rfl ?_
  rw [HH_mk (n := 111) (w := 109) (v := 6) (kd := 1) (sz := 8) rfl rfl rfl]
  refine y_s (pc' := 52) (L' := [some (vR (some 137)), none]) (st' := []) (h' := (zsetP (HH zl xs nl 112 109 6) 137 7 (some 143))) f127_49 rfl ?_
  rw [HH_P (a := 137) (k := 7) (q := 143) (w := 109) rfl]
  refine y_s (pc' := 53) (L' := [some (vR (some 137)), none]) (st' := [vR (some 137)]) (h' := (HH zl xs nl 112 110 6)) f127_52 rfl ?_
  refine y_s (pc' := 55) (L' := [some (vR (some 137)), none]) (st' := [vI 100, vR (some 137)]) (h' := (HH zl xs nl 112 110 6)) f127_53 rfl ?_
  refine y_s (pc' := 57) (L' := [some (vR (some 137)), none]) (st' := [vR (some 144), vR (some 137)]) (h' := (zmk 1 100 (HH zl xs nl 112 110 6))) f127_55 rfl ?_
  rw [HH_mk (n := 112) (w := 110) (v := 6) (kd := 1) (sz := 100) rfl rfl rfl]
  refine y_s (pc' := 60) (L' := [some (vR (some 137)), none]) (st' := []) (h' := (zsetP (HH zl xs nl 113 110 6) 137 10 (some 144))) f127_57 rfl ?_
  rw [HH_P (a := 137) (k := 10) (q := 144) (w := 110) rfl]
  refine y_s (pc' := 61) (L' := [some (vR (some 137)), none]) (st' := [vR (some 137)]) (h' := (HH zl xs nl 113 111 6)) f127_60 rfl ?_
  refine y_s (pc' := 63) (L' := [some (vR (some 137)), none]) (st' := [vI 6, vR (some 137)]) (h' := (HH zl xs nl 113 111 6)) f127_61 rfl ?_
  refine y_s (pc' := 65) (L' := [some (vR (some 137)), none]) (st' := [vR (some 145), vR (some 137)]) (h' := (zmk 1 6 (HH zl xs nl 113 111 6))) f127_63 rfl ?_
  rw [HH_mk (n := 113) (w := 111) (v := 6) (kd := 1) (sz := 6) rfl rfl rfl]
  refine y_s (pc' := 68) (L' := [some (vR (some 137)), none]) (st' := []) (h' := (zsetP (HH zl xs nl 114 111 6) 137 17 (some 145))) f127_65 rfl ?_
  rw [HH_P (a := 137) (k := 17) (q := 145) (w := 111) rfl]
  refine y_s (pc' := 69) (L' := [some (vR (some 137)), none]) (st' := [vR (some 137)]) (h' := (HH zl xs nl 114 112 6)) f127_68 rfl ?_
  refine y_s (pc' := 71) (L' := [some (vR (some 137)), none]) (st' := [vI 61, vR (some 137)]) (h' := (HH zl xs nl 114 112 6)) f127_69 rfl ?_
  refine y_s (pc' := 73) (L' := [some (vR (some 137)), none]) (st' := [vR (some 146), vR (some 137)]) (h' := (zmk 1 61 (HH zl xs nl 114 112 6))) f127_71 rfl ?_
  rw [HH_mk (n := 114) (w := 112) (v := 6) (kd := 1) (sz := 61) rfl rfl rfl]
  refine y_s (pc' := 76) (L' := [some (vR (some 137)), none]) (st' := []) (h' := (zsetP (HH zl xs nl 115 112 6) 137 18 (some 146))) f127_73 rfl ?_
  rw [HH_P (a := 137) (k := 18) (q := 146) (w := 112) rfl]
  refine y_s (pc' := 77) (L' := [some (vR (some 137)), none]) (st' := [vR (some 137)]) (h' := (HH zl xs nl 115 113 6)) f127_76 rfl ?_
  refine y_s (pc' := 79) (L' := [some (vR (some 137)), none]) (st' := [vI 61, vR (some 137)]) (h' := (HH zl xs nl 115 113 6)) f127_77 rfl ?_
  refine y_s (pc' := 81) (L' := [some (vR (some 137)), none]) (st' := [vR (some 147), vR (some 137)]) (h' := (zmk 1 61 (HH zl xs nl 115 113 6))) f127_79 rfl ?_
  rw [HH_mk (n := 115) (w := 113) (v := 6) (kd := 1) (sz := 61) rfl rfl rfl]
  refine y_s (pc' := 84) (L' := [some (vR (some 137)), none]) (st' := []) (h' := (zsetP (HH zl xs nl 116 113 6) 137 19 (some 147))) f127_81 rfl ?_
  rw [HH_P (a := 137) (k := 19) (q := 147) (w := 113) rfl]
  refine y_s (pc' := 85) (L' := [some (vR (some 137)), none]) (st' := [vR (some 137)]) (h' := (HH zl xs nl 116 114 6)) f127_84 rfl ?_
  refine y_s (pc' := 87) (L' := [some (vR (some 137)), none]) (st' := [vI 61, vR (some 137)]) (h' := (HH zl xs nl 116 114 6)) f127_85 rfl ?_
  refine y_s (pc' := 89) (L' := [some (vR (some 137)), none]) (st' := [vR (some 148), vR (some 137)]) (h' := (zmk 1 61 (HH zl xs nl 116 114 6))) f127_87 rfl ?_
  rw [HH_mk (n := 116) (w := 114) (v := 6) (kd := 1) (sz := 61) rfl rfl rfl]
  refine y_s (pc' := 92) (L' := [some (vR (some 137)), none]) (st' := []) (h' := (zsetP (HH zl xs nl 117 114 6) 137 20 (some 148))) f127_89 rfl ?_
  rw [HH_P (a := 137) (k := 20) (q := 148) (w := 114) rfl]
  refine y_s (pc' := 93) (L' := [some (vR (some 137)), none]) (st' := [vR (some 137)]) (h' := (HH zl xs nl 117 115 6)) f127_92 rfl ?_
  refine y_s (pc' := 95) (L' := [some (vR (some 137)), none]) (st' := [vI 61, vR (some 137)]) (h' := (HH zl xs nl 117 115 6)) f127_93 rfl ?_
  refine y_s (pc' := 97) (L' := [some (vR (some 137)), none]) (st' := [vR (some 149), vR (some 137)]) (h' := (zmk 1 61 (HH zl xs nl 117 115 6))) f127_95 rfl ?_
  rw [HH_mk (n := 117) (w := 115) (v := 6) (kd := 1) (sz := 61) rfl rfl rfl]
  refine y_s (pc' := 100) (L' := [some (vR (some 137)), none]) (st' := []) (h' := (zsetP (HH zl xs nl 118 115 6) 137 21 (some 149))) f127_97 rfl ?_
  rw [HH_P (a := 137) (k := 21) (q := 149) (w := 115) rfl]
  refine y_s (pc' := 101) (L' := [some (vR (some 137)), none]) (st' := [vR (some 137)]) (h' := (HH zl xs nl 118 116 6)) f127_100 rfl ?_
  refine y_s (pc' := 104) (L' := [some (vR (some 137)), none]) (st' := [vI 800, vR (some 137)]) (h' := (HH zl xs nl 118 116 6)) f127_101 rfl ?_
  refine y_s (pc' := 106) (L' := [some (vR (some 137)), none]) (st' := [vR (some 150), vR (some 137)]) (h' := (zmk 1 800 (HH zl xs nl 118 116 6))) f127_104 rfl ?_
  rw [HH_mk (n := 118) (w := 116) (v := 6) (kd := 1) (sz := 800) rfl rfl rfl]
  refine y_s (pc' := 109) (L' := [some (vR (some 137)), none]) (st' := []) (h' := (zsetP (HH zl xs nl 119 116 6) 137 22 (some 150))) f127_106 rfl ?_
  rw [HH_P (a := 137) (k := 22) (q := 150) (w := 116) rfl]
  refine y_s (pc' := 110) (L' := [some (vR (some 137)), none]) (st' := [vR (some 137)]) (h' := (HH zl xs nl 119 117 6)) f127_109 rfl ?_
  refine y_s (pc' := 112) (L' := [some (vR (some 137)), none]) (st' := [vI 110, vR (some 137)]) (h' := (HH zl xs nl 119 117 6)) f127_110 rfl ?_
  refine y_s (pc' := 114) (L' := [some (vR (some 137)), none]) (st' := [vR (some 151), vR (some 137)]) (h' := (zmk 2 110 (HH zl xs nl 119 117 6))) f127_112 rfl ?_
  rw [HH_mk (n := 119) (w := 117) (v := 6) (kd := 2) (sz := 110) rfl rfl rfl]
  refine y_s (pc' := 117) (L' := [some (vR (some 137)), none]) (st' := []) (h' := (zsetP (HH zl xs nl 120 117 6) 137 24 (some 151))) f127_114 rfl ?_
  rw [HH_P (a := 137) (k := 24) (q := 151) (w := 117) rfl]
  refine y_s (pc' := 118) (L' := [some (vR (some 137)), none]) (st' := [vR (some 137)]) (h' := (HH zl xs nl 120 118 6)) f127_117 rfl ?_
  refine y_s (pc' := 119) (L' := [some (vR (some 137)), none]) (st' := [vI 5, vR (some 137)]) (h' := (HH zl xs nl 120 118 6)) f127_118 rfl ?_
  refine y_s (pc' := 121) (L' := [some (vR (some 137)), none]) (st' := [vR (some 152), vR (some 137)]) (h' := (zmk 1 5 (HH zl xs nl 120 118 6))) f127_119 rfl ?_
  rw [HH_mk (n := 120) (w := 118) (v := 6) (kd := 1) (sz := 5) rfl rfl rfl]
  refine y_s (pc' := 124) (L' := [some (vR (some 137)), none]) (st' := []) (h' := (zsetP (HH zl xs nl 121 118 6) 137 26 (some 152))) f127_121 rfl ?_
  rw [HH_P (a := 137) (k := 26) (q := 152) (w := 118) rfl]
  refine y_s (pc' := 125) (L' := [some (vR (some 137)), none]) (st' := [vR (some 137)]) (h' := (HH zl xs nl 121 119 6)) f127_124 rfl ?_
  refine y_s (pc' := 126) (L' := [some (vR (some 137)), none]) (st' := [vI 5, vR (some 137)]) (h' := (HH zl xs nl 121 119 6)) f127_125 rfl ?_
  refine y_s (pc' := 128) (L' := [some (vR (some 137)), none]) (st' := [vR (some 153), vR (some 137)]) (h' := (zmk 1 5 (HH zl xs nl 121 119 6))) f127_126 rfl ?_
  rw [HH_mk (n := 121) (w := 119) (v := 6) (kd := 1) (sz := 5) rfl rfl rfl]
  refine y_s (pc' := 131) (L' := [some (vR (some 137)), none]) (st' := []) (h' := (zsetP (HH zl xs nl 122 119 6) 137 27 (some 153))) f127_128 rfl ?_
  rw [HH_P (a := 137) (k := 27) (q := 153) (w := 119) rfl]
  refine y_s (pc' := 132) (L' := [some (vR (some 137)), none]) (st' := [vR (some 137)]) (h' := (HH zl xs nl 122 120 6)) f127_131 rfl ?_
  refine y_s (pc' := 133) (L' := [some (vR (some 137)), none]) (st' := [vI 5, vR (some 137)]) (h' := (HH zl xs nl 122 120 6)) f127_132 rfl ?_
  refine y_s (pc' := 135) (L' := [some (vR (some 137)), none]) (st' := [vR (some 154), vR (some 137)]) (h' := (zmk 1 5 (HH zl xs nl 122 120 6))) f127_133 rfl ?_
  rw [HH_mk (n := 122) (w := 120) (v := 6) (kd := 1) (sz := 5) rfl rfl rfl]
  refine y_s (pc' := 138) (L' := [some (vR (some 137)), none]) (st' := []) (h' := (zsetP (HH zl xs nl 123 120 6) 137 28 (some 154))) f127_135 rfl ?_
  rw [HH_P (a := 137) (k := 28) (q := 154) (w := 120) rfl]
  refine y_s (pc' := 139) (L' := [some (vR (some 137)), none]) (st' := [vR (some 137)]) (h' := (HH zl xs nl 123 121 6)) f127_138 rfl ?_
  refine y_s (pc' := 140) (L' := [some (vR (some 137)), none]) (st' := [vI 5, vR (some 137)]) (h' := (HH zl xs nl 123 121 6)) f127_139 rfl ?_
  refine y_s (pc' := 142) (L' := [some (vR (some 137)), none]) (st' := [vR (some 155), vR (some 137)]) (h' := (zmk 1 5 (HH zl xs nl 123 121 6))) f127_140 rfl ?_
  rw [HH_mk (n := 123) (w := 121) (v := 6) (kd := 1) (sz := 5) rfl rfl rfl]
  refine y_s (pc' := 145) (L' := [some (vR (some 137)), none]) (st' := []) (h' := (zsetP (HH zl xs nl 124 121 6) 137 29 (some 155))) f127_142 rfl ?_
  rw [HH_P (a := 137) (k := 29) (q := 155) (w := 121) rfl]
  refine y_s (pc' := 146) (L' := [some (vR (some 137)), none]) (st' := [vR (some 137)]) (h' := (HH zl xs nl 124 122 6)) f127_145 rfl ?_
  refine y_s (pc' := 148) (L' := [some (vR (some 137)), none]) (st' := [vI 10, vR (some 137)]) (h' := (HH zl xs nl 124 122 6)) f127_146 rfl ?_
  refine y_s (pc' := 150) (L' := [some (vR (some 137)), none]) (st' := [vR (some 156), vR (some 137)]) (h' := (zmk 1 10 (HH zl xs nl 124 122 6))) f127_148 rfl ?_
  rw [HH_mk (n := 124) (w := 122) (v := 6) (kd := 1) (sz := 10) rfl rfl rfl]
  refine y_s (pc' := 153) (L' := [some (vR (some 137)), none]) (st' := []) (h' := (zsetP (HH zl xs nl 125 122 6) 137 31 (some 156))) f127_150 rfl ?_
  rw [HH_P (a := 137) (k := 31) (q := 156) (w := 122) rfl]
  refine y_s (pc' := 154) (L' := [some (vR (some 137)), none]) (st' := [vR (some 137)]) (h' := (HH zl xs nl 125 123 6)) f127_153 rfl ?_
  refine y_s (pc' := 156) (L' := [some (vR (some 137)), none]) (st' := [vI 10, vR (some 137)]) (h' := (HH zl xs nl 125 123 6)) f127_154 rfl ?_
  refine y_s (pc' := 158) (L' := [some (vR (some 137)), none]) (st' := [vR (some 157), vR (some 137)]) (h' := (zmk 1 10 (HH zl xs nl 125 123 6))) f127_156 rfl ?_
  rw [HH_mk (n := 125) (w := 123) (v := 6) (kd := 1) (sz := 10) rfl rfl rfl]
  refine y_s (pc' := 161) (L' := [some (vR (some 137)), none]) (st' := []) (h' := (zsetP (HH zl xs nl 126 123 6) 137 32 (some 157))) f127_158 rfl ?_
  rw [HH_P (a := 137) (k := 32) (q := 157) (w := 123) rfl]
  refine y_s (pc' := 162) (L' := [some (vR (some 137)), none]) (st' := [vR (some 137)]) (h' := (HH zl xs nl 126 124 6)) f127_161 rfl ?_
  refine y_s (pc' := 164) (L' := [some (vR (some 137)), none]) (st' := [vI 8, vR (some 137)]) (h' := (HH zl xs nl 126 124 6)) f127_162 rfl ?_
  refine y_s (pc' := 166) (L' := [some (vR (some 137)), none]) (st' := [vR (some 158), vR (some 137)]) (h' := (zmk 1 8 (HH zl xs nl 126 124 6))) f127_164 rfl ?_
  rw [HH_mk (n := 126) (w := 124) (v := 6) (kd := 1) (sz := 8) rfl rfl rfl]
  refine y_s (pc' := 169) (L' := [some (vR (some 137)), none]) (st' := []) (h' := (zsetP (HH zl xs nl 127 124 6) 137 34 (some 158))) f127_166 rfl ?_
  rw [HH_P (a := 137) (k := 34) (q := 158) (w := 124) rfl]
  refine y_s (pc' := 170) (L' := [some (vR (some 137)), none]) (st' := [vR (some 137)]) (h' := (HH zl xs nl 127 125 6)) f127_169 rfl ?_
  refine y_s (pc' := 172) (L' := [some (vR (some 137)), none]) (st' := [vI 8, vR (some 137)]) (h' := (HH zl xs nl 127 125 6)) f127_170 rfl ?_
  refine y_s (pc' := 174) (L' := [some (vR (some 137)), none]) (st' := [vR (some 159), vR (some 137)]) (h' := (zmk 1 8 (HH zl xs nl 127 125 6))) f127_172 rfl ?_
  rw [HH_mk (n := 127) (w := 125) (v := 6) (kd := 1) (sz := 8) rfl rfl rfl]
  refine y_s (pc' := 177) (L' := [some (vR (some 137)), none]) (st' := []) (h' := (zsetP (HH zl xs nl 128 125 6) 137 35 (some 159))) f127_174 rfl ?_
  rw [HH_P (a := 137) (k := 35) (q := 159) (w := 125) rfl]
  refine y_s (pc' := 178) (L' := [some (vR (some 137)), none]) (st' := [vR (some 137)]) (h' := (HH zl xs nl 128 126 6)) f127_177 rfl ?_
  refine y_s (pc' := 180) (L' := [some (vR (some 137)), none]) (st' := [vI 20, vR (some 137)]) (h' := (HH zl xs nl 128 126 6)) f127_178 rfl ?_
  refine y_s (pc' := 182) (L' := [some (vR (some 137)), none]) (st' := [vR (some 160), vR (some 137)]) (h' := (zmk 1 20 (HH zl xs nl 128 126 6))) f127_180 rfl ?_
  rw [HH_mk (n := 128) (w := 126) (v := 6) (kd := 1) (sz := 20) rfl rfl rfl]
  refine y_s (pc' := 185) (L' := [some (vR (some 137)), none]) (st' := []) (h' := (zsetP (HH zl xs nl 129 126 6) 137 37 (some 160))) f127_182 rfl ?_
  rw [HH_P (a := 137) (k := 37) (q := 160) (w := 126) rfl]
  refine y_s (pc' := 186) (L' := [some (vR (some 137)), none]) (st' := [vR (some 137)]) (h' := (HH zl xs nl 129 127 6)) f127_185 rfl ?_
  refine y_s (pc' := 189) (L' := [some (vR (some 137)), none]) (st' := [vI 152, vR (some 137)]) (h' := (HH zl xs nl 129 127 6)) f127_186 rfl ?_
  refine y_s (pc' := 191) (L' := [some (vR (some 137)), none]) (st' := [vR (some 161), vR (some 137)]) (h' := (zmk 1 152 (HH zl xs nl 129 127 6))) f127_189 rfl ?_
  rw [HH_mk (n := 129) (w := 127) (v := 6) (kd := 1) (sz := 152) rfl rfl rfl]
  refine y_s (pc' := 194) (L' := [some (vR (some 137)), none]) (st' := []) (h' := (zsetP (HH zl xs nl 130 127 6) 137 39 (some 161))) f127_191 rfl ?_
  rw [HH_P (a := 137) (k := 39) (q := 161) (w := 127) rfl]
  refine y_s (pc' := 195) (L' := [some (vR (some 137)), none]) (st' := [vR (some 137)]) (h' := (HH zl xs nl 130 128 6)) f127_194 rfl ?_
  refine y_s (pc' := 198) (L' := [some (vR (some 137)), none]) (st' := [vI 152, vR (some 137)]) (h' := (HH zl xs nl 130 128 6)) f127_195 rfl ?_
  refine y_s (pc' := 200) (L' := [some (vR (some 137)), none]) (st' := [vR (some 162), vR (some 137)]) (h' := (zmk 1 152 (HH zl xs nl 130 128 6))) f127_198 rfl ?_
  rw [HH_mk (n := 130) (w := 128) (v := 6) (kd := 1) (sz := 152) rfl rfl rfl]
  refine y_s (pc' := 203) (L' := [some (vR (some 137)), none]) (st' := []) (h' := (zsetP (HH zl xs nl 131 128 6) 137 40 (some 162))) f127_200 rfl ?_
  rw [HH_P (a := 137) (k := 40) (q := 162) (w := 128) rfl]
  refine y_s (pc' := 204) (L' := [some (vR (some 137)), none]) (st' := [vR (some 137)]) (h' := (HH zl xs nl 131 129 6)) f127_203 rfl ?_
  refine y_s (pc' := 206) (L' := [some (vR (some 137)), none]) (st' := [vI 6, vR (some 137)]) (h' := (HH zl xs nl 131 129 6)) f127_204 rfl ?_
  refine y_s (pc' := 208) (L' := [some (vR (some 137)), none]) (st' := [vR (some 163), vR (some 137)]) (h' := (zmk 1 6 (HH zl xs nl 131 129 6))) f127_206 rfl ?_
  rw [HH_mk (n := 131) (w := 129) (v := 6) (kd := 1) (sz := 6) rfl rfl rfl]
  refine y_s (pc' := 211) (L' := [some (vR (some 137)), none]) (st' := []) (h' := (zsetP (HH zl xs nl 132 129 6) 137 41 (some 163))) f127_208 rfl ?_
  rw [HH_P (a := 137) (k := 41) (q := 163) (w := 129) rfl]
  refine y_s (pc' := 212) (L' := [some (vR (some 137)), none]) (st' := [vR (some 137)]) (h' := (HH zl xs nl 132 130 6)) f127_211 rfl ?_
  refine y_s (pc' := 214) (L' := [some (vR (some 137)), none]) (st' := [vI 6, vR (some 137)]) (h' := (HH zl xs nl 132 130 6)) f127_212 rfl ?_
  refine y_s (pc' := 216) (L' := [some (vR (some 137)), none]) (st' := [vR (some 164), vR (some 137)]) (h' := (zmk 1 6 (HH zl xs nl 132 130 6))) f127_214 rfl ?_
  rw [HH_mk (n := 132) (w := 130) (v := 6) (kd := 1) (sz := 6) rfl rfl rfl]
  refine y_s (pc' := 219) (L' := [some (vR (some 137)), none]) (st' := []) (h' := (zsetP (HH zl xs nl 133 130 6) 137 42 (some 164))) f127_216 rfl ?_
  rw [HH_P (a := 137) (k := 42) (q := 164) (w := 130) rfl]
  refine y_s (pc' := 220) (L' := [some (vR (some 137)), none]) (st' := [vR (some 137)]) (h' := (HH zl xs nl 133 131 6)) f127_219 rfl ?_
  refine y_s (pc' := 222) (L' := [some (vR (some 137)), none]) (st' := [vI 6, vR (some 137)]) (h' := (HH zl xs nl 133 131 6)) f127_220 rfl ?_
  refine y_s (pc' := 224) (L' := [some (vR (some 137)), none]) (st' := [vR (some 165), vR (some 137)]) (h' := (zmk 1 6 (HH zl xs nl 133 131 6))) f127_222 rfl ?_
  rw [HH_mk (n := 133) (w := 131) (v := 6) (kd := 1) (sz := 6) rfl rfl rfl]
  refine y_s (pc' := 227) (L' := [some (vR (some 137)), none]) (st' := []) (h' := (zsetP (HH zl xs nl 134 131 6) 137 43 (some 165))) f127_224 rfl ?_
  rw [HH_P (a := 137) (k := 43) (q := 165) (w := 131) rfl]
  refine y_s (pc' := 228) (L' := [some (vR (some 137)), none]) (st' := [vR (some 137)]) (h' := (HH zl xs nl 134 132 6)) f127_227 rfl ?_
  refine y_s (pc' := 230) (L' := [some (vR (some 137)), none]) (st' := [vI 6, vR (some 137)]) (h' := (HH zl xs nl 134 132 6)) f127_228 rfl ?_
  refine y_s (pc' := 232) (L' := [some (vR (some 137)), none]) (st' := [vR (some 166), vR (some 137)]) (h' := (zmk 1 6 (HH zl xs nl 134 132 6))) f127_230 rfl ?_
  rw [HH_mk (n := 134) (w := 132) (v := 6) (kd := 1) (sz := 6) rfl rfl rfl]
  refine y_s (pc' := 235) (L' := [some (vR (some 137)), none]) (st' := []) (h' := (zsetP (HH zl xs nl 135 132 6) 137 44 (some 166))) f127_232 rfl ?_
  rw [HH_P (a := 137) (k := 44) (q := 166) (w := 132) rfl]
  refine y_s (pc' := 236) (L' := [some (vR (some 137)), none]) (st' := [vR (some 137)]) (h' := (HH zl xs nl 135 133 6)) f127_235 rfl ?_
  refine y_s (pc' := 238) (L' := [some (vR (some 137)), none]) (st' := [vI 6, vR (some 137)]) (h' := (HH zl xs nl 135 133 6)) f127_236 rfl ?_
  refine y_s (pc' := 240) (L' := [some (vR (some 137)), none]) (st' := [vR (some 167), vR (some 137)]) (h' := (zmk 1 6 (HH zl xs nl 135 133 6))) f127_238 rfl ?_
  rw [HH_mk (n := 135) (w := 133) (v := 6) (kd := 1) (sz := 6) rfl rfl rfl]
  refine y_s (pc' := 243) (L' := [some (vR (some 137)), none]) (st' := []) (h' := (zsetP (HH zl xs nl 136 133 6) 137 46 (some 167))) f127_240 rfl ?_
  rw [HH_P (a := 137) (k := 46) (q := 167) (w := 133) rfl]
  refine y_s (pc' := 244) (L' := [some (vR (some 137)), none]) (st' := [vR (some 137)]) (h' := (HH zl xs nl 136 134 6)) f127_243 rfl ?_
  refine y_s (pc' := 246) (L' := [some (vR (some 137)), none]) (st' := [vI 6, vR (some 137)]) (h' := (HH zl xs nl 136 134 6)) f127_244 rfl ?_
  refine y_s (pc' := 248) (L' := [some (vR (some 137)), none]) (st' := [vR (some 168), vR (some 137)]) (h' := (zmk 1 6 (HH zl xs nl 136 134 6))) f127_246 rfl ?_
  rw [HH_mk (n := 136) (w := 134) (v := 6) (kd := 1) (sz := 6) rfl rfl rfl]
  refine y_s (pc' := 251) (L' := [some (vR (some 137)), none]) (st' := []) (h' := (zsetP (HH zl xs nl 137 134 6) 137 47 (some 168))) f127_248 rfl ?_
  rw [HH_P (a := 137) (k := 47) (q := 168) (w := 134) rfl]
  refine y_s (pc' := 252) (L' := [some (vR (some 137)), none]) (st' := [vR (some 137)]) (h' := (HH zl xs nl 137 135 6)) f127_251 rfl ?_
  refine y_s (pc' := 255) (L' := [some (vR (some 137)), none]) (st' := [vI 360, vR (some 137)]) (h' := (HH zl xs nl 137 135 6)) f127_252 rfl ?_
  refine y_s (pc' := 257) (L' := [some (vR (some 137)), none]) (st' := [vR (some 169), vR (some 137)]) (h' := (zmk 3 360 (HH zl xs nl 137 135 6))) f127_255 rfl ?_
  rw [HH_mk (n := 137) (w := 135) (v := 6) (kd := 3) (sz := 360) rfl rfl rfl]
  refine y_s (pc' := 260) (L' := [some (vR (some 137)), none]) (st' := []) (h' := (zsetP (HH zl xs nl 138 135 6) 137 48 (some 169))) f127_257 rfl ?_
  rw [HH_P (a := 137) (k := 48) (q := 169) (w := 135) rfl]
  refine y_s (pc' := 261) (L' := [some (vR (some 137)), none]) (st' := [vR (some 137)]) (h' := (HH zl xs nl 138 136 6)) f127_260 rfl ?_
  refine y_s (pc' := 262) (L' := [some (vR (some 137)), none]) (st' := [vI (-1), vR (some 137)]) (h' := (HH zl xs nl 138 136 6)) f127_261 rfl ?_
  refine y_s (pc' := 265) (L' := [some (vR (some 137)), none]) (st' := []) (h' := (zsetV (HH zl xs nl 138 136 6) 137 16 (-1))) f127_262 rfl ?_
  rw [HH_V (a := 137) (k := 16) (x := (-1)) (v := 6) rfl]
  refine y_s (pc' := 266) (L' := [some (vR (some 137)), none]) (st' := [vI 0]) (h' := (HH zl xs nl 138 136 7)) f127_265 rfl ?_
  refine y_s (pc' := 267) (L' := [some (vR (some 137)), some (vI 0)]) (st' := []) (h' := (HH zl xs nl 138 136 7)) f127_266 rfl ?_
  refine y_s (pc' := 268) (L' := [some (vR (some 137)), some (vI 0)]) (st' := [vI 0]) (h' := (HH zl xs nl 138 136 7)) f127_267 rfl ?_
  refine y_s (pc' := 270) (L' := [some (vR (some 137)), some (vI 0)]) (st' := [vI 6, vI 0]) (h' := (HH zl xs nl 138 136 7)) f127_268 rfl ?_
  refine y_s (pc' := 273) (L' := [some (vR (some 137)), some (vI 0)]) (st' := []) (h' := (HH zl xs nl 138 136 7)) f127_270 rfl ?_
  refine y_s (pc' := 274) (L' := [some (vR (some 137)), some (vI 0)]) (st' := [vR (some 137)]) (h' := (HH zl xs nl 138 136 7)) f127_273 rfl ?_
  refine y_s (pc' := 277) (L' := [some (vR (some 137)), some (vI 0)]) (st' := [vR (some 167)]) (h' := (HH zl xs nl 138 136 7)) f127_274 rfl ?_
  refine y_s (pc' := 278) (L' := [some (vR (some 137)), some (vI 0)]) (st' := [vI 0, vR (some 167)]) (h' := (HH zl xs nl 138 136 7)) f127_277 rfl ?_
  refine y_s (pc' := 279) (L' := [some (vR (some 137)), some (vI 0)]) (st' := [vI (-1), vI 0, vR (some 167)]) (h' := (HH zl xs nl 138 136 7)) f127_278 rfl ?_
  refine y_s (pc' := 280) (L' := [some (vR (some 137)), some (vI 0)]) (st' := []) (h' := (zsetV (HH zl xs nl 138 136 7) 167 0 (-1))) f127_279 rfl ?_
  rw [HH_V (a := 167) (k := 0) (x := (-1)) (v := 7) rfl]
  refine y_s (pc' := 283) (L' := [some (vR (some 137)), some (vI 1)]) (st' := []) (h' := (HH zl xs nl 138 136 8)) f127_280 rfl ?_
  refine y_s (pc' := 267) (L' := [some (vR (some 137)), some (vI 1)]) (st' := []) (h' := (HH zl xs nl 138 136 8)) f127_283 rfl ?_
  refine y_s (pc' := 268) (L' := [some (vR (some 137)), some (vI 1)]) (st' := [vI 1]) (h' := (HH zl xs nl 138 136 8)) f127_267 rfl ?_
  refine y_s (pc' := 270) (L' := [some (vR (some 137)), some (vI 1)]) (st' := [vI 6, vI 1]) (h' := (HH zl xs nl 138 136 8)) f127_268 rfl ?_
  refine y_s (pc' := 273) (L' := [some (vR (some 137)), some (vI 1)]) (st' := []) (h' := (HH zl xs nl 138 136 8)) f127_270 rfl ?_
  refine y_s (pc' := 274) (L' := [some (vR (some 137)), some (vI 1)]) (st' := [vR (some 137)]) (h' := (HH zl xs nl 138 136 8)) f127_273 rfl ?_
  refine y_s (pc' := 277) (L' := [some (vR (some 137)), some (vI 1)]) (st' := [vR (some 167)]) (h' := (HH zl xs nl 138 136 8)) f127_274 rfl ?_
  refine y_s (pc' := 278) (L' := [some (vR (some 137)), some (vI 1)]) (st' := [vI 1, vR (some 167)]) (h' := (HH zl xs nl 138 136 8)) f127_277 rfl ?_
  refine y_s (pc' := 279) (L' := [some (vR (some 137)), some (vI 1)]) (st' := [vI (-1), vI 1, vR (some 167)]) (h' := (HH zl xs nl 138 136 8)) f127_278 rfl ?_
  refine y_s (pc' := 280) (L' := [some (vR (some 137)), some (vI 1)]) (st' := []) (h' := (zsetV (HH zl xs nl 138 136 8) 167 1 (-1))) f127_279 rfl ?_
  rw [HH_V (a := 167) (k := 1) (x := (-1)) (v := 8) rfl]
  refine y_s (pc' := 283) (L' := [some (vR (some 137)), some (vI 2)]) (st' := []) (h' := (HH zl xs nl 138 136 9)) f127_280 rfl ?_
  refine y_s (pc' := 267) (L' := [some (vR (some 137)), some (vI 2)]) (st' := []) (h' := (HH zl xs nl 138 136 9)) f127_283 rfl ?_
  refine y_s (pc' := 268) (L' := [some (vR (some 137)), some (vI 2)]) (st' := [vI 2]) (h' := (HH zl xs nl 138 136 9)) f127_267 rfl ?_
  refine y_s (pc' := 270) (L' := [some (vR (some 137)), some (vI 2)]) (st' := [vI 6, vI 2]) (h' := (HH zl xs nl 138 136 9)) f127_268 rfl ?_
  refine y_s (pc' := 273) (L' := [some (vR (some 137)), some (vI 2)]) (st' := []) (h' := (HH zl xs nl 138 136 9)) f127_270 rfl ?_
  refine y_s (pc' := 274) (L' := [some (vR (some 137)), some (vI 2)]) (st' := [vR (some 137)]) (h' := (HH zl xs nl 138 136 9)) f127_273 rfl ?_
  refine y_s (pc' := 277) (L' := [some (vR (some 137)), some (vI 2)]) (st' := [vR (some 167)]) (h' := (HH zl xs nl 138 136 9)) f127_274 rfl ?_
  refine y_s (pc' := 278) (L' := [some (vR (some 137)), some (vI 2)]) (st' := [vI 2, vR (some 167)]) (h' := (HH zl xs nl 138 136 9)) f127_277 rfl ?_
  refine y_s (pc' := 279) (L' := [some (vR (some 137)), some (vI 2)]) (st' := [vI (-1), vI 2, vR (some 167)]) (h' := (HH zl xs nl 138 136 9)) f127_278 rfl ?_
  refine y_s (pc' := 280) (L' := [some (vR (some 137)), some (vI 2)]) (st' := []) (h' := (zsetV (HH zl xs nl 138 136 9) 167 2 (-1))) f127_279 rfl ?_
  rw [HH_V (a := 167) (k := 2) (x := (-1)) (v := 9) rfl]
  refine y_s (pc' := 283) (L' := [some (vR (some 137)), some (vI 3)]) (st' := []) (h' := (HH zl xs nl 138 136 10)) f127_280 rfl ?_
  refine y_s (pc' := 267) (L' := [some (vR (some 137)), some (vI 3)]) (st' := []) (h' := (HH zl xs nl 138 136 10)) f127_283 rfl ?_
  refine y_s (pc' := 268) (L' := [some (vR (some 137)), some (vI 3)]) (st' := [vI 3]) (h' := (HH zl xs nl 138 136 10)) f127_267 rfl ?_
  refine y_s (pc' := 270) (L' := [some (vR (some 137)), some (vI 3)]) (st' := [vI 6, vI 3]) (h' := (HH zl xs nl 138 136 10)) f127_268 rfl ?_
  refine y_s (pc' := 273) (L' := [some (vR (some 137)), some (vI 3)]) (st' := []) (h' := (HH zl xs nl 138 136 10)) f127_270 rfl ?_
  refine y_s (pc' := 274) (L' := [some (vR (some 137)), some (vI 3)]) (st' := [vR (some 137)]) (h' := (HH zl xs nl 138 136 10)) f127_273 rfl ?_
  refine y_s (pc' := 277) (L' := [some (vR (some 137)), some (vI 3)]) (st' := [vR (some 167)]) (h' := (HH zl xs nl 138 136 10)) f127_274 rfl ?_
  refine y_s (pc' := 278) (L' := [some (vR (some 137)), some (vI 3)]) (st' := [vI 3, vR (some 167)]) (h' := (HH zl xs nl 138 136 10)) f127_277 rfl ?_
  refine y_s (pc' := 279) (L' := [some (vR (some 137)), some (vI 3)]) (st' := [vI (-1), vI 3, vR (some 167)]) (h' := (HH zl xs nl 138 136 10)) f127_278 rfl ?_
  refine y_s (pc' := 280) (L' := [some (vR (some 137)), some (vI 3)]) (st' := []) (h' := (zsetV (HH zl xs nl 138 136 10) 167 3 (-1))) f127_279 rfl ?_
  rw [HH_V (a := 167) (k := 3) (x := (-1)) (v := 10) rfl]
  refine y_s (pc' := 283) (L' := [some (vR (some 137)), some (vI 4)]) (st' := []) (h' := (HH zl xs nl 138 136 11)) f127_280 rfl ?_
  refine y_s (pc' := 267) (L' := [some (vR (some 137)), some (vI 4)]) (st' := []) (h' := (HH zl xs nl 138 136 11)) f127_283 rfl ?_
  refine y_s (pc' := 268) (L' := [some (vR (some 137)), some (vI 4)]) (st' := [vI 4]) (h' := (HH zl xs nl 138 136 11)) f127_267 rfl ?_
  refine y_s (pc' := 270) (L' := [some (vR (some 137)), some (vI 4)]) (st' := [vI 6, vI 4]) (h' := (HH zl xs nl 138 136 11)) f127_268 rfl ?_
  refine y_s (pc' := 273) (L' := [some (vR (some 137)), some (vI 4)]) (st' := []) (h' := (HH zl xs nl 138 136 11)) f127_270 rfl ?_
  refine y_s (pc' := 274) (L' := [some (vR (some 137)), some (vI 4)]) (st' := [vR (some 137)]) (h' := (HH zl xs nl 138 136 11)) f127_273 rfl ?_
  refine y_s (pc' := 277) (L' := [some (vR (some 137)), some (vI 4)]) (st' := [vR (some 167)]) (h' := (HH zl xs nl 138 136 11)) f127_274 rfl ?_
  refine y_s (pc' := 278) (L' := [some (vR (some 137)), some (vI 4)]) (st' := [vI 4, vR (some 167)]) (h' := (HH zl xs nl 138 136 11)) f127_277 rfl ?_
  refine y_s (pc' := 279) (L' := [some (vR (some 137)), some (vI 4)]) (st' := [vI (-1), vI 4, vR (some 167)]) (h' := (HH zl xs nl 138 136 11)) f127_278 rfl ?_
  refine y_s (pc' := 280) (L' := [some (vR (some 137)), some (vI 4)]) (st' := []) (h' := (zsetV (HH zl xs nl 138 136 11) 167 4 (-1))) f127_279 rfl ?_
  rw [HH_V (a := 167) (k := 4) (x := (-1)) (v := 11) rfl]
  refine y_s (pc' := 283) (L' := [some (vR (some 137)), some (vI 5)]) (st' := []) (h' := (HH zl xs nl 138 136 12)) f127_280 rfl ?_
  refine y_s (pc' := 267) (L' := [some (vR (some 137)), some (vI 5)]) (st' := []) (h' := (HH zl xs nl 138 136 12)) f127_283 rfl ?_
  refine y_s (pc' := 268) (L' := [some (vR (some 137)), some (vI 5)]) (st' := [vI 5]) (h' := (HH zl xs nl 138 136 12)) f127_267 rfl ?_
  refine y_s (pc' := 270) (L' := [some (vR (some 137)), some (vI 5)]) (st' := [vI 6, vI 5]) (h' := (HH zl xs nl 138 136 12)) f127_268 rfl ?_
  refine y_s (pc' := 273) (L' := [some (vR (some 137)), some (vI 5)]) (st' := []) (h' := (HH zl xs nl 138 136 12)) f127_270 rfl ?_
  refine y_s (pc' := 274) (L' := [some (vR (some 137)), some (vI 5)]) (st' := [vR (some 137)]) (h' := (HH zl xs nl 138 136 12)) f127_273 rfl ?_
  refine y_s (pc' := 277) (L' := [some (vR (some 137)), some (vI 5)]) (st' := [vR (some 167)]) (h' := (HH zl xs nl 138 136 12)) f127_274 rfl ?_
  refine y_s (pc' := 278) (L' := [some (vR (some 137)), some (vI 5)]) (st' := [vI 5, vR (some 167)]) (h' := (HH zl xs nl 138 136 12)) f127_277 rfl ?_
  refine y_s (pc' := 279) (L' := [some (vR (some 137)), some (vI 5)]) (st' := [vI (-1), vI 5, vR (some 167)]) (h' := (HH zl xs nl 138 136 12)) f127_278 rfl ?_
  refine y_s (pc' := 280) (L' := [some (vR (some 137)), some (vI 5)]) (st' := []) (h' := (zsetV (HH zl xs nl 138 136 12) 167 5 (-1))) f127_279 rfl ?_
  rw [HH_V (a := 167) (k := 5) (x := (-1)) (v := 12) rfl]
  refine y_s (pc' := 283) (L' := [some (vR (some 137)), some (vI 6)]) (st' := []) (h' := (HH zl xs nl 138 136 13)) f127_280 rfl ?_
  refine y_s (pc' := 267) (L' := [some (vR (some 137)), some (vI 6)]) (st' := []) (h' := (HH zl xs nl 138 136 13)) f127_283 rfl ?_
  refine y_s (pc' := 268) (L' := [some (vR (some 137)), some (vI 6)]) (st' := [vI 6]) (h' := (HH zl xs nl 138 136 13)) f127_267 rfl ?_
  refine y_s (pc' := 270) (L' := [some (vR (some 137)), some (vI 6)]) (st' := [vI 6, vI 6]) (h' := (HH zl xs nl 138 136 13)) f127_268 rfl ?_
  refine y_s (pc' := 286) (L' := [some (vR (some 137)), some (vI 6)]) (st' := []) (h' := (HH zl xs nl 138 136 13)) f127_270 rfl ?_
  exact y_ru f127_286 ⟨rfl, k⟩
theorem ct_all {Q : Option AV → Hp → Prop} (k : ZW 40 code 9 16 [some (vR (some 0)), some (vR (some 32)), some (vR (some 137)), none] [] (HH zl xs nl 138 136 13) Q) : ZW 40 code 9 0 [some (vR (some 0)), none, none, none] [] (zh0 zl xs nl) Q := by
  rw [HH_0]
  refine y_s (pc' := 3) (L' := [some (vR (some 0)), none, none, none]) (st' := [vR (some 32)]) (h' := (zmk 17 10 (HH zl xs nl 0 0 0))) g0 rfl ?_
  rw [HH_mk (n := 0) (w := 0) (v := 0) (kd := 17) (sz := 10) rfl rfl rfl]
  refine y_s (pc' := 4) (L' := [some (vR (some 0)), none, none, none]) (st' := [vR (some 32), vR (some 32)]) (h' := (HH zl xs nl 1 0 0)) g3 rfl ?_
  refine y_cU (pc' := 7) (as := [vR (some 32)]) (r := [vR (some 32)]) g4 rfl (by decide) rfl ?_
  refine ct33 ?_
  refine y_s (pc' := 8) (L' := [some (vR (some 0)), some (vR (some 32)), none, none]) (st' := []) (h' := (HH zl xs nl 105 104 6)) g7 rfl ?_
  refine y_s (pc' := 11) (L' := [some (vR (some 0)), some (vR (some 32)), none, none]) (st' := [vR (some 137)]) (h' := (zmk 18 49 (HH zl xs nl 105 104 6))) g8 rfl ?_
  rw [HH_mk (n := 105) (w := 104) (v := 6) (kd := 18) (sz := 49) rfl rfl rfl]
  refine y_s (pc' := 12) (L' := [some (vR (some 0)), some (vR (some 32)), none, none]) (st' := [vR (some 137), vR (some 137)]) (h' := (HH zl xs nl 106 104 6)) g11 rfl ?_
  refine y_cU (pc' := 15) (as := [vR (some 137)]) (r := [vR (some 137)]) g12 rfl (by decide) rfl ?_
  refine ct34 ?_
  refine y_s (pc' := 16) (L' := [some (vR (some 0)), some (vR (some 32)), some (vR (some 137)), none]) (st' := []) (h' := (HH zl xs nl 138 136 13)) g15 rfl ?_
  exact k
end CTW
