/-! SEGMENTS D: the class, callers (printed by wip/whole/gen_dec.py) -/
theorem yf_7_18 : zfld 7 18 = some (7, 1) := rfl
theorem yf_7_53 : zfld 7 53 = some (7, 9) := rfl
theorem yf_7_166 : zfld 7 166 = some (2, 11) := rfl
theorem yf_7_169 : zfld 7 169 = some (4, 4) := rfl
theorem yf_7_196 : zfld 7 196 = some (1, 4) := rfl
theorem yf_7_197 : zfld 7 197 = some (1, 3) := rfl
theorem yf_10_9 : zfld 10 9 = some (9, 0) := rfl
theorem yf_10_15 : zfld 10 15 = some (9, 1) := rfl
theorem ym_2_129 : zmth 2 129 = some (0, 24) := rfl
theorem ym_6_19 : zmth 6 19 = some (0, 48) := rfl
theorem ym_6_31 : zmth 6 31 = some (0, 49) := rfl
theorem ym_6_45 : zmth 6 45 = some (0, 51) := rfl
theorem ym_6_49 : zmth 6 49 = some (0, 64) := rfl
theorem ym_6_56 : zmth 6 56 = some (0, 74) := rfl
theorem ym_6_94 : zmth 6 94 = some (0, 52) := rfl
theorem ym_6_98 : zmth 6 98 = some (0, 54) := rfl
theorem ym_7_89 : zmth 7 89 = some (0, 24) := rfl
theorem ym_7_92 : zmth 7 92 = some (0, 27) := rfl
theorem ym_7_95 : zmth 7 95 = some (0, 32) := rfl
theorem ym_7_98 : zmth 7 98 = some (0, 34) := rfl
theorem ym_7_105 : zmth 7 105 = some (0, 17) := rfl
theorem ym_7_108 : zmth 7 108 = some (0, 18) := rfl
theorem ym_7_111 : zmth 7 111 = some (0, 35) := rfl
theorem ym_7_118 : zmth 7 118 = some (0, 30) := rfl
theorem ym_7_121 : zmth 7 121 = some (0, 33) := rfl
theorem ym_7_128 : zmth 7 128 = some (0, 36) := rfl
theorem ym_7_172 : zmth 7 172 = some (0, 76) := rfl
theorem ym_7_175 : zmth 7 175 = some (0, 77) := rfl
theorem ym_7_182 : zmth 7 182 = some (0, 79) := rfl
theorem ym_7_189 : zmth 7 189 = some (0, 84) := rfl
theorem ym_7_193 : zmth 7 193 = some (0, 88) := rfl
theorem ym_7_208 : zmth 7 208 = some (0, 92) := rfl
theorem ym_7_211 : zmth 7 211 = some (2, 93) := rfl
theorem ym_7_215 : zmth 7 215 = some (2, 94) := rfl
theorem ym_7_221 : zmth 7 221 = some (0, 98) := rfl
theorem ym_10_335 : zmth 10 335 = some (0, 53) := rfl
theorem ym_10_492 : zmth 10 492 = some (0, 55) := rfl
theorem ym_10_495 : zmth 10 495 = some (2, 56) := rfl
theorem ym_10_498 : zmth 10 498 = some (2, 59) := rfl
theorem ym_10_1059 : zmth 10 1059 = some (2, 58) := rfl
theorem ym_11_9 : zmth 11 9 = some (2, 57) := rfl
theorem f14_0 : decode prog_1_method_3_code 0 = .ok (.aload_n 0, 1) := by decide +kernel
theorem f14_1 : decode prog_1_method_3_code 1 = .ok (.iload_n 1, 1) := by decide +kernel
theorem f14_2 : decode prog_1_method_3_code 2 = .ok (.invokevirtual 71, 3) := by decide +kernel
theorem f14_5 : decode prog_1_method_3_code 5 = .ok (.ifCond .ne 7, 3) := by decide +kernel
theorem f14_8 : decode prog_1_method_3_code 8 = .ok (.sipush (-10001), 3) := by decide +kernel
theorem f14_11 : decode prog_1_method_3_code 11 = .ok (.ireturn, 1) := by decide +kernel
theorem f14_12 : decode prog_1_method_3_code 12 = .ok (.iload_n 2, 1) := by decide +kernel
theorem f14_13 : decode prog_1_method_3_code 13 = .ok (.tableswitch 103 0 6 #[43, 53, 63, 73, 82, 91, 97], 43) := by decide +kernel
theorem f14_56 : decode prog_1_method_3_code 56 = .ok (.aload_n 0, 1) := by decide +kernel
theorem f14_57 : decode prog_1_method_3_code 57 = .ok (.getfield 14, 3) := by decide +kernel
theorem f14_60 : decode prog_1_method_3_code 60 = .ok (.getfield 75, 3) := by decide +kernel
theorem f14_63 : decode prog_1_method_3_code 63 = .ok (.iload_n 1, 1) := by decide +kernel
theorem f14_64 : decode prog_1_method_3_code 64 = .ok (.iaload, 1) := by decide +kernel
theorem f14_65 : decode prog_1_method_3_code 65 = .ok (.ireturn, 1) := by decide +kernel
theorem f14_66 : decode prog_1_method_3_code 66 = .ok (.aload_n 0, 1) := by decide +kernel
theorem f14_67 : decode prog_1_method_3_code 67 = .ok (.getfield 14, 3) := by decide +kernel
theorem f14_70 : decode prog_1_method_3_code 70 = .ok (.getfield 79, 3) := by decide +kernel
theorem f14_73 : decode prog_1_method_3_code 73 = .ok (.iload_n 1, 1) := by decide +kernel
theorem f14_74 : decode prog_1_method_3_code 74 = .ok (.iaload, 1) := by decide +kernel
theorem f14_75 : decode prog_1_method_3_code 75 = .ok (.ireturn, 1) := by decide +kernel
theorem f14_76 : decode prog_1_method_3_code 76 = .ok (.aload_n 0, 1) := by decide +kernel
theorem f14_77 : decode prog_1_method_3_code 77 = .ok (.getfield 14, 3) := by decide +kernel
theorem f14_80 : decode prog_1_method_3_code 80 = .ok (.getfield 82, 3) := by decide +kernel
theorem f14_83 : decode prog_1_method_3_code 83 = .ok (.iload_n 1, 1) := by decide +kernel
theorem f14_84 : decode prog_1_method_3_code 84 = .ok (.iaload, 1) := by decide +kernel
theorem f14_85 : decode prog_1_method_3_code 85 = .ok (.ireturn, 1) := by decide +kernel
theorem f14_86 : decode prog_1_method_3_code 86 = .ok (.aload_n 0, 1) := by decide +kernel
theorem f14_87 : decode prog_1_method_3_code 87 = .ok (.getfield 14, 3) := by decide +kernel
theorem f14_90 : decode prog_1_method_3_code 90 = .ok (.iload_n 1, 1) := by decide +kernel
theorem f14_91 : decode prog_1_method_3_code 91 = .ok (.invokevirtual 85, 3) := by decide +kernel
theorem f14_94 : decode prog_1_method_3_code 94 = .ok (.ireturn, 1) := by decide +kernel
theorem f14_95 : decode prog_1_method_3_code 95 = .ok (.aload_n 0, 1) := by decide +kernel
theorem f14_96 : decode prog_1_method_3_code 96 = .ok (.getfield 14, 3) := by decide +kernel
theorem f14_99 : decode prog_1_method_3_code 99 = .ok (.iload_n 1, 1) := by decide +kernel
theorem f14_100 : decode prog_1_method_3_code 100 = .ok (.invokevirtual 89, 3) := by decide +kernel
theorem f14_103 : decode prog_1_method_3_code 103 = .ok (.ireturn, 1) := by decide +kernel
theorem f14_104 : decode prog_1_method_3_code 104 = .ok (.aload_n 0, 1) := by decide +kernel
theorem f14_105 : decode prog_1_method_3_code 105 = .ok (.iload_n 1, 1) := by decide +kernel
theorem f14_106 : decode prog_1_method_3_code 106 = .ok (.invokevirtual 92, 3) := by decide +kernel
theorem f14_109 : decode prog_1_method_3_code 109 = .ok (.ireturn, 1) := by decide +kernel
theorem f14_110 : decode prog_1_method_3_code 110 = .ok (.aload_n 0, 1) := by decide +kernel
theorem f14_111 : decode prog_1_method_3_code 111 = .ok (.iload_n 1, 1) := by decide +kernel
theorem f14_112 : decode prog_1_method_3_code 112 = .ok (.invokevirtual 95, 3) := by decide +kernel
theorem f14_115 : decode prog_1_method_3_code 115 = .ok (.ireturn, 1) := by decide +kernel
theorem f14_116 : decode prog_1_method_3_code 116 = .ok (.aload_n 0, 1) := by decide +kernel
theorem f14_117 : decode prog_1_method_3_code 117 = .ok (.iload_n 1, 1) := by decide +kernel
theorem f14_118 : decode prog_1_method_3_code 118 = .ok (.iload_n 2, 1) := by decide +kernel
theorem f14_119 : decode prog_1_method_3_code 119 = .ok (.bipush 10, 2) := by decide +kernel
theorem f14_121 : decode prog_1_method_3_code 121 = .ok (.idiv, 1) := by decide +kernel
theorem f14_122 : decode prog_1_method_3_code 122 = .ok (.iload_n 2, 1) := by decide +kernel
theorem f14_123 : decode prog_1_method_3_code 123 = .ok (.bipush 10, 2) := by decide +kernel
theorem f14_125 : decode prog_1_method_3_code 125 = .ok (.irem, 1) := by decide +kernel
theorem f14_126 : decode prog_1_method_3_code 126 = .ok (.invokevirtual 98, 3) := by decide +kernel
theorem f14_129 : decode prog_1_method_3_code 129 = .ok (.ireturn, 1) := by decide +kernel
theorem f27_0 : decode prog_1_method_5_code 0 = .ok (.aload_n 0, 1) := by decide +kernel
theorem f27_1 : decode prog_1_method_5_code 1 = .ok (.getfield 18, 3) := by decide +kernel
theorem f27_4 : decode prog_1_method_5_code 4 = .ok (.aload_n 0, 1) := by decide +kernel
theorem f27_5 : decode prog_1_method_5_code 5 = .ok (.getfield 14, 3) := by decide +kernel
theorem f27_8 : decode prog_1_method_5_code 8 = .ok (.invokevirtual 114, 3) := by decide +kernel
theorem f27_11 : decode prog_1_method_5_code 11 = .ok (.iconst 0, 1) := by decide +kernel
theorem f27_12 : decode prog_1_method_5_code 12 = .ok (.istore_n 2, 1) := by decide +kernel
theorem f27_13 : decode prog_1_method_5_code 13 = .ok (.iload_n 2, 1) := by decide +kernel
theorem f27_14 : decode prog_1_method_5_code 14 = .ok (.bipush 60, 2) := by decide +kernel
theorem f27_16 : decode prog_1_method_5_code 16 = .ok (.if_icmp .gt 31, 3) := by decide +kernel
theorem f27_19 : decode prog_1_method_5_code 19 = .ok (.aload_n 0, 1) := by decide +kernel
theorem f27_20 : decode prog_1_method_5_code 20 = .ok (.getfield 18, 3) := by decide +kernel
theorem f27_23 : decode prog_1_method_5_code 23 = .ok (.iload_n 1, 1) := by decide +kernel
theorem f27_24 : decode prog_1_method_5_code 24 = .ok (.invokevirtual 89, 3) := by decide +kernel
theorem f27_27 : decode prog_1_method_5_code 27 = .ok (.bipush (-5), 2) := by decide +kernel
theorem f27_29 : decode prog_1_method_5_code 29 = .ok (.if_icmp .eq 5, 3) := by decide +kernel
theorem f27_32 : decode prog_1_method_5_code 32 = .ok (.iload_n 2, 1) := by decide +kernel
theorem f27_33 : decode prog_1_method_5_code 33 = .ok (.ireturn, 1) := by decide +kernel
theorem f27_34 : decode prog_1_method_5_code 34 = .ok (.aload_n 0, 1) := by decide +kernel
theorem f27_35 : decode prog_1_method_5_code 35 = .ok (.getfield 18, 3) := by decide +kernel
theorem f27_38 : decode prog_1_method_5_code 38 = .ok (.invokevirtual 118, 3) := by decide +kernel
theorem f27_41 : decode prog_1_method_5_code 41 = .ok (.iinc 2 1, 3) := by decide +kernel
theorem f27_44 : decode prog_1_method_5_code 44 = .ok (.goto (-31), 3) := by decide +kernel
theorem f27_47 : decode prog_1_method_5_code 47 = .ok (.bipush (-5), 2) := by decide +kernel
theorem f27_49 : decode prog_1_method_5_code 49 = .ok (.ireturn, 1) := by decide +kernel
theorem f32_0 : decode prog_1_method_6_code 0 = .ok (.aload_n 0, 1) := by decide +kernel
theorem f32_1 : decode prog_1_method_6_code 1 = .ok (.getfield 18, 3) := by decide +kernel
theorem f32_4 : decode prog_1_method_6_code 4 = .ok (.aload_n 0, 1) := by decide +kernel
theorem f32_5 : decode prog_1_method_6_code 5 = .ok (.getfield 14, 3) := by decide +kernel
theorem f32_8 : decode prog_1_method_6_code 8 = .ok (.invokevirtual 114, 3) := by decide +kernel
theorem f32_11 : decode prog_1_method_6_code 11 = .ok (.iconst 0, 1) := by decide +kernel
theorem f32_12 : decode prog_1_method_6_code 12 = .ok (.istore_n 2, 1) := by decide +kernel
theorem f32_13 : decode prog_1_method_6_code 13 = .ok (.iload_n 2, 1) := by decide +kernel
theorem f32_14 : decode prog_1_method_6_code 14 = .ok (.bipush 60, 2) := by decide +kernel
theorem f32_16 : decode prog_1_method_6_code 16 = .ok (.if_icmp .ge 20, 3) := by decide +kernel
theorem f32_19 : decode prog_1_method_6_code 19 = .ok (.aload_n 0, 1) := by decide +kernel
theorem f32_20 : decode prog_1_method_6_code 20 = .ok (.iload_n 1, 1) := by decide +kernel
theorem f32_21 : decode prog_1_method_6_code 21 = .ok (.iload_n 2, 1) := by decide +kernel
theorem f32_22 : decode prog_1_method_6_code 22 = .ok (.invokevirtual 121, 3) := by decide +kernel
theorem f32_25 : decode prog_1_method_6_code 25 = .ok (.ifCond .eq 5, 3) := by decide +kernel
theorem f32_28 : decode prog_1_method_6_code 28 = .ok (.iload_n 2, 1) := by decide +kernel
theorem f32_29 : decode prog_1_method_6_code 29 = .ok (.ireturn, 1) := by decide +kernel
theorem f32_30 : decode prog_1_method_6_code 30 = .ok (.iinc 2 1, 3) := by decide +kernel
theorem f32_33 : decode prog_1_method_6_code 33 = .ok (.goto (-20), 3) := by decide +kernel
theorem f32_36 : decode prog_1_method_6_code 36 = .ok (.bipush (-5), 2) := by decide +kernel
theorem f32_38 : decode prog_1_method_6_code 38 = .ok (.ireturn, 1) := by decide +kernel
theorem f33_0 : decode prog_1_method_7_code 0 = .ok (.iload_n 2, 1) := by decide +kernel
theorem f33_1 : decode prog_1_method_7_code 1 = .ok (.bipush 10, 2) := by decide +kernel
theorem f33_3 : decode prog_1_method_7_code 3 = .ok (.idiv, 1) := by decide +kernel
theorem f33_4 : decode prog_1_method_7_code 4 = .ok (.istore_n 3, 1) := by decide +kernel
theorem f33_5 : decode prog_1_method_7_code 5 = .ok (.aload_n 0, 1) := by decide +kernel
theorem f33_6 : decode prog_1_method_7_code 6 = .ok (.getfield 18, 3) := by decide +kernel
theorem f33_9 : decode prog_1_method_7_code 9 = .ok (.iload_n 1, 1) := by decide +kernel
theorem f33_10 : decode prog_1_method_7_code 10 = .ok (.iload_n 3, 1) := by decide +kernel
theorem f33_11 : decode prog_1_method_7_code 11 = .ok (.iload_n 2, 1) := by decide +kernel
theorem f33_12 : decode prog_1_method_7_code 12 = .ok (.bipush 10, 2) := by decide +kernel
theorem f33_14 : decode prog_1_method_7_code 14 = .ok (.irem, 1) := by decide +kernel
theorem f33_15 : decode prog_1_method_7_code 15 = .ok (.invokevirtual 124, 3) := by decide +kernel
theorem f33_18 : decode prog_1_method_7_code 18 = .ok (.aload_n 0, 1) := by decide +kernel
theorem f33_19 : decode prog_1_method_7_code 19 = .ok (.getfield 18, 3) := by decide +kernel
theorem f33_22 : decode prog_1_method_7_code 22 = .ok (.iload_n 1, 1) := by decide +kernel
theorem f33_23 : decode prog_1_method_7_code 23 = .ok (.invokevirtual 89, 3) := by decide +kernel
theorem f33_26 : decode prog_1_method_7_code 26 = .ok (.bipush (-5), 2) := by decide +kernel
theorem f33_28 : decode prog_1_method_7_code 28 = .ok (.if_icmp .eq 7, 3) := by decide +kernel
theorem f33_31 : decode prog_1_method_7_code 31 = .ok (.iconst 1, 1) := by decide +kernel
theorem f33_32 : decode prog_1_method_7_code 32 = .ok (.goto 4, 3) := by decide +kernel
theorem f33_35 : decode prog_1_method_7_code 35 = .ok (.iconst 0, 1) := by decide +kernel
theorem f33_36 : decode prog_1_method_7_code 36 = .ok (.istore 4, 2) := by decide +kernel
theorem f33_38 : decode prog_1_method_7_code 38 = .ok (.aload_n 0, 1) := by decide +kernel
theorem f33_39 : decode prog_1_method_7_code 39 = .ok (.getfield 18, 3) := by decide +kernel
theorem f33_42 : decode prog_1_method_7_code 42 = .ok (.iload_n 1, 1) := by decide +kernel
theorem f33_43 : decode prog_1_method_7_code 43 = .ok (.iload_n 3, 1) := by decide +kernel
theorem f33_44 : decode prog_1_method_7_code 44 = .ok (.aload_n 0, 1) := by decide +kernel
theorem f33_45 : decode prog_1_method_7_code 45 = .ok (.getfield 14, 3) := by decide +kernel
theorem f33_48 : decode prog_1_method_7_code 48 = .ok (.iload_n 1, 1) := by decide +kernel
theorem f33_49 : decode prog_1_method_7_code 49 = .ok (.iload_n 3, 1) := by decide +kernel
theorem f33_50 : decode prog_1_method_7_code 50 = .ok (.invokevirtual 102, 3) := by decide +kernel
theorem f33_53 : decode prog_1_method_7_code 53 = .ok (.invokevirtual 124, 3) := by decide +kernel
theorem f33_56 : decode prog_1_method_7_code 56 = .ok (.iload 4, 2) := by decide +kernel
theorem f33_58 : decode prog_1_method_7_code 58 = .ok (.ireturn, 1) := by decide +kernel
theorem f34_0 : decode prog_1_method_4_code 0 = .ok (.iload_n 3, 1) := by decide +kernel
theorem f34_1 : decode prog_1_method_4_code 1 = .ok (.bipush 6, 2) := by decide +kernel
theorem f34_3 : decode prog_1_method_4_code 3 = .ok (.invokestatic 59, 3) := by decide +kernel
theorem f34_6 : decode prog_1_method_4_code 6 = .ok (.ifCond .ne 7, 3) := by decide +kernel
theorem f34_9 : decode prog_1_method_4_code 9 = .ok (.sipush (-10001), 3) := by decide +kernel
theorem f34_12 : decode prog_1_method_4_code 12 = .ok (.ireturn, 1) := by decide +kernel
theorem f34_13 : decode prog_1_method_4_code 13 = .ok (.iload_n 2, 1) := by decide +kernel
theorem f34_14 : decode prog_1_method_4_code 14 = .ok (.tableswitch 67 1 4 #[30, 40, 50, 60], 30) := by decide +kernel
theorem f34_44 : decode prog_1_method_4_code 44 = .ok (.aload_n 0, 1) := by decide +kernel
theorem f34_45 : decode prog_1_method_4_code 45 = .ok (.getfield 14, 3) := by decide +kernel
theorem f34_48 : decode prog_1_method_4_code 48 = .ok (.iload_n 1, 1) := by decide +kernel
theorem f34_49 : decode prog_1_method_4_code 49 = .ok (.iload_n 3, 1) := by decide +kernel
theorem f34_50 : decode prog_1_method_4_code 50 = .ok (.invokevirtual 102, 3) := by decide +kernel
theorem f34_53 : decode prog_1_method_4_code 53 = .ok (.ireturn, 1) := by decide +kernel
theorem f34_54 : decode prog_1_method_4_code 54 = .ok (.aload_n 0, 1) := by decide +kernel
theorem f34_55 : decode prog_1_method_4_code 55 = .ok (.getfield 14, 3) := by decide +kernel
theorem f34_58 : decode prog_1_method_4_code 58 = .ok (.iload_n 1, 1) := by decide +kernel
theorem f34_59 : decode prog_1_method_4_code 59 = .ok (.iload_n 3, 1) := by decide +kernel
theorem f34_60 : decode prog_1_method_4_code 60 = .ok (.invokevirtual 105, 3) := by decide +kernel
theorem f34_63 : decode prog_1_method_4_code 63 = .ok (.ireturn, 1) := by decide +kernel
theorem f34_64 : decode prog_1_method_4_code 64 = .ok (.aload_n 0, 1) := by decide +kernel
theorem f34_65 : decode prog_1_method_4_code 65 = .ok (.getfield 14, 3) := by decide +kernel
theorem f34_68 : decode prog_1_method_4_code 68 = .ok (.iload_n 1, 1) := by decide +kernel
theorem f34_69 : decode prog_1_method_4_code 69 = .ok (.iload_n 3, 1) := by decide +kernel
theorem f34_70 : decode prog_1_method_4_code 70 = .ok (.invokevirtual 108, 3) := by decide +kernel
theorem f34_73 : decode prog_1_method_4_code 73 = .ok (.ireturn, 1) := by decide +kernel
theorem f34_74 : decode prog_1_method_4_code 74 = .ok (.aload_n 0, 1) := by decide +kernel
theorem f34_75 : decode prog_1_method_4_code 75 = .ok (.iload_n 1, 1) := by decide +kernel
theorem f34_76 : decode prog_1_method_4_code 76 = .ok (.iload_n 3, 1) := by decide +kernel
theorem f34_77 : decode prog_1_method_4_code 77 = .ok (.invokevirtual 111, 3) := by decide +kernel
theorem f34_80 : decode prog_1_method_4_code 80 = .ok (.ireturn, 1) := by decide +kernel
theorem f34_81 : decode prog_1_method_4_code 81 = .ok (.sipush (-10001), 3) := by decide +kernel
theorem f34_84 : decode prog_1_method_4_code 84 = .ok (.ireturn, 1) := by decide +kernel
theorem f35_0 : decode prog_1_method_8_code 0 = .ok (.iconst 0, 1) := by decide +kernel
theorem f35_1 : decode prog_1_method_8_code 1 = .ok (.istore_n 3, 1) := by decide +kernel
theorem f35_2 : decode prog_1_method_8_code 2 = .ok (.iconst 0, 1) := by decide +kernel
theorem f35_3 : decode prog_1_method_8_code 3 = .ok (.istore 4, 2) := by decide +kernel
theorem f35_5 : decode prog_1_method_8_code 5 = .ok (.iload 4, 2) := by decide +kernel
theorem f35_7 : decode prog_1_method_8_code 7 = .ok (.bipush 10, 2) := by decide +kernel
theorem f35_9 : decode prog_1_method_8_code 9 = .ok (.if_icmp .ge 49, 3) := by decide +kernel
theorem f35_12 : decode prog_1_method_8_code 12 = .ok (.aload_n 0, 1) := by decide +kernel
theorem f35_13 : decode prog_1_method_8_code 13 = .ok (.getfield 18, 3) := by decide +kernel
theorem f35_16 : decode prog_1_method_8_code 16 = .ok (.aload_n 0, 1) := by decide +kernel
theorem f35_17 : decode prog_1_method_8_code 17 = .ok (.getfield 14, 3) := by decide +kernel
theorem f35_20 : decode prog_1_method_8_code 20 = .ok (.invokevirtual 114, 3) := by decide +kernel
theorem f35_23 : decode prog_1_method_8_code 23 = .ok (.aload_n 0, 1) := by decide +kernel
theorem f35_24 : decode prog_1_method_8_code 24 = .ok (.getfield 18, 3) := by decide +kernel
theorem f35_27 : decode prog_1_method_8_code 27 = .ok (.iload_n 1, 1) := by decide +kernel
theorem f35_28 : decode prog_1_method_8_code 28 = .ok (.iload_n 2, 1) := by decide +kernel
theorem f35_29 : decode prog_1_method_8_code 29 = .ok (.iload 4, 2) := by decide +kernel
theorem f35_31 : decode prog_1_method_8_code 31 = .ok (.invokevirtual 124, 3) := by decide +kernel
theorem f35_34 : decode prog_1_method_8_code 34 = .ok (.aload_n 0, 1) := by decide +kernel
theorem f35_35 : decode prog_1_method_8_code 35 = .ok (.getfield 18, 3) := by decide +kernel
theorem f35_38 : decode prog_1_method_8_code 38 = .ok (.iload_n 1, 1) := by decide +kernel
theorem f35_39 : decode prog_1_method_8_code 39 = .ok (.invokevirtual 128, 3) := by decide +kernel
theorem f35_42 : decode prog_1_method_8_code 42 = .ok (.ifCond .eq 10, 3) := by decide +kernel
theorem f35_45 : decode prog_1_method_8_code 45 = .ok (.iload_n 3, 1) := by decide +kernel
theorem f35_46 : decode prog_1_method_8_code 46 = .ok (.iconst 1, 1) := by decide +kernel
theorem f35_47 : decode prog_1_method_8_code 47 = .ok (.iload 4, 2) := by decide +kernel
theorem f35_49 : decode prog_1_method_8_code 49 = .ok (.ishl, 1) := by decide +kernel
theorem f35_50 : decode prog_1_method_8_code 50 = .ok (.ior, 1) := by decide +kernel
theorem f35_51 : decode prog_1_method_8_code 51 = .ok (.istore_n 3, 1) := by decide +kernel
theorem f35_52 : decode prog_1_method_8_code 52 = .ok (.iinc 4 1, 3) := by decide +kernel
theorem f35_55 : decode prog_1_method_8_code 55 = .ok (.goto (-50), 3) := by decide +kernel
theorem f35_58 : decode prog_1_method_8_code 58 = .ok (.iload_n 3, 1) := by decide +kernel
theorem f35_59 : decode prog_1_method_8_code 59 = .ok (.ireturn, 1) := by decide +kernel
theorem f36_0 : decode prog_4_method_19_code 0 = .ok (.iconst 0, 1) := by decide +kernel
theorem f36_1 : decode prog_4_method_19_code 1 = .ok (.istore_n 2, 1) := by decide +kernel
theorem f36_2 : decode prog_4_method_19_code 2 = .ok (.iload_n 2, 1) := by decide +kernel
theorem f36_3 : decode prog_4_method_19_code 3 = .ok (.bipush 12, 2) := by decide +kernel
theorem f36_5 : decode prog_4_method_19_code 5 = .ok (.if_icmp .gt 98, 3) := by decide +kernel
theorem f36_8 : decode prog_4_method_19_code 8 = .ok (.iconst 0, 1) := by decide +kernel
theorem f36_9 : decode prog_4_method_19_code 9 = .ok (.istore_n 3, 1) := by decide +kernel
theorem f36_10 : decode prog_4_method_19_code 10 = .ok (.iload_n 3, 1) := by decide +kernel
theorem f36_11 : decode prog_4_method_19_code 11 = .ok (.aload_n 0, 1) := by decide +kernel
theorem f36_12 : decode prog_4_method_19_code 12 = .ok (.getfield 39, 3) := by decide +kernel
theorem f36_15 : decode prog_4_method_19_code 15 = .ok (.getfield 114, 3) := by decide +kernel
theorem f36_18 : decode prog_4_method_19_code 18 = .ok (.if_icmp .ge 75, 3) := by decide +kernel
theorem f36_21 : decode prog_4_method_19_code 21 = .ok (.aload_n 0, 1) := by decide +kernel
theorem f36_22 : decode prog_4_method_19_code 22 = .ok (.getfield 39, 3) := by decide +kernel
theorem f36_25 : decode prog_4_method_19_code 25 = .ok (.iload_n 3, 1) := by decide +kernel
theorem f36_26 : decode prog_4_method_19_code 26 = .ok (.iconst 0, 1) := by decide +kernel
theorem f36_27 : decode prog_4_method_19_code 27 = .ok (.invokevirtual 126, 3) := by decide +kernel
theorem f36_30 : decode prog_4_method_19_code 30 = .ok (.iload_n 1, 1) := by decide +kernel
theorem f36_31 : decode prog_4_method_19_code 31 = .ok (.if_icmp .ne 20, 3) := by decide +kernel
theorem f36_34 : decode prog_4_method_19_code 34 = .ok (.aload_n 0, 1) := by decide +kernel
theorem f36_35 : decode prog_4_method_19_code 35 = .ok (.getfield 39, 3) := by decide +kernel
theorem f36_38 : decode prog_4_method_19_code 38 = .ok (.iload_n 3, 1) := by decide +kernel
theorem f36_39 : decode prog_4_method_19_code 39 = .ok (.iconst 2, 1) := by decide +kernel
theorem f36_40 : decode prog_4_method_19_code 40 = .ok (.invokevirtual 126, 3) := by decide +kernel
theorem f36_43 : decode prog_4_method_19_code 43 = .ok (.iload_n 2, 1) := by decide +kernel
theorem f36_44 : decode prog_4_method_19_code 44 = .ok (.if_icmp .ne 7, 3) := by decide +kernel
theorem f36_47 : decode prog_4_method_19_code 47 = .ok (.iconst 1, 1) := by decide +kernel
theorem f36_48 : decode prog_4_method_19_code 48 = .ok (.goto 4, 3) := by decide +kernel
theorem f36_51 : decode prog_4_method_19_code 51 = .ok (.iconst 0, 1) := by decide +kernel
theorem f36_52 : decode prog_4_method_19_code 52 = .ok (.istore 4, 2) := by decide +kernel
theorem f36_54 : decode prog_4_method_19_code 54 = .ok (.iload 4, 2) := by decide +kernel
theorem f36_56 : decode prog_4_method_19_code 56 = .ok (.ifCond .eq 31, 3) := by decide +kernel
theorem f36_59 : decode prog_4_method_19_code 59 = .ok (.aload_n 0, 1) := by decide +kernel
theorem f36_60 : decode prog_4_method_19_code 60 = .ok (.iload_n 1, 1) := by decide +kernel
theorem f36_61 : decode prog_4_method_19_code 61 = .ok (.aload_n 0, 1) := by decide +kernel
theorem f36_62 : decode prog_4_method_19_code 62 = .ok (.getfield 39, 3) := by decide +kernel
theorem f36_65 : decode prog_4_method_19_code 65 = .ok (.iload_n 3, 1) := by decide +kernel
theorem f36_66 : decode prog_4_method_19_code 66 = .ok (.iconst 1, 1) := by decide +kernel
theorem f36_67 : decode prog_4_method_19_code 67 = .ok (.invokevirtual 126, 3) := by decide +kernel
theorem f36_70 : decode prog_4_method_19_code 70 = .ok (.invokevirtual 111, 3) := by decide +kernel
theorem f36_73 : decode prog_4_method_19_code 73 = .ok (.aload_n 0, 1) := by decide +kernel
theorem f36_74 : decode prog_4_method_19_code 74 = .ok (.getfield 39, 3) := by decide +kernel
theorem f36_77 : decode prog_4_method_19_code 77 = .ok (.iload_n 3, 1) := by decide +kernel
theorem f36_78 : decode prog_4_method_19_code 78 = .ok (.iconst 3, 1) := by decide +kernel
theorem f36_79 : decode prog_4_method_19_code 79 = .ok (.invokevirtual 126, 3) := by decide +kernel
theorem f36_82 : decode prog_4_method_19_code 82 = .ok (.if_icmp .eq 5, 3) := by decide +kernel
theorem f36_85 : decode prog_4_method_19_code 85 = .ok (.iconst 0, 1) := by decide +kernel
theorem f36_86 : decode prog_4_method_19_code 86 = .ok (.ireturn, 1) := by decide +kernel
theorem f36_87 : decode prog_4_method_19_code 87 = .ok (.iinc 3 1, 3) := by decide +kernel
theorem f36_90 : decode prog_4_method_19_code 90 = .ok (.goto (-80), 3) := by decide +kernel
theorem f36_93 : decode prog_4_method_19_code 93 = .ok (.aload_n 0, 1) := by decide +kernel
theorem f36_94 : decode prog_4_method_19_code 94 = .ok (.invokevirtual 87, 3) := by decide +kernel
theorem f36_97 : decode prog_4_method_19_code 97 = .ok (.iinc 2 1, 3) := by decide +kernel
theorem f36_100 : decode prog_4_method_19_code 100 = .ok (.goto (-98), 3) := by decide +kernel
theorem f36_103 : decode prog_4_method_19_code 103 = .ok (.iconst 1, 1) := by decide +kernel
theorem f36_104 : decode prog_4_method_19_code 104 = .ok (.ireturn, 1) := by decide +kernel
theorem f47_0 : decode prog_8_method_4_code 0 = .ok (.aload_n 1, 1) := by decide +kernel
theorem f47_1 : decode prog_8_method_4_code 1 = .ok (.invokevirtual 19, 3) := by decide +kernel
theorem f47_4 : decode prog_8_method_4_code 4 = .ok (.aload_n 0, 1) := by decide +kernel
theorem f47_5 : decode prog_8_method_4_code 5 = .ok (.aload_n 1, 1) := by decide +kernel
theorem f47_6 : decode prog_8_method_4_code 6 = .ok (.putfield 24, 3) := by decide +kernel
theorem f47_9 : decode prog_8_method_4_code 9 = .ok (.aload_n 0, 1) := by decide +kernel
theorem f47_10 : decode prog_8_method_4_code 10 = .ok (.iconst 0, 1) := by decide +kernel
theorem f47_11 : decode prog_8_method_4_code 11 = .ok (.putfield 28, 3) := by decide +kernel
theorem f47_14 : decode prog_8_method_4_code 14 = .ok (.aload_n 0, 1) := by decide +kernel
theorem f47_15 : decode prog_8_method_4_code 15 = .ok (.invokevirtual 31, 3) := by decide +kernel
theorem f47_18 : decode prog_8_method_4_code 18 = .ok (.istore_n 2, 1) := by decide +kernel
theorem f47_19 : decode prog_8_method_4_code 19 = .ok (.iconst 1, 1) := by decide +kernel
theorem f47_20 : decode prog_8_method_4_code 20 = .ok (.istore_n 3, 1) := by decide +kernel
theorem f47_21 : decode prog_8_method_4_code 21 = .ok (.iload_n 3, 1) := by decide +kernel
theorem f47_22 : decode prog_8_method_4_code 22 = .ok (.bipush 10, 2) := by decide +kernel
theorem f47_24 : decode prog_8_method_4_code 24 = .ok (.if_icmp .ge 27, 3) := by decide +kernel
theorem f47_27 : decode prog_8_method_4_code 27 = .ok (.iload_n 2, 1) := by decide +kernel
theorem f47_28 : decode prog_8_method_4_code 28 = .ok (.ifCond .eq 23, 3) := by decide +kernel
theorem f47_31 : decode prog_8_method_4_code 31 = .ok (.aload_n 0, 1) := by decide +kernel
theorem f47_32 : decode prog_8_method_4_code 32 = .ok (.bipush 59, 2) := by decide +kernel
theorem f47_34 : decode prog_8_method_4_code 34 = .ok (.invokevirtual 35, 3) := by decide +kernel
theorem f47_37 : decode prog_8_method_4_code 37 = .ok (.ifCond .eq 14, 3) := by decide +kernel
theorem f47_40 : decode prog_8_method_4_code 40 = .ok (.aload_n 0, 1) := by decide +kernel
theorem f47_41 : decode prog_8_method_4_code 41 = .ok (.invokevirtual 31, 3) := by decide +kernel
theorem f47_44 : decode prog_8_method_4_code 44 = .ok (.istore_n 2, 1) := by decide +kernel
theorem f47_45 : decode prog_8_method_4_code 45 = .ok (.iinc 3 1, 3) := by decide +kernel
theorem f47_48 : decode prog_8_method_4_code 48 = .ok (.goto (-27), 3) := by decide +kernel
theorem f47_51 : decode prog_8_method_4_code 51 = .ok (.iload_n 2, 1) := by decide +kernel
theorem f47_52 : decode prog_8_method_4_code 52 = .ok (.ifCond .eq 18, 3) := by decide +kernel
theorem f47_55 : decode prog_8_method_4_code 55 = .ok (.aload_n 0, 1) := by decide +kernel
theorem f47_56 : decode prog_8_method_4_code 56 = .ok (.getfield 28, 3) := by decide +kernel
theorem f47_59 : decode prog_8_method_4_code 59 = .ok (.aload_n 0, 1) := by decide +kernel
theorem f47_60 : decode prog_8_method_4_code 60 = .ok (.getfield 15, 3) := by decide +kernel
theorem f47_63 : decode prog_8_method_4_code 63 = .ok (.if_icmp .ne 7, 3) := by decide +kernel
theorem f47_66 : decode prog_8_method_4_code 66 = .ok (.iconst (-1), 1) := by decide +kernel
theorem f47_67 : decode prog_8_method_4_code 67 = .ok (.goto 7, 3) := by decide +kernel
theorem f47_70 : decode prog_8_method_4_code 70 = .ok (.aload_n 0, 1) := by decide +kernel
theorem f47_71 : decode prog_8_method_4_code 71 = .ok (.getfield 28, 3) := by decide +kernel
theorem f47_74 : decode prog_8_method_4_code 74 = .ok (.istore_n 3, 1) := by decide +kernel
theorem f47_75 : decode prog_8_method_4_code 75 = .ok (.aload_n 0, 1) := by decide +kernel
theorem f47_76 : decode prog_8_method_4_code 76 = .ok (.iconst 0, 1) := by decide +kernel
theorem f47_77 : decode prog_8_method_4_code 77 = .ok (.putfield 15, 3) := by decide +kernel
theorem f47_80 : decode prog_8_method_4_code 80 = .ok (.iload_n 3, 1) := by decide +kernel
theorem f47_81 : decode prog_8_method_4_code 81 = .ok (.ireturn, 1) := by decide +kernel
theorem f49_0 : decode prog_8_method_5_code 0 = .ok (.aload_n 0, 1) := by decide +kernel
theorem f49_1 : decode prog_8_method_5_code 1 = .ok (.invokevirtual 39, 3) := by decide +kernel
theorem f49_4 : decode prog_8_method_5_code 4 = .ok (.lookupswitch 104 #[(102, 59), (103, 82), (115, 36)], 36) := by decide +kernel
theorem f49_40 : decode prog_8_method_5_code 40 = .ok (.aload_n 0, 1) := by decide +kernel
theorem f49_41 : decode prog_8_method_5_code 41 = .ok (.ldc 43, 2) := by decide +kernel
theorem f49_43 : decode prog_8_method_5_code 43 = .ok (.invokevirtual 45, 3) := by decide +kernel
theorem f49_46 : decode prog_8_method_5_code 46 = .ok (.ifCond .eq 15, 3) := by decide +kernel
theorem f49_49 : decode prog_8_method_5_code 49 = .ok (.aload_n 0, 1) := by decide +kernel
theorem f49_50 : decode prog_8_method_5_code 50 = .ok (.iconst 1, 1) := by decide +kernel
theorem f49_51 : decode prog_8_method_5_code 51 = .ok (.invokevirtual 49, 3) := by decide +kernel
theorem f49_54 : decode prog_8_method_5_code 54 = .ok (.ifCond .eq 7, 3) := by decide +kernel
theorem f49_57 : decode prog_8_method_5_code 57 = .ok (.iconst 1, 1) := by decide +kernel
theorem f49_58 : decode prog_8_method_5_code 58 = .ok (.goto 4, 3) := by decide +kernel
theorem f49_61 : decode prog_8_method_5_code 61 = .ok (.iconst 0, 1) := by decide +kernel
theorem f49_62 : decode prog_8_method_5_code 62 = .ok (.ireturn, 1) := by decide +kernel
theorem f49_63 : decode prog_8_method_5_code 63 = .ok (.aload_n 0, 1) := by decide +kernel
theorem f49_64 : decode prog_8_method_5_code 64 = .ok (.ldc 52, 2) := by decide +kernel
theorem f49_66 : decode prog_8_method_5_code 66 = .ok (.invokevirtual 45, 3) := by decide +kernel
theorem f49_69 : decode prog_8_method_5_code 69 = .ok (.ifCond .eq 15, 3) := by decide +kernel
theorem f49_72 : decode prog_8_method_5_code 72 = .ok (.aload_n 0, 1) := by decide +kernel
theorem f49_73 : decode prog_8_method_5_code 73 = .ok (.iconst (-1), 1) := by decide +kernel
theorem f49_74 : decode prog_8_method_5_code 74 = .ok (.invokevirtual 49, 3) := by decide +kernel
theorem f49_77 : decode prog_8_method_5_code 77 = .ok (.ifCond .eq 7, 3) := by decide +kernel
theorem f49_80 : decode prog_8_method_5_code 80 = .ok (.iconst 1, 1) := by decide +kernel
theorem f49_81 : decode prog_8_method_5_code 81 = .ok (.goto 4, 3) := by decide +kernel
theorem f49_84 : decode prog_8_method_5_code 84 = .ok (.iconst 0, 1) := by decide +kernel
theorem f49_85 : decode prog_8_method_5_code 85 = .ok (.ireturn, 1) := by decide +kernel
theorem f49_86 : decode prog_8_method_5_code 86 = .ok (.aload_n 0, 1) := by decide +kernel
theorem f49_87 : decode prog_8_method_5_code 87 = .ok (.ldc 54, 2) := by decide +kernel
theorem f49_89 : decode prog_8_method_5_code 89 = .ok (.invokevirtual 45, 3) := by decide +kernel
theorem f49_92 : decode prog_8_method_5_code 92 = .ok (.ifCond .eq 14, 3) := by decide +kernel
theorem f49_95 : decode prog_8_method_5_code 95 = .ok (.aload_n 0, 1) := by decide +kernel
theorem f49_96 : decode prog_8_method_5_code 96 = .ok (.invokevirtual 56, 3) := by decide +kernel
theorem f49_99 : decode prog_8_method_5_code 99 = .ok (.ifCond .eq 7, 3) := by decide +kernel
theorem f49_102 : decode prog_8_method_5_code 102 = .ok (.iconst 1, 1) := by decide +kernel
theorem f49_103 : decode prog_8_method_5_code 103 = .ok (.goto 4, 3) := by decide +kernel
theorem f49_106 : decode prog_8_method_5_code 106 = .ok (.iconst 0, 1) := by decide +kernel
theorem f49_107 : decode prog_8_method_5_code 107 = .ok (.ireturn, 1) := by decide +kernel
theorem f49_108 : decode prog_8_method_5_code 108 = .ok (.iconst 0, 1) := by decide +kernel
theorem f49_109 : decode prog_8_method_5_code 109 = .ok (.ireturn, 1) := by decide +kernel
theorem f51_0 : decode prog_8_method_16_code 0 = .ok (.iconst 0, 1) := by decide +kernel
theorem f51_1 : decode prog_8_method_16_code 1 = .ok (.istore_n 2, 1) := by decide +kernel
theorem f51_2 : decode prog_8_method_16_code 2 = .ok (.iload_n 2, 1) := by decide +kernel
theorem f51_3 : decode prog_8_method_16_code 3 = .ok (.aload_n 1, 1) := by decide +kernel
theorem f51_4 : decode prog_8_method_16_code 4 = .ok (.invokevirtual 94, 3) := by decide +kernel
theorem f51_7 : decode prog_8_method_16_code 7 = .ok (.if_icmp .ge 23, 3) := by decide +kernel
theorem f51_10 : decode prog_8_method_16_code 10 = .ok (.aload_n 0, 1) := by decide +kernel
theorem f51_11 : decode prog_8_method_16_code 11 = .ok (.aload_n 1, 1) := by decide +kernel
theorem f51_12 : decode prog_8_method_16_code 12 = .ok (.iload_n 2, 1) := by decide +kernel
theorem f51_13 : decode prog_8_method_16_code 13 = .ok (.invokevirtual 98, 3) := by decide +kernel
theorem f51_16 : decode prog_8_method_16_code 16 = .ok (.invokevirtual 35, 3) := by decide +kernel
theorem f51_19 : decode prog_8_method_16_code 19 = .ok (.ifCond .ne 5, 3) := by decide +kernel
theorem f51_22 : decode prog_8_method_16_code 22 = .ok (.iconst 0, 1) := by decide +kernel
theorem f51_23 : decode prog_8_method_16_code 23 = .ok (.ireturn, 1) := by decide +kernel
theorem f51_24 : decode prog_8_method_16_code 24 = .ok (.iinc 2 1, 3) := by decide +kernel
theorem f51_27 : decode prog_8_method_16_code 27 = .ok (.goto (-25), 3) := by decide +kernel
theorem f51_30 : decode prog_8_method_16_code 30 = .ok (.iconst 1, 1) := by decide +kernel
theorem f51_31 : decode prog_8_method_16_code 31 = .ok (.ireturn, 1) := by decide +kernel
theorem f52_0 : decode prog_14_method_54_code 0 = .ok (.aload_n 0, 1) := by decide +kernel
theorem f52_1 : decode prog_14_method_54_code 1 = .ok (.getfield 9, 3) := by decide +kernel
theorem f52_4 : decode prog_14_method_54_code 4 = .ok (.arraylength, 1) := by decide +kernel
theorem f52_5 : decode prog_14_method_54_code 5 = .ok (.aload_n 0, 1) := by decide +kernel
theorem f52_6 : decode prog_14_method_54_code 6 = .ok (.invokevirtual 335, 3) := by decide +kernel
theorem f52_9 : decode prog_14_method_54_code 9 = .ok (.ishr, 1) := by decide +kernel
theorem f52_10 : decode prog_14_method_54_code 10 = .ok (.ireturn, 1) := by decide +kernel
theorem f53_0 : decode prog_14_method_152_code 0 = .ok (.getstatic 38, 3) := by decide +kernel
theorem f53_3 : decode prog_14_method_152_code 3 = .ok (.ifCond .eq 10, 3) := by decide +kernel
theorem f53_6 : decode prog_14_method_152_code 6 = .ok (.aload_n 0, 1) := by decide +kernel
theorem f53_7 : decode prog_14_method_152_code 7 = .ok (.getfield 15, 3) := by decide +kernel
theorem f53_10 : decode prog_14_method_152_code 10 = .ok (.goto 4, 3) := by decide +kernel
theorem f53_14 : decode prog_14_method_152_code 14 = .ok (.ireturn, 1) := by decide +kernel
theorem f54_0 : decode prog_14_method_56_code 0 = .ok (.aload_n 0, 1) := by decide +kernel
theorem f54_1 : decode prog_14_method_56_code 1 = .ok (.invokevirtual 492, 3) := by decide +kernel
theorem f54_4 : decode prog_14_method_56_code 4 = .ok (.ifCond .eq 12, 3) := by decide +kernel
theorem f54_7 : decode prog_14_method_56_code 7 = .ok (.aload_n 0, 1) := by decide +kernel
theorem f54_8 : decode prog_14_method_56_code 8 = .ok (.getfield 9, 3) := by decide +kernel
theorem f54_11 : decode prog_14_method_56_code 11 = .ok (.iload_n 1, 1) := by decide +kernel
theorem f54_12 : decode prog_14_method_56_code 12 = .ok (.invokestatic 495, 3) := by decide +kernel
theorem f54_15 : decode prog_14_method_56_code 15 = .ok (.ireturn, 1) := by decide +kernel
theorem f54_16 : decode prog_14_method_56_code 16 = .ok (.aload_n 0, 1) := by decide +kernel
theorem f54_17 : decode prog_14_method_56_code 17 = .ok (.getfield 9, 3) := by decide +kernel
theorem f54_20 : decode prog_14_method_56_code 20 = .ok (.iload_n 1, 1) := by decide +kernel
theorem f54_21 : decode prog_14_method_56_code 21 = .ok (.invokestatic 498, 3) := by decide +kernel
theorem f54_24 : decode prog_14_method_56_code 24 = .ok (.ireturn, 1) := by decide +kernel
theorem f55_0 : decode prog_14_method_154_code 0 = .ok (.getstatic 38, 3) := by decide +kernel
theorem f55_3 : decode prog_14_method_154_code 3 = .ok (.ifCond .eq 14, 3) := by decide +kernel
theorem f55_6 : decode prog_14_method_154_code 6 = .ok (.aload_n 0, 1) := by decide +kernel
theorem f55_7 : decode prog_14_method_154_code 7 = .ok (.getfield 15, 3) := by decide +kernel
theorem f55_10 : decode prog_14_method_154_code 10 = .ok (.ifCond .ne 7, 3) := by decide +kernel
theorem f55_13 : decode prog_14_method_154_code 13 = .ok (.iconst 1, 1) := by decide +kernel
theorem f55_14 : decode prog_14_method_154_code 14 = .ok (.goto 4, 3) := by decide +kernel
theorem f55_17 : decode prog_14_method_154_code 17 = .ok (.iconst 0, 1) := by decide +kernel
theorem f55_18 : decode prog_14_method_154_code 18 = .ok (.ireturn, 1) := by decide +kernel
theorem f56_0 : decode prog_15_method_2_code 0 = .ok (.iload_n 1, 1) := by decide +kernel
theorem f56_1 : decode prog_15_method_2_code 1 = .ok (.aload_n 0, 1) := by decide +kernel
theorem f56_2 : decode prog_15_method_2_code 2 = .ok (.arraylength, 1) := by decide +kernel
theorem f56_3 : decode prog_15_method_2_code 3 = .ok (.invokestatic 9, 3) := by decide +kernel
theorem f56_6 : decode prog_15_method_2_code 6 = .ok (.aload_n 0, 1) := by decide +kernel
theorem f56_7 : decode prog_15_method_2_code 7 = .ok (.iload_n 1, 1) := by decide +kernel
theorem f56_8 : decode prog_15_method_2_code 8 = .ok (.baload, 1) := by decide +kernel
theorem f56_9 : decode prog_15_method_2_code 9 = .ok (.sipush 255, 3) := by decide +kernel
theorem f56_12 : decode prog_15_method_2_code 12 = .ok (.iand, 1) := by decide +kernel
theorem f56_13 : decode prog_15_method_2_code 13 = .ok (.i2c, 1) := by decide +kernel
theorem f56_14 : decode prog_15_method_2_code 14 = .ok (.ireturn, 1) := by decide +kernel
theorem f57_0 : decode prog_14_method_155_code 0 = .ok (.iload_n 0, 1) := by decide +kernel
theorem f57_1 : decode prog_14_method_155_code 1 = .ok (.iload_n 1, 1) := by decide +kernel
theorem f57_2 : decode prog_14_method_155_code 2 = .ok (.getstatic 1053, 3) := by decide +kernel
theorem f57_5 : decode prog_14_method_155_code 5 = .ok (.invokestatic 1059, 3) := by decide +kernel
theorem f57_8 : decode prog_14_method_155_code 8 = .ok (.pop, 1) := by decide +kernel
theorem f57_9 : decode prog_14_method_155_code 9 = .ok (.return_, 1) := by decide +kernel
theorem f58_0 : decode prog_18_method_11_code 0 = .ok (.iload_n 0, 1) := by decide +kernel
theorem f58_1 : decode prog_18_method_11_code 1 = .ok (.ifCond .lt 8, 3) := by decide +kernel
theorem f58_4 : decode prog_18_method_11_code 4 = .ok (.iload_n 0, 1) := by decide +kernel
theorem f58_5 : decode prog_18_method_11_code 5 = .ok (.iload_n 1, 1) := by decide +kernel
theorem f58_6 : decode prog_18_method_11_code 6 = .ok (.if_icmp .lt 10, 3) := by decide +kernel
theorem f58_16 : decode prog_18_method_11_code 16 = .ok (.iload_n 0, 1) := by decide +kernel
theorem f58_17 : decode prog_18_method_11_code 17 = .ok (.ireturn, 1) := by decide +kernel
theorem f75_0 : decode prog_1_method_14_code 0 = .ok (.iload_n 1, 1) := by decide +kernel
theorem f75_1 : decode prog_1_method_14_code 1 = .ok (.tableswitch 66 0 3 #[31, 39, 50, 58], 31) := by decide +kernel
theorem f75_32 : decode prog_1_method_14_code 32 = .ok (.aload_n 0, 1) := by decide +kernel
theorem f75_33 : decode prog_1_method_14_code 33 = .ok (.getfield 14, 3) := by decide +kernel
theorem f75_36 : decode prog_1_method_14_code 36 = .ok (.getfield 166, 3) := by decide +kernel
theorem f75_39 : decode prog_1_method_14_code 39 = .ok (.ireturn, 1) := by decide +kernel
theorem f75_40 : decode prog_1_method_14_code 40 = .ok (.aload_n 0, 1) := by decide +kernel
theorem f75_41 : decode prog_1_method_14_code 41 = .ok (.getfield 14, 3) := by decide +kernel
theorem f75_44 : decode prog_1_method_14_code 44 = .ok (.getfield 162, 3) := by decide +kernel
theorem f75_47 : decode prog_1_method_14_code 47 = .ok (.getfield 169, 3) := by decide +kernel
theorem f75_50 : decode prog_1_method_14_code 50 = .ok (.ireturn, 1) := by decide +kernel
theorem f75_51 : decode prog_1_method_14_code 51 = .ok (.aload_n 0, 1) := by decide +kernel
theorem f75_52 : decode prog_1_method_14_code 52 = .ok (.getfield 14, 3) := by decide +kernel
theorem f75_55 : decode prog_1_method_14_code 55 = .ok (.invokevirtual 172, 3) := by decide +kernel
theorem f75_58 : decode prog_1_method_14_code 58 = .ok (.ireturn, 1) := by decide +kernel
theorem f75_59 : decode prog_1_method_14_code 59 = .ok (.aload_n 0, 1) := by decide +kernel
theorem f75_60 : decode prog_1_method_14_code 60 = .ok (.getfield 14, 3) := by decide +kernel
theorem f75_63 : decode prog_1_method_14_code 63 = .ok (.invokevirtual 175, 3) := by decide +kernel
theorem f75_66 : decode prog_1_method_14_code 66 = .ok (.ireturn, 1) := by decide +kernel
theorem f75_67 : decode prog_1_method_14_code 67 = .ok (.iload_n 1, 1) := by decide +kernel
theorem f75_68 : decode prog_1_method_14_code 68 = .ok (.bipush 10, 2) := by decide +kernel
theorem f75_70 : decode prog_1_method_14_code 70 = .ok (.isub, 1) := by decide +kernel
theorem f75_71 : decode prog_1_method_14_code 71 = .ok (.aload_n 0, 1) := by decide +kernel
theorem f75_72 : decode prog_1_method_14_code 72 = .ok (.getfield 14, 3) := by decide +kernel
theorem f75_75 : decode prog_1_method_14_code 75 = .ok (.getfield 131, 3) := by decide +kernel
theorem f75_78 : decode prog_1_method_14_code 78 = .ok (.getfield 178, 3) := by decide +kernel
theorem f75_81 : decode prog_1_method_14_code 81 = .ok (.invokestatic 59, 3) := by decide +kernel
theorem f75_84 : decode prog_1_method_14_code 84 = .ok (.ifCond .eq 21, 3) := by decide +kernel
theorem f75_87 : decode prog_1_method_14_code 87 = .ok (.aload_n 0, 1) := by decide +kernel
theorem f75_88 : decode prog_1_method_14_code 88 = .ok (.getfield 14, 3) := by decide +kernel
theorem f75_91 : decode prog_1_method_14_code 91 = .ok (.getfield 131, 3) := by decide +kernel
theorem f75_94 : decode prog_1_method_14_code 94 = .ok (.iload_n 1, 1) := by decide +kernel
theorem f75_95 : decode prog_1_method_14_code 95 = .ok (.bipush 10, 2) := by decide +kernel
theorem f75_97 : decode prog_1_method_14_code 97 = .ok (.isub, 1) := by decide +kernel
theorem f75_98 : decode prog_1_method_14_code 98 = .ok (.iconst 0, 1) := by decide +kernel
theorem f75_99 : decode prog_1_method_14_code 99 = .ok (.invokevirtual 179, 3) := by decide +kernel
theorem f75_102 : decode prog_1_method_14_code 102 = .ok (.goto 4, 3) := by decide +kernel
theorem f75_105 : decode prog_1_method_14_code 105 = .ok (.iconst (-1), 1) := by decide +kernel
theorem f75_106 : decode prog_1_method_14_code 106 = .ok (.ireturn, 1) := by decide +kernel
theorem f76_0 : decode prog_4_method_17_code 0 = .ok (.iconst 0, 1) := by decide +kernel
theorem f76_1 : decode prog_4_method_17_code 1 = .ok (.istore_n 1, 1) := by decide +kernel
theorem f76_2 : decode prog_4_method_17_code 2 = .ok (.iconst 0, 1) := by decide +kernel
theorem f76_3 : decode prog_4_method_17_code 3 = .ok (.istore_n 2, 1) := by decide +kernel
theorem f76_4 : decode prog_4_method_17_code 4 = .ok (.iload_n 2, 1) := by decide +kernel
theorem f76_5 : decode prog_4_method_17_code 5 = .ok (.aload_n 0, 1) := by decide +kernel
theorem f76_6 : decode prog_4_method_17_code 6 = .ok (.getfield 65, 3) := by decide +kernel
theorem f76_9 : decode prog_4_method_17_code 9 = .ok (.if_icmp .ge 25, 3) := by decide +kernel
theorem f76_12 : decode prog_4_method_17_code 12 = .ok (.aload_n 0, 1) := by decide +kernel
theorem f76_13 : decode prog_4_method_17_code 13 = .ok (.iload_n 2, 1) := by decide +kernel
theorem f76_14 : decode prog_4_method_17_code 14 = .ok (.invokevirtual 129, 3) := by decide +kernel
theorem f76_17 : decode prog_4_method_17_code 17 = .ok (.bipush (-5), 2) := by decide +kernel
theorem f76_19 : decode prog_4_method_17_code 19 = .ok (.if_icmp .eq 9, 3) := by decide +kernel
theorem f76_22 : decode prog_4_method_17_code 22 = .ok (.iload_n 1, 1) := by decide +kernel
theorem f76_23 : decode prog_4_method_17_code 23 = .ok (.iconst 1, 1) := by decide +kernel
theorem f76_24 : decode prog_4_method_17_code 24 = .ok (.iload_n 2, 1) := by decide +kernel
theorem f76_25 : decode prog_4_method_17_code 25 = .ok (.ishl, 1) := by decide +kernel
theorem f76_26 : decode prog_4_method_17_code 26 = .ok (.ior, 1) := by decide +kernel
theorem f76_27 : decode prog_4_method_17_code 27 = .ok (.istore_n 1, 1) := by decide +kernel
theorem f76_28 : decode prog_4_method_17_code 28 = .ok (.iinc 2 1, 3) := by decide +kernel
theorem f76_31 : decode prog_4_method_17_code 31 = .ok (.goto (-27), 3) := by decide +kernel
theorem f76_34 : decode prog_4_method_17_code 34 = .ok (.iload_n 1, 1) := by decide +kernel
theorem f76_35 : decode prog_4_method_17_code 35 = .ok (.ireturn, 1) := by decide +kernel
theorem f78_0 : decode prog_1_method_15_code 0 = .ok (.iload_n 1, 1) := by decide +kernel
theorem f78_1 : decode prog_1_method_15_code 1 = .ok (.bipush 61, 2) := by decide +kernel
theorem f78_3 : decode prog_1_method_15_code 3 = .ok (.invokestatic 59, 3) := by decide +kernel
theorem f78_6 : decode prog_1_method_15_code 6 = .ok (.ifCond .ne 6, 3) := by decide +kernel
theorem f78_9 : decode prog_1_method_15_code 9 = .ok (.bipush (-2), 2) := by decide +kernel
theorem f78_11 : decode prog_1_method_15_code 11 = .ok (.ireturn, 1) := by decide +kernel
theorem f78_12 : decode prog_1_method_15_code 12 = .ok (.aload_n 0, 1) := by decide +kernel
theorem f78_13 : decode prog_1_method_15_code 13 = .ok (.getfield 14, 3) := by decide +kernel
theorem f78_16 : decode prog_1_method_15_code 16 = .ok (.getfield 166, 3) := by decide +kernel
theorem f78_19 : decode prog_1_method_15_code 19 = .ok (.iload_n 1, 1) := by decide +kernel
theorem f78_20 : decode prog_1_method_15_code 20 = .ok (.iadd, 1) := by decide +kernel
theorem f78_21 : decode prog_1_method_15_code 21 = .ok (.sipush 9999, 3) := by decide +kernel
theorem f78_24 : decode prog_1_method_15_code 24 = .ok (.if_icmp .le 6, 3) := by decide +kernel
theorem f78_27 : decode prog_1_method_15_code 27 = .ok (.bipush (-3), 2) := by decide +kernel
theorem f78_29 : decode prog_1_method_15_code 29 = .ok (.ireturn, 1) := by decide +kernel
theorem f78_30 : decode prog_1_method_15_code 30 = .ok (.aload_n 0, 1) := by decide +kernel
theorem f78_31 : decode prog_1_method_15_code 31 = .ok (.getfield 14, 3) := by decide +kernel
theorem f78_34 : decode prog_1_method_15_code 34 = .ok (.iload_n 1, 1) := by decide +kernel
theorem f78_35 : decode prog_1_method_15_code 35 = .ok (.invokevirtual 182, 3) := by decide +kernel
theorem f78_38 : decode prog_1_method_15_code 38 = .ok (.aload_n 0, 1) := by decide +kernel
theorem f78_39 : decode prog_1_method_15_code 39 = .ok (.getfield 14, 3) := by decide +kernel
theorem f78_42 : decode prog_1_method_15_code 42 = .ok (.getfield 166, 3) := by decide +kernel
theorem f78_45 : decode prog_1_method_15_code 45 = .ok (.ireturn, 1) := by decide +kernel
theorem f80_0 : decode prog_1_method_16_code 0 = .ok (.iload_n 3, 1) := by decide +kernel
theorem f80_1 : decode prog_1_method_16_code 1 = .ok (.bipush 10, 2) := by decide +kernel
theorem f80_3 : decode prog_1_method_16_code 3 = .ok (.isub, 1) := by decide +kernel
theorem f80_4 : decode prog_1_method_16_code 4 = .ok (.bipush 6, 2) := by decide +kernel
theorem f80_6 : decode prog_1_method_16_code 6 = .ok (.invokestatic 59, 3) := by decide +kernel
theorem f80_9 : decode prog_1_method_16_code 9 = .ok (.istore 4, 2) := by decide +kernel
theorem f80_11 : decode prog_1_method_16_code 11 = .ok (.aload_n 0, 1) := by decide +kernel
theorem f80_12 : decode prog_1_method_16_code 12 = .ok (.iload_n 2, 1) := by decide +kernel
theorem f80_13 : decode prog_1_method_16_code 13 = .ok (.invokevirtual 71, 3) := by decide +kernel
theorem f80_16 : decode prog_1_method_16_code 16 = .ok (.ifCond .eq 23, 3) := by decide +kernel
theorem f80_19 : decode prog_1_method_16_code 19 = .ok (.iload_n 3, 1) := by decide +kernel
theorem f80_20 : decode prog_1_method_16_code 20 = .ok (.bipush 6, 2) := by decide +kernel
theorem f80_22 : decode prog_1_method_16_code 22 = .ok (.invokestatic 59, 3) := by decide +kernel
theorem f80_25 : decode prog_1_method_16_code 25 = .ok (.ifCond .ne 16, 3) := by decide +kernel
theorem f80_28 : decode prog_1_method_16_code 28 = .ok (.iload 4, 2) := by decide +kernel
theorem f80_30 : decode prog_1_method_16_code 30 = .ok (.ifCond .ne 11, 3) := by decide +kernel
theorem f80_33 : decode prog_1_method_16_code 33 = .ok (.iload_n 3, 1) := by decide +kernel
theorem f80_34 : decode prog_1_method_16_code 34 = .ok (.bipush 20, 2) := by decide +kernel
theorem f80_36 : decode prog_1_method_16_code 36 = .ok (.if_icmp .eq 5, 3) := by decide +kernel
theorem f80_39 : decode prog_1_method_16_code 39 = .ok (.iconst (-1), 1) := by decide +kernel
theorem f80_40 : decode prog_1_method_16_code 40 = .ok (.ireturn, 1) := by decide +kernel
theorem f80_41 : decode prog_1_method_16_code 41 = .ok (.iload_n 1, 1) := by decide +kernel
theorem f80_42 : decode prog_1_method_16_code 42 = .ok (.bipush 61, 2) := by decide +kernel
theorem f80_44 : decode prog_1_method_16_code 44 = .ok (.invokestatic 59, 3) := by decide +kernel
theorem f80_47 : decode prog_1_method_16_code 47 = .ok (.ifCond .ne 6, 3) := by decide +kernel
theorem f80_50 : decode prog_1_method_16_code 50 = .ok (.bipush (-2), 2) := by decide +kernel
theorem f80_52 : decode prog_1_method_16_code 52 = .ok (.ireturn, 1) := by decide +kernel
theorem f80_53 : decode prog_1_method_16_code 53 = .ok (.aload_n 0, 1) := by decide +kernel
theorem f80_54 : decode prog_1_method_16_code 54 = .ok (.getfield 18, 3) := by decide +kernel
theorem f80_57 : decode prog_1_method_16_code 57 = .ok (.aload_n 0, 1) := by decide +kernel
theorem f80_58 : decode prog_1_method_16_code 58 = .ok (.getfield 14, 3) := by decide +kernel
theorem f80_61 : decode prog_1_method_16_code 61 = .ok (.invokevirtual 114, 3) := by decide +kernel
theorem f80_64 : decode prog_1_method_16_code 64 = .ok (.aload_n 0, 1) := by decide +kernel
theorem f80_65 : decode prog_1_method_16_code 65 = .ok (.getfield 18, 3) := by decide +kernel
theorem f80_68 : decode prog_1_method_16_code 68 = .ok (.iload_n 1, 1) := by decide +kernel
theorem f80_69 : decode prog_1_method_16_code 69 = .ok (.invokevirtual 182, 3) := by decide +kernel
theorem f80_72 : decode prog_1_method_16_code 72 = .ok (.iload 4, 2) := by decide +kernel
theorem f80_74 : decode prog_1_method_16_code 74 = .ok (.ifCond .eq 16, 3) := by decide +kernel
theorem f80_77 : decode prog_1_method_16_code 77 = .ok (.aload_n 0, 1) := by decide +kernel
theorem f80_78 : decode prog_1_method_16_code 78 = .ok (.getfield 18, 3) := by decide +kernel
theorem f80_81 : decode prog_1_method_16_code 81 = .ok (.iload_n 2, 1) := by decide +kernel
theorem f80_82 : decode prog_1_method_16_code 82 = .ok (.iload_n 3, 1) := by decide +kernel
theorem f80_83 : decode prog_1_method_16_code 83 = .ok (.bipush 10, 2) := by decide +kernel
theorem f80_85 : decode prog_1_method_16_code 85 = .ok (.isub, 1) := by decide +kernel
theorem f80_86 : decode prog_1_method_16_code 86 = .ok (.invokevirtual 102, 3) := by decide +kernel
theorem f80_89 : decode prog_1_method_16_code 89 = .ok (.ireturn, 1) := by decide +kernel
theorem f80_90 : decode prog_1_method_16_code 90 = .ok (.iload_n 3, 1) := by decide +kernel
theorem f80_91 : decode prog_1_method_16_code 91 = .ok (.bipush 20, 2) := by decide +kernel
theorem f80_93 : decode prog_1_method_16_code 93 = .ok (.if_icmp .ne 14, 3) := by decide +kernel
theorem f80_96 : decode prog_1_method_16_code 96 = .ok (.aload_n 0, 1) := by decide +kernel
theorem f80_97 : decode prog_1_method_16_code 97 = .ok (.getfield 18, 3) := by decide +kernel
theorem f80_100 : decode prog_1_method_16_code 100 = .ok (.iload_n 2, 1) := by decide +kernel
theorem f80_101 : decode prog_1_method_16_code 101 = .ok (.invokevirtual 85, 3) := by decide +kernel
theorem f80_104 : decode prog_1_method_16_code 104 = .ok (.goto 12, 3) := by decide +kernel
theorem f80_107 : decode prog_1_method_16_code 107 = .ok (.aload_n 0, 1) := by decide +kernel
theorem f80_108 : decode prog_1_method_16_code 108 = .ok (.getfield 18, 3) := by decide +kernel
theorem f80_111 : decode prog_1_method_16_code 111 = .ok (.iload_n 2, 1) := by decide +kernel
theorem f80_112 : decode prog_1_method_16_code 112 = .ok (.iload_n 3, 1) := by decide +kernel
theorem f80_113 : decode prog_1_method_16_code 113 = .ok (.invokevirtual 105, 3) := by decide +kernel
theorem f80_116 : decode prog_1_method_16_code 116 = .ok (.ireturn, 1) := by decide +kernel
theorem f83_0 : decode prog_1_method_18_code 0 = .ok (.iload_n 2, 1) := by decide +kernel
theorem f83_1 : decode prog_1_method_18_code 1 = .ok (.iconst (-1), 1) := by decide +kernel
theorem f83_2 : decode prog_1_method_18_code 2 = .ok (.if_icmp .lt 9, 3) := by decide +kernel
theorem f83_5 : decode prog_1_method_18_code 5 = .ok (.iload_n 2, 1) := by decide +kernel
theorem f83_6 : decode prog_1_method_18_code 6 = .ok (.bipush 6, 2) := by decide +kernel
theorem f83_8 : decode prog_1_method_18_code 8 = .ok (.if_icmp .lt 5, 3) := by decide +kernel
theorem f83_11 : decode prog_1_method_18_code 11 = .ok (.iconst (-1), 1) := by decide +kernel
theorem f83_12 : decode prog_1_method_18_code 12 = .ok (.ireturn, 1) := by decide +kernel
theorem f83_13 : decode prog_1_method_18_code 13 = .ok (.iload_n 1, 1) := by decide +kernel
theorem f83_14 : decode prog_1_method_18_code 14 = .ok (.aload_n 0, 1) := by decide +kernel
theorem f83_15 : decode prog_1_method_18_code 15 = .ok (.getfield 14, 3) := by decide +kernel
theorem f83_18 : decode prog_1_method_18_code 18 = .ok (.getfield 63, 3) := by decide +kernel
theorem f83_21 : decode prog_1_method_18_code 21 = .ok (.ishr, 1) := by decide +kernel
theorem f83_22 : decode prog_1_method_18_code 22 = .ok (.ifCond .eq 6, 3) := by decide +kernel
theorem f83_25 : decode prog_1_method_18_code 25 = .ok (.bipush (-2), 2) := by decide +kernel
theorem f83_27 : decode prog_1_method_18_code 27 = .ok (.ireturn, 1) := by decide +kernel
theorem f83_28 : decode prog_1_method_18_code 28 = .ok (.aload_n 0, 1) := by decide +kernel
theorem f83_29 : decode prog_1_method_18_code 29 = .ok (.getfield 53, 3) := by decide +kernel
theorem f83_32 : decode prog_1_method_18_code 32 = .ok (.aload_n 0, 1) := by decide +kernel
theorem f83_33 : decode prog_1_method_18_code 33 = .ok (.getfield 14, 3) := by decide +kernel
theorem f83_36 : decode prog_1_method_18_code 36 = .ok (.iload_n 1, 1) := by decide +kernel
theorem f83_37 : decode prog_1_method_18_code 37 = .ok (.invokevirtual 189, 3) := by decide +kernel
theorem f83_40 : decode prog_1_method_18_code 40 = .ok (.iload_n 2, 1) := by decide +kernel
theorem f83_41 : decode prog_1_method_18_code 41 = .ok (.iconst (-1), 1) := by decide +kernel
theorem f83_42 : decode prog_1_method_18_code 42 = .ok (.if_icmp .ne 11, 3) := by decide +kernel
theorem f83_45 : decode prog_1_method_18_code 45 = .ok (.aload_n 0, 1) := by decide +kernel
theorem f83_46 : decode prog_1_method_18_code 46 = .ok (.getfield 53, 3) := by decide +kernel
theorem f83_49 : decode prog_1_method_18_code 49 = .ok (.invokevirtual 193, 3) := by decide +kernel
theorem f83_52 : decode prog_1_method_18_code 52 = .ok (.ireturn, 1) := by decide +kernel
theorem f83_53 : decode prog_1_method_18_code 53 = .ok (.iload_n 2, 1) := by decide +kernel
theorem f83_54 : decode prog_1_method_18_code 54 = .ok (.aload_n 0, 1) := by decide +kernel
theorem f83_55 : decode prog_1_method_18_code 55 = .ok (.getfield 53, 3) := by decide +kernel
theorem f83_58 : decode prog_1_method_18_code 58 = .ok (.getfield 196, 3) := by decide +kernel
theorem f83_61 : decode prog_1_method_18_code 61 = .ok (.if_icmp .ge 15, 3) := by decide +kernel
theorem f83_64 : decode prog_1_method_18_code 64 = .ok (.aload_n 0, 1) := by decide +kernel
theorem f83_65 : decode prog_1_method_18_code 65 = .ok (.getfield 53, 3) := by decide +kernel
theorem f83_68 : decode prog_1_method_18_code 68 = .ok (.getfield 197, 3) := by decide +kernel
theorem f83_71 : decode prog_1_method_18_code 71 = .ok (.iload_n 2, 1) := by decide +kernel
theorem f83_72 : decode prog_1_method_18_code 72 = .ok (.iaload, 1) := by decide +kernel
theorem f83_73 : decode prog_1_method_18_code 73 = .ok (.goto 5, 3) := by decide +kernel
theorem f83_76 : decode prog_1_method_18_code 76 = .ok (.bipush (-5), 2) := by decide +kernel
theorem f83_78 : decode prog_1_method_18_code 78 = .ok (.ireturn, 1) := by decide +kernel
theorem f85_0 : decode prog_12_method_49_code 0 = .ok (.iload_n 0, 1) := by decide +kernel
theorem f85_1 : decode prog_12_method_49_code 1 = .ok (.iload_n 0, 1) := by decide +kernel
theorem f85_2 : decode prog_12_method_49_code 2 = .ok (.iconst 1, 1) := by decide +kernel
theorem f85_3 : decode prog_12_method_49_code 3 = .ok (.iushr, 1) := by decide +kernel
theorem f85_4 : decode prog_12_method_49_code 4 = .ok (.ldc_w 265, 3) := by decide +kernel
theorem f85_7 : decode prog_12_method_49_code 7 = .ok (.iand, 1) := by decide +kernel
theorem f85_8 : decode prog_12_method_49_code 8 = .ok (.isub, 1) := by decide +kernel
theorem f85_9 : decode prog_12_method_49_code 9 = .ok (.istore_n 0, 1) := by decide +kernel
theorem f85_10 : decode prog_12_method_49_code 10 = .ok (.iload_n 0, 1) := by decide +kernel
theorem f85_11 : decode prog_12_method_49_code 11 = .ok (.ldc_w 266, 3) := by decide +kernel
theorem f85_14 : decode prog_12_method_49_code 14 = .ok (.iand, 1) := by decide +kernel
theorem f85_15 : decode prog_12_method_49_code 15 = .ok (.iload_n 0, 1) := by decide +kernel
theorem f85_16 : decode prog_12_method_49_code 16 = .ok (.iconst 2, 1) := by decide +kernel
theorem f85_17 : decode prog_12_method_49_code 17 = .ok (.iushr, 1) := by decide +kernel
theorem f85_18 : decode prog_12_method_49_code 18 = .ok (.ldc_w 266, 3) := by decide +kernel
theorem f85_21 : decode prog_12_method_49_code 21 = .ok (.iand, 1) := by decide +kernel
theorem f85_22 : decode prog_12_method_49_code 22 = .ok (.iadd, 1) := by decide +kernel
theorem f85_23 : decode prog_12_method_49_code 23 = .ok (.istore_n 0, 1) := by decide +kernel
theorem f85_24 : decode prog_12_method_49_code 24 = .ok (.iload_n 0, 1) := by decide +kernel
theorem f85_25 : decode prog_12_method_49_code 25 = .ok (.iload_n 0, 1) := by decide +kernel
theorem f85_26 : decode prog_12_method_49_code 26 = .ok (.iconst 4, 1) := by decide +kernel
theorem f85_27 : decode prog_12_method_49_code 27 = .ok (.iushr, 1) := by decide +kernel
theorem f85_28 : decode prog_12_method_49_code 28 = .ok (.iadd, 1) := by decide +kernel
theorem f85_29 : decode prog_12_method_49_code 29 = .ok (.ldc_w 267, 3) := by decide +kernel
theorem f85_32 : decode prog_12_method_49_code 32 = .ok (.iand, 1) := by decide +kernel
theorem f85_33 : decode prog_12_method_49_code 33 = .ok (.istore_n 0, 1) := by decide +kernel
theorem f85_34 : decode prog_12_method_49_code 34 = .ok (.iload_n 0, 1) := by decide +kernel
theorem f85_35 : decode prog_12_method_49_code 35 = .ok (.iload_n 0, 1) := by decide +kernel
theorem f85_36 : decode prog_12_method_49_code 36 = .ok (.bipush 8, 2) := by decide +kernel
theorem f85_38 : decode prog_12_method_49_code 38 = .ok (.iushr, 1) := by decide +kernel
theorem f85_39 : decode prog_12_method_49_code 39 = .ok (.iadd, 1) := by decide +kernel
theorem f85_40 : decode prog_12_method_49_code 40 = .ok (.istore_n 0, 1) := by decide +kernel
theorem f85_41 : decode prog_12_method_49_code 41 = .ok (.iload_n 0, 1) := by decide +kernel
theorem f85_42 : decode prog_12_method_49_code 42 = .ok (.iload_n 0, 1) := by decide +kernel
theorem f85_43 : decode prog_12_method_49_code 43 = .ok (.bipush 16, 2) := by decide +kernel
theorem f85_45 : decode prog_12_method_49_code 45 = .ok (.iushr, 1) := by decide +kernel
theorem f85_46 : decode prog_12_method_49_code 46 = .ok (.iadd, 1) := by decide +kernel
theorem f85_47 : decode prog_12_method_49_code 47 = .ok (.istore_n 0, 1) := by decide +kernel
theorem f85_48 : decode prog_12_method_49_code 48 = .ok (.iload_n 0, 1) := by decide +kernel
theorem f85_49 : decode prog_12_method_49_code 49 = .ok (.bipush 63, 2) := by decide +kernel
theorem f85_51 : decode prog_12_method_49_code 51 = .ok (.iand, 1) := by decide +kernel
theorem f85_52 : decode prog_12_method_49_code 52 = .ok (.ireturn, 1) := by decide +kernel
theorem f90_0 : decode prog_1_method_21_code 0 = .ok (.aload_n 0, 1) := by decide +kernel
theorem f90_1 : decode prog_1_method_21_code 1 = .ok (.iload_n 1, 1) := by decide +kernel
theorem f90_2 : decode prog_1_method_21_code 2 = .ok (.invokevirtual 71, 3) := by decide +kernel
theorem f90_5 : decode prog_1_method_21_code 5 = .ok (.ifCond .eq 11, 3) := by decide +kernel
theorem f90_8 : decode prog_1_method_21_code 8 = .ok (.iload_n 2, 1) := by decide +kernel
theorem f90_9 : decode prog_1_method_21_code 9 = .ok (.iconst 2, 1) := by decide +kernel
theorem f90_10 : decode prog_1_method_21_code 10 = .ok (.invokestatic 59, 3) := by decide +kernel
theorem f90_13 : decode prog_1_method_21_code 13 = .ok (.ifCond .ne 5, 3) := by decide +kernel
theorem f90_16 : decode prog_1_method_21_code 16 = .ok (.iconst (-1), 1) := by decide +kernel
theorem f90_17 : decode prog_1_method_21_code 17 = .ok (.ireturn, 1) := by decide +kernel
theorem f90_18 : decode prog_1_method_21_code 18 = .ok (.iconst 0, 1) := by decide +kernel
theorem f90_19 : decode prog_1_method_21_code 19 = .ok (.istore_n 3, 1) := by decide +kernel
theorem f90_20 : decode prog_1_method_21_code 20 = .ok (.bipush (-5), 2) := by decide +kernel
theorem f90_22 : decode prog_1_method_21_code 22 = .ok (.istore 4, 2) := by decide +kernel
theorem f90_24 : decode prog_1_method_21_code 24 = .ok (.bipush 9, 2) := by decide +kernel
theorem f90_26 : decode prog_1_method_21_code 26 = .ok (.istore 5, 2) := by decide +kernel
theorem f90_28 : decode prog_1_method_21_code 28 = .ok (.iload 5, 2) := by decide +kernel
theorem f90_30 : decode prog_1_method_21_code 30 = .ok (.ifCond .lt 49, 3) := by decide +kernel
theorem f90_33 : decode prog_1_method_21_code 33 = .ok (.aload_n 0, 1) := by decide +kernel
theorem f90_34 : decode prog_1_method_21_code 34 = .ok (.getfield 18, 3) := by decide +kernel
theorem f90_37 : decode prog_1_method_21_code 37 = .ok (.aload_n 0, 1) := by decide +kernel
theorem f90_38 : decode prog_1_method_21_code 38 = .ok (.getfield 14, 3) := by decide +kernel
theorem f90_41 : decode prog_1_method_21_code 41 = .ok (.invokevirtual 114, 3) := by decide +kernel
theorem f90_44 : decode prog_1_method_21_code 44 = .ok (.aload_n 0, 1) := by decide +kernel
theorem f90_45 : decode prog_1_method_21_code 45 = .ok (.getfield 18, 3) := by decide +kernel
theorem f90_48 : decode prog_1_method_21_code 48 = .ok (.getfield 79, 3) := by decide +kernel
theorem f90_51 : decode prog_1_method_21_code 51 = .ok (.iload_n 1, 1) := by decide +kernel
theorem f90_52 : decode prog_1_method_21_code 52 = .ok (.iload 5, 2) := by decide +kernel
theorem f90_54 : decode prog_1_method_21_code 54 = .ok (.iastore, 1) := by decide +kernel
theorem f90_55 : decode prog_1_method_21_code 55 = .ok (.aload_n 0, 1) := by decide +kernel
theorem f90_56 : decode prog_1_method_21_code 56 = .ok (.getfield 18, 3) := by decide +kernel
theorem f90_59 : decode prog_1_method_21_code 59 = .ok (.iload_n 1, 1) := by decide +kernel
theorem f90_60 : decode prog_1_method_21_code 60 = .ok (.invokevirtual 128, 3) := by decide +kernel
theorem f90_63 : decode prog_1_method_21_code 63 = .ok (.ifCond .eq 10, 3) := by decide +kernel
theorem f90_66 : decode prog_1_method_21_code 66 = .ok (.iinc 3 1, 3) := by decide +kernel
theorem f90_69 : decode prog_1_method_21_code 69 = .ok (.iload 5, 2) := by decide +kernel
theorem f90_71 : decode prog_1_method_21_code 71 = .ok (.istore 4, 2) := by decide +kernel
theorem f90_73 : decode prog_1_method_21_code 73 = .ok (.iinc 5 (-1), 3) := by decide +kernel
theorem f90_76 : decode prog_1_method_21_code 76 = .ok (.goto (-48), 3) := by decide +kernel
theorem f90_79 : decode prog_1_method_21_code 79 = .ok (.iload_n 2, 1) := by decide +kernel
theorem f90_80 : decode prog_1_method_21_code 80 = .ok (.ifCond .ne 7, 3) := by decide +kernel
theorem f90_83 : decode prog_1_method_21_code 83 = .ok (.iload_n 3, 1) := by decide +kernel
theorem f90_84 : decode prog_1_method_21_code 84 = .ok (.goto 5, 3) := by decide +kernel
theorem f90_87 : decode prog_1_method_21_code 87 = .ok (.iload 4, 2) := by decide +kernel
theorem f90_89 : decode prog_1_method_21_code 89 = .ok (.ireturn, 1) := by decide +kernel
theorem f91_0 : decode prog_1_method_22_code 0 = .ok (.aload_n 0, 1) := by decide +kernel
theorem f91_1 : decode prog_1_method_22_code 1 = .ok (.iload_n 1, 1) := by decide +kernel
theorem f91_2 : decode prog_1_method_22_code 2 = .ok (.invokevirtual 71, 3) := by decide +kernel
theorem f91_5 : decode prog_1_method_22_code 5 = .ok (.ifCond .eq 11, 3) := by decide +kernel
theorem f91_8 : decode prog_1_method_22_code 8 = .ok (.iload_n 2, 1) := by decide +kernel
theorem f91_9 : decode prog_1_method_22_code 9 = .ok (.iconst 2, 1) := by decide +kernel
theorem f91_10 : decode prog_1_method_22_code 10 = .ok (.invokestatic 59, 3) := by decide +kernel
theorem f91_13 : decode prog_1_method_22_code 13 = .ok (.ifCond .ne 7, 3) := by decide +kernel
theorem f91_16 : decode prog_1_method_22_code 16 = .ok (.ldc2_w 206, 3) := by decide +kernel
theorem f91_19 : decode prog_1_method_22_code 19 = .ok (.lreturn, 1) := by decide +kernel
theorem f91_20 : decode prog_1_method_22_code 20 = .ok (.aload_n 0, 1) := by decide +kernel
theorem f91_21 : decode prog_1_method_22_code 21 = .ok (.iload_n 1, 1) := by decide +kernel
theorem f91_22 : decode prog_1_method_22_code 22 = .ok (.invokevirtual 208, 3) := by decide +kernel
theorem f91_25 : decode prog_1_method_22_code 25 = .ok (.bipush 60, 2) := by decide +kernel
theorem f91_27 : decode prog_1_method_22_code 27 = .ok (.iload_n 2, 1) := by decide +kernel
theorem f91_28 : decode prog_1_method_22_code 28 = .ok (.invokestatic 211, 3) := by decide +kernel
theorem f91_31 : decode prog_1_method_22_code 31 = .ok (.lreturn, 1) := by decide +kernel
theorem f92_0 : decode prog_1_method_23_code 0 = .ok (.iconst 0, 1) := by decide +kernel
theorem f92_1 : decode prog_1_method_23_code 1 = .ok (.istore_n 2, 1) := by decide +kernel
theorem f92_2 : decode prog_1_method_23_code 2 = .ok (.aload_n 0, 1) := by decide +kernel
theorem f92_3 : decode prog_1_method_23_code 3 = .ok (.getfield 18, 3) := by decide +kernel
theorem f92_6 : decode prog_1_method_23_code 6 = .ok (.aload_n 0, 1) := by decide +kernel
theorem f92_7 : decode prog_1_method_23_code 7 = .ok (.getfield 14, 3) := by decide +kernel
theorem f92_10 : decode prog_1_method_23_code 10 = .ok (.invokevirtual 114, 3) := by decide +kernel
theorem f92_13 : decode prog_1_method_23_code 13 = .ok (.iconst 0, 1) := by decide +kernel
theorem f92_14 : decode prog_1_method_23_code 14 = .ok (.istore_n 3, 1) := by decide +kernel
theorem f92_15 : decode prog_1_method_23_code 15 = .ok (.iload_n 3, 1) := by decide +kernel
theorem f92_16 : decode prog_1_method_23_code 16 = .ok (.bipush 60, 2) := by decide +kernel
theorem f92_18 : decode prog_1_method_23_code 18 = .ok (.if_icmp .ge 21, 3) := by decide +kernel
theorem f92_21 : decode prog_1_method_23_code 21 = .ok (.aload_n 0, 1) := by decide +kernel
theorem f92_22 : decode prog_1_method_23_code 22 = .ok (.iload_n 1, 1) := by decide +kernel
theorem f92_23 : decode prog_1_method_23_code 23 = .ok (.iload_n 3, 1) := by decide +kernel
theorem f92_24 : decode prog_1_method_23_code 24 = .ok (.invokevirtual 121, 3) := by decide +kernel
theorem f92_27 : decode prog_1_method_23_code 27 = .ok (.ifCond .eq 6, 3) := by decide +kernel
theorem f92_30 : decode prog_1_method_23_code 30 = .ok (.iinc 2 1, 3) := by decide +kernel
theorem f92_33 : decode prog_1_method_23_code 33 = .ok (.iinc 3 1, 3) := by decide +kernel
theorem f92_36 : decode prog_1_method_23_code 36 = .ok (.goto (-21), 3) := by decide +kernel
theorem f92_39 : decode prog_1_method_23_code 39 = .ok (.iload_n 2, 1) := by decide +kernel
theorem f92_40 : decode prog_1_method_23_code 40 = .ok (.ireturn, 1) := by decide +kernel
theorem f93_0 : decode prog_1_method_25_code 0 = .ok (.iload_n 0, 1) := by decide +kernel
theorem f93_1 : decode prog_1_method_25_code 1 = .ok (.iload_n 1, 1) := by decide +kernel
theorem f93_2 : decode prog_1_method_25_code 2 = .ok (.invokestatic 215, 3) := by decide +kernel
theorem f93_5 : decode prog_1_method_25_code 5 = .ok (.istore_n 3, 1) := by decide +kernel
theorem f93_6 : decode prog_1_method_25_code 6 = .ok (.iload_n 2, 1) := by decide +kernel
theorem f93_7 : decode prog_1_method_25_code 7 = .ok (.ifCond .ne 7, 3) := by decide +kernel
theorem f93_10 : decode prog_1_method_25_code 10 = .ok (.iload_n 0, 1) := by decide +kernel
theorem f93_11 : decode prog_1_method_25_code 11 = .ok (.goto 4, 3) := by decide +kernel
theorem f93_14 : decode prog_1_method_25_code 14 = .ok (.iload_n 1, 1) := by decide +kernel
theorem f93_15 : decode prog_1_method_25_code 15 = .ok (.istore 4, 2) := by decide +kernel
theorem f93_17 : decode prog_1_method_25_code 17 = .ok (.iload_n 3, 1) := by decide +kernel
theorem f93_18 : decode prog_1_method_25_code 18 = .ok (.ifCond .ne 9, 3) := by decide +kernel
theorem f93_21 : decode prog_1_method_25_code 21 = .ok (.iload 4, 2) := by decide +kernel
theorem f93_23 : decode prog_1_method_25_code 23 = .ok (.i2l, 1) := by decide +kernel
theorem f93_24 : decode prog_1_method_25_code 24 = .ok (.goto 8, 3) := by decide +kernel
theorem f93_27 : decode prog_1_method_25_code 27 = .ok (.iload 4, 2) := by decide +kernel
theorem f93_29 : decode prog_1_method_25_code 29 = .ok (.iload_n 3, 1) := by decide +kernel
theorem f93_30 : decode prog_1_method_25_code 30 = .ok (.idiv, 1) := by decide +kernel
theorem f93_31 : decode prog_1_method_25_code 31 = .ok (.i2l, 1) := by decide +kernel
theorem f93_32 : decode prog_1_method_25_code 32 = .ok (.lreturn, 1) := by decide +kernel
theorem f95_0 : decode prog_1_method_24_code 0 = .ok (.iload_n 1, 1) := by decide +kernel
theorem f95_1 : decode prog_1_method_24_code 1 = .ok (.bipush 61, 2) := by decide +kernel
theorem f95_3 : decode prog_1_method_24_code 3 = .ok (.invokestatic 59, 3) := by decide +kernel
theorem f95_6 : decode prog_1_method_24_code 6 = .ok (.ifCond .eq 21, 3) := by decide +kernel
theorem f95_9 : decode prog_1_method_24_code 9 = .ok (.iload_n 2, 1) := by decide +kernel
theorem f95_10 : decode prog_1_method_24_code 10 = .ok (.iconst 2, 1) := by decide +kernel
theorem f95_11 : decode prog_1_method_24_code 11 = .ok (.invokestatic 59, 3) := by decide +kernel
theorem f95_14 : decode prog_1_method_24_code 14 = .ok (.ifCond .eq 13, 3) := by decide +kernel
theorem f95_17 : decode prog_1_method_24_code 17 = .ok (.aload_n 0, 1) := by decide +kernel
theorem f95_18 : decode prog_1_method_24_code 18 = .ok (.getfield 14, 3) := by decide +kernel
theorem f95_21 : decode prog_1_method_24_code 21 = .ok (.getfield 63, 3) := by decide +kernel
theorem f95_24 : decode prog_1_method_24_code 24 = .ok (.ifCond .ne 7, 3) := by decide +kernel
theorem f95_27 : decode prog_1_method_24_code 27 = .ok (.ldc2_w 206, 3) := by decide +kernel
theorem f95_30 : decode prog_1_method_24_code 30 = .ok (.lreturn, 1) := by decide +kernel
theorem f95_31 : decode prog_1_method_24_code 31 = .ok (.aload_n 0, 1) := by decide +kernel
theorem f95_32 : decode prog_1_method_24_code 32 = .ok (.getfield 18, 3) := by decide +kernel
theorem f95_35 : decode prog_1_method_24_code 35 = .ok (.aload_n 0, 1) := by decide +kernel
theorem f95_36 : decode prog_1_method_24_code 36 = .ok (.getfield 14, 3) := by decide +kernel
theorem f95_39 : decode prog_1_method_24_code 39 = .ok (.invokevirtual 114, 3) := by decide +kernel
theorem f95_42 : decode prog_1_method_24_code 42 = .ok (.aload_n 0, 1) := by decide +kernel
theorem f95_43 : decode prog_1_method_24_code 43 = .ok (.getfield 18, 3) := by decide +kernel
theorem f95_46 : decode prog_1_method_24_code 46 = .ok (.iload_n 1, 1) := by decide +kernel
theorem f95_47 : decode prog_1_method_24_code 47 = .ok (.invokevirtual 182, 3) := by decide +kernel
theorem f95_50 : decode prog_1_method_24_code 50 = .ok (.aload_n 0, 1) := by decide +kernel
theorem f95_51 : decode prog_1_method_24_code 51 = .ok (.getfield 18, 3) := by decide +kernel
theorem f95_54 : decode prog_1_method_24_code 54 = .ok (.invokevirtual 175, 3) := by decide +kernel
theorem f95_57 : decode prog_1_method_24_code 57 = .ok (.aload_n 0, 1) := by decide +kernel
theorem f95_58 : decode prog_1_method_24_code 58 = .ok (.getfield 14, 3) := by decide +kernel
theorem f95_61 : decode prog_1_method_24_code 61 = .ok (.getfield 63, 3) := by decide +kernel
theorem f95_64 : decode prog_1_method_24_code 64 = .ok (.bipush 6, 2) := by decide +kernel
theorem f95_66 : decode prog_1_method_24_code 66 = .ok (.imul, 1) := by decide +kernel
theorem f95_67 : decode prog_1_method_24_code 67 = .ok (.iload_n 2, 1) := by decide +kernel
theorem f95_68 : decode prog_1_method_24_code 68 = .ok (.invokestatic 211, 3) := by decide +kernel
theorem f95_71 : decode prog_1_method_24_code 71 = .ok (.lreturn, 1) := by decide +kernel
theorem f97_0 : decode prog_1_method_28_code 0 = .ok (.iload_n 1, 1) := by decide +kernel
theorem f97_1 : decode prog_1_method_28_code 1 = .ok (.iconst 2, 1) := by decide +kernel
theorem f97_2 : decode prog_1_method_28_code 2 = .ok (.invokestatic 59, 3) := by decide +kernel
theorem f97_5 : decode prog_1_method_28_code 5 = .ok (.ifCond .ne 5, 3) := by decide +kernel
theorem f97_8 : decode prog_1_method_28_code 8 = .ok (.iconst (-1), 1) := by decide +kernel
theorem f97_9 : decode prog_1_method_28_code 9 = .ok (.ireturn, 1) := by decide +kernel
theorem f97_10 : decode prog_1_method_28_code 10 = .ok (.aload_n 0, 1) := by decide +kernel
theorem f97_11 : decode prog_1_method_28_code 11 = .ok (.getfield 18, 3) := by decide +kernel
theorem f97_14 : decode prog_1_method_28_code 14 = .ok (.aload_n 0, 1) := by decide +kernel
theorem f97_15 : decode prog_1_method_28_code 15 = .ok (.getfield 14, 3) := by decide +kernel
theorem f97_18 : decode prog_1_method_28_code 18 = .ok (.invokevirtual 114, 3) := by decide +kernel
theorem f97_21 : decode prog_1_method_28_code 21 = .ok (.aload_n 0, 1) := by decide +kernel
theorem f97_22 : decode prog_1_method_28_code 22 = .ok (.getfield 18, 3) := by decide +kernel
theorem f97_25 : decode prog_1_method_28_code 25 = .ok (.invokevirtual 221, 3) := by decide +kernel
theorem f97_28 : decode prog_1_method_28_code 28 = .ok (.iload_n 1, 1) := by decide +kernel
theorem f97_29 : decode prog_1_method_28_code 29 = .ok (.ifCond .ne 13, 3) := by decide +kernel
theorem f97_32 : decode prog_1_method_28_code 32 = .ok (.aload_n 0, 1) := by decide +kernel
theorem f97_33 : decode prog_1_method_28_code 33 = .ok (.getfield 18, 3) := by decide +kernel
theorem f97_36 : decode prog_1_method_28_code 36 = .ok (.invokevirtual 175, 3) := by decide +kernel
theorem f97_39 : decode prog_1_method_28_code 39 = .ok (.goto 10, 3) := by decide +kernel
theorem f97_42 : decode prog_1_method_28_code 42 = .ok (.aload_n 0, 1) := by decide +kernel
theorem f97_43 : decode prog_1_method_28_code 43 = .ok (.getfield 18, 3) := by decide +kernel
theorem f97_46 : decode prog_1_method_28_code 46 = .ok (.invokevirtual 172, 3) := by decide +kernel
theorem f97_49 : decode prog_1_method_28_code 49 = .ok (.ireturn, 1) := by decide +kernel
section YD
variable {zl : Nat} {nl : Option Nat} {h : Hp}
/-- HatterTunes.whenHeard(I)I -/
theorem E27 {d : Nat} {K : Int → Hp → Prop} (w : yWF zl nl h) {x0 : Int} (hd : 1 ≤ d) (k : yU (d - 1) 28 [vR (some 52), vR (some 33)] h (fun h' => ZW d prog_1_method_5_code 7 11 [some (vR (some 32)), some (vI x0), none] [] h' (yq 1 (yqI K)))) : yI d 27 [vR (some 32), vI x0] h K := by
  refine y_en (L := [some (vR (some 32)), some (vI x0), none]) rfl rfl ?_
  refine y_s (pc' := 1) (L' := [some (vR (some 32)), some (vI x0), none]) (st' := [vR (some 32)]) (h' := h) f27_0 rfl ?_
  refine y_gr (pc' := 4) f27_1 yf_7_18 rfl rfl (ys32 w) (yp32_1 w) rfl ?_
  refine y_s (pc' := 5) (L' := [some (vR (some 32)), some (vI x0), none]) (st' := [vR (some 32), vR (some 52)]) (h' := h) f27_4 rfl ?_
  refine y_gr (pc' := 8) f27_5 yf_7_14 rfl rfl (ys32 w) (yp32_0 w) rfl ?_
  refine y_cU (pc' := 11) (as := [vR (some 52), vR (some 33)]) (r := []) f27_8 (yzv ym_7_114 rfl (ys52 w) rfl rfl) (by omega) rfl ?_
  exact k
theorem W27_11 {d : Nat} {K : Int → Hp → Prop} (w : yWF zl nl h) {l1 : Int} (k : ZW d prog_1_method_5_code 7 13 [some (vR (some 32)), some (vI l1), some (vI 0)] [] h (yq 1 (yqI K))) : ZW d prog_1_method_5_code 7 11 [some (vR (some 32)), some (vI l1), none] [] h (yq 1 (yqI K)) := by
  refine y_s (pc' := 12) (L' := [some (vR (some 32)), some (vI l1), none]) (st' := [vI 0]) (h' := h) f27_11 rfl ?_
  refine y_sto (pc' := 13) (k := 2) (L' := [some (vR (some 32)), some (vI l1), some (vI 0)]) f27_12 rfl rfl rfl rfl rfl rfl ?_
  exact k
theorem W27_13 {d : Nat} {K : Int → Hp → Prop} (w : yWF zl nl h) {l1 : Int} {l2 : Int} (hd : 1 ≤ d) (k : ((60 < l2 → K (-5) h) ∧ (¬ (60 < l2) → yI (d - 1) 24 [vR (some 52), vI l1] h (fun x h' => ZW d prog_1_method_5_code 7 27 [some (vR (some 32)), some (vI l1), some (vI l2)] [vI x] h' (yq 1 (yqI K)))))) : ZW d prog_1_method_5_code 7 13 [some (vR (some 32)), some (vI l1), some (vI l2)] [] h (yq 1 (yqI K)) := by
  refine y_s (pc' := 14) (L' := [some (vR (some 32)), some (vI l1), some (vI l2)]) (st' := [vI l2]) (h' := h) f27_13 rfl ?_
  refine y_s (pc' := 16) (L' := [some (vR (some 32)), some (vI l1), some (vI l2)]) (st' := [vI 60, vI l2]) (h' := h) f27_14 rfl ?_
  refine y_ic (pcT := 47) (pc' := 19) (P := 60 < l2) f27_16 rfl rfl rfl (fun c => ?_) (fun c => ?_)
  · replace k := k.1 c
    refine y_s (pc' := 49) (L' := [some (vR (some 32)), some (vI l1), some (vI l2)]) (st' := [vI (-5)]) (h' := h) f27_47 rfl ?_
    exact y_ri f27_49 ⟨rfl, k⟩
  · replace k := k.2 c
    refine y_s (pc' := 20) (L' := [some (vR (some 32)), some (vI l1), some (vI l2)]) (st' := [vR (some 32)]) (h' := h) f27_19 rfl ?_
    refine y_gr (pc' := 23) f27_20 yf_7_18 rfl rfl (ys32 w) (yp32_1 w) rfl ?_
    refine y_s (pc' := 24) (L' := [some (vR (some 32)), some (vI l1), some (vI l2)]) (st' := [vI l1, vR (some 52)]) (h' := h) f27_23 rfl ?_
    refine y_cI (pc' := 27) (as := [vR (some 52), vI l1]) (r := []) f27_24 (yzv ym_7_89 rfl (ys52 w) rfl rfl) (by omega) rfl ?_
    exact k
theorem W27_27 {d : Nat} {K : Int → Hp → Prop} (w : yWF zl nl h) {l1 : Int} {l2 : Int} {s0 : Int} (hd : 1 ≤ d) (k : ((s0 = (-5) → yU (d - 1) 30 [vR (some 52)] h (fun h' => ZW d prog_1_method_5_code 7 41 [some (vR (some 32)), some (vI l1), some (vI l2)] [] h' (yq 1 (yqI K)))) ∧ (¬ (s0 = (-5)) → K l2 h))) : ZW d prog_1_method_5_code 7 27 [some (vR (some 32)), some (vI l1), some (vI l2)] [vI s0] h (yq 1 (yqI K)) := by
  refine y_s (pc' := 29) (L' := [some (vR (some 32)), some (vI l1), some (vI l2)]) (st' := [vI (-5), vI s0]) (h' := h) f27_27 rfl ?_
  refine y_ic (pcT := 34) (pc' := 32) (P := s0 = (-5)) f27_29 rfl rfl rfl (fun c => ?_) (fun c => ?_)
  · replace k := k.1 c
    refine y_s (pc' := 35) (L' := [some (vR (some 32)), some (vI l1), some (vI l2)]) (st' := [vR (some 32)]) (h' := h) f27_34 rfl ?_
    refine y_gr (pc' := 38) f27_35 yf_7_18 rfl rfl (ys32 w) (yp32_1 w) rfl ?_
    refine y_cU (pc' := 41) (as := [vR (some 52)]) (r := []) f27_38 (yzv ym_7_118 rfl (ys52 w) rfl rfl) (by omega) rfl ?_
    exact k
  · replace k := k.2 c
    refine y_s (pc' := 33) (L' := [some (vR (some 32)), some (vI l1), some (vI l2)]) (st' := [vI l2]) (h' := h) f27_32 rfl ?_
    exact y_ri f27_33 ⟨rfl, k⟩
theorem W27_41 {d : Nat} {K : Int → Hp → Prop} (w : yWF zl nl h) {l1 : Int} {l2 : Int} (k : ZW d prog_1_method_5_code 7 13 [some (vR (some 32)), some (vI l1), some (vI (zw (l2 + 1)))] [] h (yq 1 (yqI K))) : ZW d prog_1_method_5_code 7 41 [some (vR (some 32)), some (vI l1), some (vI l2)] [] h (yq 1 (yqI K)) := by
  refine y_inc (pc' := 44) (L' := [some (vR (some 32)), some (vI l1), some (vI (zw (l2 + 1)))]) f27_41 rfl rfl rfl rfl ?_
  refine y_go (pc' := 13) f27_44 rfl ?_
  exact k
/-- HatterTunes.leastPress(I)I -/
theorem E32 {d : Nat} {K : Int → Hp → Prop} (w : yWF zl nl h) {x0 : Int} (hd : 1 ≤ d) (k : yU (d - 1) 28 [vR (some 52), vR (some 33)] h (fun h' => ZW d prog_1_method_6_code 7 11 [some (vR (some 32)), some (vI x0), none] [] h' (yq 1 (yqI K)))) : yI d 32 [vR (some 32), vI x0] h K := by
  refine y_en (L := [some (vR (some 32)), some (vI x0), none]) rfl rfl ?_
  refine y_s (pc' := 1) (L' := [some (vR (some 32)), some (vI x0), none]) (st' := [vR (some 32)]) (h' := h) f32_0 rfl ?_
  refine y_gr (pc' := 4) f32_1 yf_7_18 rfl rfl (ys32 w) (yp32_1 w) rfl ?_
  refine y_s (pc' := 5) (L' := [some (vR (some 32)), some (vI x0), none]) (st' := [vR (some 32), vR (some 52)]) (h' := h) f32_4 rfl ?_
  refine y_gr (pc' := 8) f32_5 yf_7_14 rfl rfl (ys32 w) (yp32_0 w) rfl ?_
  refine y_cU (pc' := 11) (as := [vR (some 52), vR (some 33)]) (r := []) f32_8 (yzv ym_7_114 rfl (ys52 w) rfl rfl) (by omega) rfl ?_
  exact k
theorem W32_11 {d : Nat} {K : Int → Hp → Prop} (w : yWF zl nl h) {l1 : Int} (k : ZW d prog_1_method_6_code 7 13 [some (vR (some 32)), some (vI l1), some (vI 0)] [] h (yq 1 (yqI K))) : ZW d prog_1_method_6_code 7 11 [some (vR (some 32)), some (vI l1), none] [] h (yq 1 (yqI K)) := by
  refine y_s (pc' := 12) (L' := [some (vR (some 32)), some (vI l1), none]) (st' := [vI 0]) (h' := h) f32_11 rfl ?_
  refine y_sto (pc' := 13) (k := 2) (L' := [some (vR (some 32)), some (vI l1), some (vI 0)]) f32_12 rfl rfl rfl rfl rfl rfl ?_
  exact k
theorem W32_13 {d : Nat} {K : Int → Hp → Prop} (w : yWF zl nl h) {l1 : Int} {l2 : Int} (hd : 1 ≤ d) (k : ((60 ≤ l2 → K (-5) h) ∧ (¬ (60 ≤ l2) → yI (d - 1) 33 [vR (some 32), vI l1, vI l2] h (fun x h' => ZW d prog_1_method_6_code 7 25 [some (vR (some 32)), some (vI l1), some (vI l2)] [vI x] h' (yq 1 (yqI K)))))) : ZW d prog_1_method_6_code 7 13 [some (vR (some 32)), some (vI l1), some (vI l2)] [] h (yq 1 (yqI K)) := by
  refine y_s (pc' := 14) (L' := [some (vR (some 32)), some (vI l1), some (vI l2)]) (st' := [vI l2]) (h' := h) f32_13 rfl ?_
  refine y_s (pc' := 16) (L' := [some (vR (some 32)), some (vI l1), some (vI l2)]) (st' := [vI 60, vI l2]) (h' := h) f32_14 rfl ?_
  refine y_ic (pcT := 36) (pc' := 19) (P := 60 ≤ l2) f32_16 rfl rfl rfl (fun c => ?_) (fun c => ?_)
  · replace k := k.1 c
    refine y_s (pc' := 38) (L' := [some (vR (some 32)), some (vI l1), some (vI l2)]) (st' := [vI (-5)]) (h' := h) f32_36 rfl ?_
    exact y_ri f32_38 ⟨rfl, k⟩
  · replace k := k.2 c
    refine y_s (pc' := 20) (L' := [some (vR (some 32)), some (vI l1), some (vI l2)]) (st' := [vR (some 32)]) (h' := h) f32_19 rfl ?_
    refine y_s (pc' := 21) (L' := [some (vR (some 32)), some (vI l1), some (vI l2)]) (st' := [vI l1, vR (some 32)]) (h' := h) f32_20 rfl ?_
    refine y_s (pc' := 22) (L' := [some (vR (some 32)), some (vI l1), some (vI l2)]) (st' := [vI l2, vI l1, vR (some 32)]) (h' := h) f32_21 rfl ?_
    refine y_cI (pc' := 25) (as := [vR (some 32), vI l1, vI l2]) (r := []) f32_22 (yzv ym_7_121 rfl (ys32 w) rfl rfl) (by omega) rfl ?_
    exact k
theorem W32_25 {d : Nat} {K : Int → Hp → Prop} (w : yWF zl nl h) {l1 : Int} {l2 : Int} {s0 : Int} (k : ((s0 = 0 → ZW d prog_1_method_6_code 7 13 [some (vR (some 32)), some (vI l1), some (vI (zw (l2 + 1)))] [] h (yq 1 (yqI K))) ∧ (¬ (s0 = 0) → K l2 h))) : ZW d prog_1_method_6_code 7 25 [some (vR (some 32)), some (vI l1), some (vI l2)] [vI s0] h (yq 1 (yqI K)) := by
  refine y_if (pcT := 30) (pc' := 28) (P := s0 = 0) f32_25 rfl rfl rfl (fun c => ?_) (fun c => ?_)
  · replace k := k.1 c
    refine y_inc (pc' := 33) (L' := [some (vR (some 32)), some (vI l1), some (vI (zw (l2 + 1)))]) f32_30 rfl rfl rfl rfl ?_
    refine y_go (pc' := 13) f32_33 rfl ?_
    exact k
  · replace k := k.2 c
    refine y_s (pc' := 29) (L' := [some (vR (some 32)), some (vI l1), some (vI l2)]) (st' := [vI l2]) (h' := h) f32_28 rfl ?_
    exact y_ri f32_29 ⟨rfl, k⟩
/-- HatterTunes.wouldHear(II)Z -/
theorem E33 {d : Nat} {K : Int → Hp → Prop} (w : yWF zl nl h) {x0 : Int} {x1 : Int} (hd : 1 ≤ d) (k : (((0 : Int) ≤ x0 ∧ x0 < 6 ∧ (0 : Int) ≤ (zdiv x1 10) ∧ (zdiv x1 10) < 6) ∧ yI (d - 1) 24 [vR (some 52), vI x0] (zsetV h (52 + 4) (6 * x0 + (zdiv x1 10)).toNat (zrem x1 10)) (fun x h' => ZW d prog_1_method_7_code 7 26 [some (vR (some 32)), some (vI x0), some (vI x1), some (vI (zdiv x1 10)), none] [vI x] h' (yq 2 (yqI K))))) : yI d 33 [vR (some 32), vI x0, vI x1] h K := by
  refine y_en (L := [some (vR (some 32)), some (vI x0), some (vI x1), none, none]) rfl rfl ?_
  refine y_s (pc' := 1) (L' := [some (vR (some 32)), some (vI x0), some (vI x1), none, none]) (st' := [vI x1]) (h' := h) f33_0 rfl ?_
  refine y_s (pc' := 3) (L' := [some (vR (some 32)), some (vI x0), some (vI x1), none, none]) (st' := [vI 10, vI x1]) (h' := h) f33_1 rfl ?_
  refine y_dv (pc' := 4) f33_3 (by decide) rfl ?_
  refine y_sto (pc' := 5) (k := 3) (L' := [some (vR (some 32)), some (vI x0), some (vI x1), some (vI (zdiv x1 10)), none]) f33_4 rfl rfl rfl rfl rfl rfl ?_
  refine y_s (pc' := 6) (L' := [some (vR (some 32)), some (vI x0), some (vI x1), some (vI (zdiv x1 10)), none]) (st' := [vR (some 32)]) (h' := h) f33_5 rfl ?_
  refine y_gr (pc' := 9) f33_6 yf_7_18 rfl rfl (ys32 w) (yp32_1 w) rfl ?_
  refine y_s (pc' := 10) (L' := [some (vR (some 32)), some (vI x0), some (vI x1), some (vI (zdiv x1 10)), none]) (st' := [vI x0, vR (some 52)]) (h' := h) f33_9 rfl ?_
  refine y_s (pc' := 11) (L' := [some (vR (some 32)), some (vI x0), some (vI x1), some (vI (zdiv x1 10)), none]) (st' := [vI (zdiv x1 10), vI x0, vR (some 52)]) (h' := h) f33_10 rfl ?_
  refine y_s (pc' := 12) (L' := [some (vR (some 32)), some (vI x0), some (vI x1), some (vI (zdiv x1 10)), none]) (st' := [vI x1, vI (zdiv x1 10), vI x0, vR (some 52)]) (h' := h) f33_11 rfl ?_
  refine y_s (pc' := 14) (L' := [some (vR (some 32)), some (vI x0), some (vI x1), some (vI (zdiv x1 10)), none]) (st' := [vI 10, vI x1, vI (zdiv x1 10), vI x0, vR (some 52)]) (h' := h) f33_12 rfl ?_
  refine y_rm (pc' := 15) f33_14 (by decide) rfl ?_
  refine y_cU (pc' := 18) (as := [vR (some 52), vI x0, vI (zdiv x1 10), vI (zrem x1 10)]) (r := []) f33_15 (yzv ym_7_124 rfl (ys52 w) rfl rfl) (by omega) rfl ?_
  have p0 := k.1
  replace k := k.2
  refine sp13 w (Or.inr (Or.inl rfl)) p0 ?_
  refine y_s (pc' := 19) (L' := [some (vR (some 32)), some (vI x0), some (vI x1), some (vI (zdiv x1 10)), none]) (st' := [vR (some 32)]) (h' := (zsetV h (52 + 4) (6 * x0 + (zdiv x1 10)).toNat (zrem x1 10))) f33_18 rfl ?_
  refine y_gr (pc' := 22) f33_19 yf_7_18 rfl rfl (ys32 w) (yp32_1 w) rfl ?_
  refine y_s (pc' := 23) (L' := [some (vR (some 32)), some (vI x0), some (vI x1), some (vI (zdiv x1 10)), none]) (st' := [vI x0, vR (some 52)]) (h' := (zsetV h (52 + 4) (6 * x0 + (zdiv x1 10)).toNat (zrem x1 10))) f33_22 rfl ?_
  refine y_cI (pc' := 26) (as := [vR (some 52), vI x0]) (r := []) f33_23 (yzv ym_7_89 rfl (ys52 w) rfl rfl) (by omega) rfl ?_
  exact k
theorem W33_26 {d : Nat} {K : Int → Hp → Prop} (w : yWF zl nl h) {l1 : Int} {l2 : Int} {l3 : Int} {s0 : Int} (hd : 1 ≤ d) (k : ((s0 = (-5) → (((0 : Int) ≤ l1 ∧ l1 < 6 ∧ (0 : Int) ≤ l3 ∧ l3 < 6) ∧ (((0 : Int) ≤ l1 ∧ l1 < 6 ∧ (0 : Int) ≤ l3 ∧ l3 < 6) ∧ K 0 (zsetV h (52 + 4) (6 * l1 + l3).toNat (zV h (33 + 4) (6 * l1 + l3).toNat))))) ∧ (¬ (s0 = (-5)) → (((0 : Int) ≤ l1 ∧ l1 < 6 ∧ (0 : Int) ≤ l3 ∧ l3 < 6) ∧ (((0 : Int) ≤ l1 ∧ l1 < 6 ∧ (0 : Int) ≤ l3 ∧ l3 < 6) ∧ K 1 (zsetV h (52 + 4) (6 * l1 + l3).toNat (zV h (33 + 4) (6 * l1 + l3).toNat))))))) : ZW d prog_1_method_7_code 7 26 [some (vR (some 32)), some (vI l1), some (vI l2), some (vI l3), none] [vI s0] h (yq 2 (yqI K)) := by
  refine y_s (pc' := 28) (L' := [some (vR (some 32)), some (vI l1), some (vI l2), some (vI l3), none]) (st' := [vI (-5), vI s0]) (h' := h) f33_26 rfl ?_
  refine y_ic (pcT := 35) (pc' := 31) (P := s0 = (-5)) f33_28 rfl rfl rfl (fun c => ?_) (fun c => ?_)
  · replace k := k.1 c
    refine y_s (pc' := 36) (L' := [some (vR (some 32)), some (vI l1), some (vI l2), some (vI l3), none]) (st' := [vI 0]) (h' := h) f33_35 rfl ?_
    refine y_sto (pc' := 38) (k := 4) (L' := [some (vR (some 32)), some (vI l1), some (vI l2), some (vI l3), some (vI 0)]) f33_36 rfl rfl rfl rfl rfl rfl ?_
    refine y_s (pc' := 39) (L' := [some (vR (some 32)), some (vI l1), some (vI l2), some (vI l3), some (vI 0)]) (st' := [vR (some 32)]) (h' := h) f33_38 rfl ?_
    refine y_gr (pc' := 42) f33_39 yf_7_18 rfl rfl (ys32 w) (yp32_1 w) rfl ?_
    refine y_s (pc' := 43) (L' := [some (vR (some 32)), some (vI l1), some (vI l2), some (vI l3), some (vI 0)]) (st' := [vI l1, vR (some 52)]) (h' := h) f33_42 rfl ?_
    refine y_s (pc' := 44) (L' := [some (vR (some 32)), some (vI l1), some (vI l2), some (vI l3), some (vI 0)]) (st' := [vI l3, vI l1, vR (some 52)]) (h' := h) f33_43 rfl ?_
    refine y_s (pc' := 45) (L' := [some (vR (some 32)), some (vI l1), some (vI l2), some (vI l3), some (vI 0)]) (st' := [vR (some 32), vI l3, vI l1, vR (some 52)]) (h' := h) f33_44 rfl ?_
    refine y_gr (pc' := 48) f33_45 yf_7_14 rfl rfl (ys32 w) (yp32_0 w) rfl ?_
    refine y_s (pc' := 49) (L' := [some (vR (some 32)), some (vI l1), some (vI l2), some (vI l3), some (vI 0)]) (st' := [vI l1, vR (some 33), vI l3, vI l1, vR (some 52)]) (h' := h) f33_48 rfl ?_
    refine y_s (pc' := 50) (L' := [some (vR (some 32)), some (vI l1), some (vI l2), some (vI l3), some (vI 0)]) (st' := [vI l3, vI l1, vR (some 33), vI l3, vI l1, vR (some 52)]) (h' := h) f33_49 rfl ?_
    refine y_cI (pc' := 53) (as := [vR (some 33), vI l1, vI l3]) (r := [vI l3, vI l1, vR (some 52)]) f33_50 (yzv ym_7_102 rfl (ys33 w) rfl rfl) (by omega) rfl ?_
    have p0 := k.1
    replace k := k.2
    refine sp20 w (Or.inl rfl) p0 ?_
    refine y_cU (pc' := 56) (as := [vR (some 52), vI l1, vI l3, vI (zV h (33 + 4) (6 * l1 + l3).toNat)]) (r := []) f33_53 (yzv ym_7_124 rfl (ys52 w) rfl rfl) (by omega) rfl ?_
    have p0 := k.1
    replace k := k.2
    refine sp13 w (Or.inr (Or.inl rfl)) p0 ?_
    refine y_s (pc' := 58) (L' := [some (vR (some 32)), some (vI l1), some (vI l2), some (vI l3), some (vI 0)]) (st' := [vI 0]) (h' := (zsetV h (52 + 4) (6 * l1 + l3).toNat (zV h (33 + 4) (6 * l1 + l3).toNat))) f33_56 rfl ?_
    exact y_ri f33_58 ⟨rfl, k⟩
  · replace k := k.2 c
    refine y_s (pc' := 32) (L' := [some (vR (some 32)), some (vI l1), some (vI l2), some (vI l3), none]) (st' := [vI 1]) (h' := h) f33_31 rfl ?_
    refine y_go (pc' := 36) f33_32 rfl ?_
    refine y_sto (pc' := 38) (k := 4) (L' := [some (vR (some 32)), some (vI l1), some (vI l2), some (vI l3), some (vI 1)]) f33_36 rfl rfl rfl rfl rfl rfl ?_
    refine y_s (pc' := 39) (L' := [some (vR (some 32)), some (vI l1), some (vI l2), some (vI l3), some (vI 1)]) (st' := [vR (some 32)]) (h' := h) f33_38 rfl ?_
    refine y_gr (pc' := 42) f33_39 yf_7_18 rfl rfl (ys32 w) (yp32_1 w) rfl ?_
    refine y_s (pc' := 43) (L' := [some (vR (some 32)), some (vI l1), some (vI l2), some (vI l3), some (vI 1)]) (st' := [vI l1, vR (some 52)]) (h' := h) f33_42 rfl ?_
    refine y_s (pc' := 44) (L' := [some (vR (some 32)), some (vI l1), some (vI l2), some (vI l3), some (vI 1)]) (st' := [vI l3, vI l1, vR (some 52)]) (h' := h) f33_43 rfl ?_
    refine y_s (pc' := 45) (L' := [some (vR (some 32)), some (vI l1), some (vI l2), some (vI l3), some (vI 1)]) (st' := [vR (some 32), vI l3, vI l1, vR (some 52)]) (h' := h) f33_44 rfl ?_
    refine y_gr (pc' := 48) f33_45 yf_7_14 rfl rfl (ys32 w) (yp32_0 w) rfl ?_
    refine y_s (pc' := 49) (L' := [some (vR (some 32)), some (vI l1), some (vI l2), some (vI l3), some (vI 1)]) (st' := [vI l1, vR (some 33), vI l3, vI l1, vR (some 52)]) (h' := h) f33_48 rfl ?_
    refine y_s (pc' := 50) (L' := [some (vR (some 32)), some (vI l1), some (vI l2), some (vI l3), some (vI 1)]) (st' := [vI l3, vI l1, vR (some 33), vI l3, vI l1, vR (some 52)]) (h' := h) f33_49 rfl ?_
    refine y_cI (pc' := 53) (as := [vR (some 33), vI l1, vI l3]) (r := [vI l3, vI l1, vR (some 52)]) f33_50 (yzv ym_7_102 rfl (ys33 w) rfl rfl) (by omega) rfl ?_
    have p0 := k.1
    replace k := k.2
    refine sp20 w (Or.inl rfl) p0 ?_
    refine y_cU (pc' := 56) (as := [vR (some 52), vI l1, vI l3, vI (zV h (33 + 4) (6 * l1 + l3).toNat)]) (r := []) f33_53 (yzv ym_7_124 rfl (ys52 w) rfl rfl) (by omega) rfl ?_
    have p0 := k.1
    replace k := k.2
    refine sp13 w (Or.inr (Or.inl rfl)) p0 ?_
    refine y_s (pc' := 58) (L' := [some (vR (some 32)), some (vI l1), some (vI l2), some (vI l3), some (vI 1)]) (st' := [vI 1]) (h' := (zsetV h (52 + 4) (6 * l1 + l3).toNat (zV h (33 + 4) (6 * l1 + l3).toNat))) f33_56 rfl ?_
    exact y_ri f33_58 ⟨rfl, k⟩
/-- HatterTunes.ofBump(III)I -/
theorem E34 {d : Nat} {K : Int → Hp → Prop} (w : yWF zl nl h) {x0 : Int} {x1 : Int} {x2 : Int} (hd : 5 ≤ d) (k : ((((0 : Int) ≤ x2 ∧ x2 < 6) → ((x1 = 1 → (((0 : Int) ≤ x0 ∧ x0 < 6 ∧ (0 : Int) ≤ x2 ∧ x2 < 6) ∧ K (zV h (33 + 4) (6 * x0 + x2).toNat) h)) ∧ (x1 = 2 → ((yHOk h 33) ∧ (((0 : Int) ≤ x0 ∧ x0 < 6 ∧ (0 : Int) ≤ x2 ∧ x2 < 6) ∧ (∀ h_63, ySm h h_63 → K (ynote h 33 x0 x2) h_63)))) ∧ (x1 = 3 → ((yHOk h 33) ∧ (((0 : Int) ≤ x0 ∧ x0 < 6 ∧ (0 : Int) ≤ x2 ∧ x2 < 6) ∧ (∀ h_73, ySm h h_73 → K (ypC (ymk h) 33 (yshp h 33) x0 x2) h_73)))) ∧ (x1 = 4 → yI (d - 1) 35 [vR (some 32), vI x0, vI x2] h (fun x h' => ZW d prog_1_method_4_code 7 80 [some (vR (some 32)), some (vI x0), some (vI x1), some (vI x2)] [vI x] h' (yq 1 (yqI K)))) ∧ (x1 < 1 ∨ 4 < x1 → K (-10001) h))) ∧ (¬ (((0 : Int) ≤ x2 ∧ x2 < 6)) → K (-10001) h))) : yI d 34 [vR (some 32), vI x0, vI x1, vI x2] h K := by
  refine y_en (L := [some (vR (some 32)), some (vI x0), some (vI x1), some (vI x2)]) rfl rfl ?_
  refine y_s (pc' := 1) (L' := [some (vR (some 32)), some (vI x0), some (vI x1), some (vI x2)]) (st' := [vI x2]) (h' := h) f34_0 rfl ?_
  refine y_s (pc' := 3) (L' := [some (vR (some 32)), some (vI x0), some (vI x1), some (vI x2)]) (st' := [vI 6, vI x2]) (h' := h) f34_1 rfl ?_
  refine y_cI (pc' := 6) (as := [vI x2, vI 6]) (r := []) f34_3 rfl (by omega) rfl ?_
  refine sp10 w (fun c => ?_) (fun c => ?_)
  · replace k := k.1 c
    refine y_ift (pcT := 13) f34_6 rfl rfl ?_
    refine y_s (pc' := 14) (L' := [some (vR (some 32)), some (vI x0), some (vI x1), some (vI x2)]) (st' := [vI x1]) (h' := h) f34_13 rfl ?_
    by_cases c : x1 = 1
    · refine y_tc (pc' := 44) (v := 1) f34_14 c rfl rfl rfl ?_
      replace k := k.1 c
      refine y_s (pc' := 45) (L' := [some (vR (some 32)), some (vI x0), some (vI x1), some (vI x2)]) (st' := [vR (some 32)]) (h' := h) f34_44 rfl ?_
      refine y_gr (pc' := 48) f34_45 yf_7_14 rfl rfl (ys32 w) (yp32_0 w) rfl ?_
      refine y_s (pc' := 49) (L' := [some (vR (some 32)), some (vI x0), some (vI x1), some (vI x2)]) (st' := [vI x0, vR (some 33)]) (h' := h) f34_48 rfl ?_
      refine y_s (pc' := 50) (L' := [some (vR (some 32)), some (vI x0), some (vI x1), some (vI x2)]) (st' := [vI x2, vI x0, vR (some 33)]) (h' := h) f34_49 rfl ?_
      refine y_cI (pc' := 53) (as := [vR (some 33), vI x0, vI x2]) (r := []) f34_50 (yzv ym_7_102 rfl (ys33 w) rfl rfl) (by omega) rfl ?_
      have p0 := k.1
      replace k := k.2
      refine sp20 w (Or.inl rfl) p0 ?_
      exact y_ri f34_53 ⟨rfl, k⟩
    replace k := k.2
    have c0 := c
    by_cases c : x1 = 2
    · refine y_tc (pc' := 54) (v := 2) f34_14 c rfl rfl rfl ?_
      replace k := k.1 c
      refine y_s (pc' := 55) (L' := [some (vR (some 32)), some (vI x0), some (vI x1), some (vI x2)]) (st' := [vR (some 32)]) (h' := h) f34_54 rfl ?_
      refine y_gr (pc' := 58) f34_55 yf_7_14 rfl rfl (ys32 w) (yp32_0 w) rfl ?_
      refine y_s (pc' := 59) (L' := [some (vR (some 32)), some (vI x0), some (vI x1), some (vI x2)]) (st' := [vI x0, vR (some 33)]) (h' := h) f34_58 rfl ?_
      refine y_s (pc' := 60) (L' := [some (vR (some 32)), some (vI x0), some (vI x1), some (vI x2)]) (st' := [vI x2, vI x0, vR (some 33)]) (h' := h) f34_59 rfl ?_
      refine y_cI (pc' := 63) (as := [vR (some 33), vI x0, vI x2]) (r := []) f34_60 (yzv ym_7_105 rfl (ys33 w) rfl rfl) (by omega) rfl ?_
      have p0 := k.1
      replace k := k.2
      have p1 := k.1
      replace k := k.2
      refine sp17 w (Or.inl rfl) (by omega) p0 p1 (fun h_63 m_63 => ?_)
      replace k := k h_63 m_63
      have w := m_63.wf w
      exact y_ri f34_63 ⟨rfl, k⟩
    replace k := k.2
    have c1 := c
    by_cases c : x1 = 3
    · refine y_tc (pc' := 64) (v := 3) f34_14 c rfl rfl rfl ?_
      replace k := k.1 c
      refine y_s (pc' := 65) (L' := [some (vR (some 32)), some (vI x0), some (vI x1), some (vI x2)]) (st' := [vR (some 32)]) (h' := h) f34_64 rfl ?_
      refine y_gr (pc' := 68) f34_65 yf_7_14 rfl rfl (ys32 w) (yp32_0 w) rfl ?_
      refine y_s (pc' := 69) (L' := [some (vR (some 32)), some (vI x0), some (vI x1), some (vI x2)]) (st' := [vI x0, vR (some 33)]) (h' := h) f34_68 rfl ?_
      refine y_s (pc' := 70) (L' := [some (vR (some 32)), some (vI x0), some (vI x1), some (vI x2)]) (st' := [vI x2, vI x0, vR (some 33)]) (h' := h) f34_69 rfl ?_
      refine y_cI (pc' := 73) (as := [vR (some 33), vI x0, vI x2]) (r := []) f34_70 (yzv ym_7_108 rfl (ys33 w) rfl rfl) (by omega) rfl ?_
      have p0 := k.1
      replace k := k.2
      have p1 := k.1
      replace k := k.2
      refine sp18' w (Or.inl rfl) (by omega) p0 p1 (fun h_73 m_73 => ?_)
      replace k := k h_73 m_73
      have w := m_73.wf w
      exact y_ri f34_73 ⟨rfl, k⟩
    replace k := k.2
    have c2 := c
    by_cases c : x1 = 4
    · refine y_tc (pc' := 74) (v := 4) f34_14 c rfl rfl rfl ?_
      replace k := k.1 c
      refine y_s (pc' := 75) (L' := [some (vR (some 32)), some (vI x0), some (vI x1), some (vI x2)]) (st' := [vR (some 32)]) (h' := h) f34_74 rfl ?_
      refine y_s (pc' := 76) (L' := [some (vR (some 32)), some (vI x0), some (vI x1), some (vI x2)]) (st' := [vI x0, vR (some 32)]) (h' := h) f34_75 rfl ?_
      refine y_s (pc' := 77) (L' := [some (vR (some 32)), some (vI x0), some (vI x1), some (vI x2)]) (st' := [vI x2, vI x0, vR (some 32)]) (h' := h) f34_76 rfl ?_
      refine y_cI (pc' := 80) (as := [vR (some 32), vI x0, vI x2]) (r := []) f34_77 (yzv ym_7_111 rfl (ys32 w) rfl rfl) (by omega) rfl ?_
      exact k
    replace k := k.2
    have c3 := c
    have cc : x1 < 1 ∨ 4 < x1 := by omega
    refine y_td (pc' := 81) f34_14 cc rfl ?_
    replace k := k cc
    refine y_s (pc' := 84) (L' := [some (vR (some 32)), some (vI x0), some (vI x1), some (vI x2)]) (st' := [vI (-10001)]) (h' := h) f34_81 rfl ?_
    exact y_ri f34_84 ⟨rfl, k⟩
  · replace k := k.2 c
    refine y_iff (pcT := 13) (pc' := 9) f34_6 rfl rfl rfl ?_
    refine y_s (pc' := 12) (L' := [some (vR (some 32)), some (vI x0), some (vI x1), some (vI x2)]) (st' := [vI (-10001)]) (h' := h) f34_9 rfl ?_
    exact y_ri f34_12 ⟨rfl, k⟩
theorem W34_80 {d : Nat} {K : Int → Hp → Prop} (w : yWF zl nl h) {l1 : Int} {l2 : Int} {l3 : Int} {s0 : Int} (k : K s0 h) : ZW d prog_1_method_4_code 7 80 [some (vR (some 32)), some (vI l1), some (vI l2), some (vI l3)] [vI s0] h (yq 1 (yqI K)) := by
  exact y_ri f34_80 ⟨rfl, k⟩
/-- HatterTunes.possibleBumps(II)I -/
theorem E35 {d : Nat} {K : Int → Hp → Prop} (w : yWF zl nl h) {x0 : Int} {x1 : Int} (k : ZW d prog_1_method_8_code 7 5 [some (vR (some 32)), some (vI x0), some (vI x1), some (vI 0), some (vI 0)] [] h (yq 1 (yqI K))) : yI d 35 [vR (some 32), vI x0, vI x1] h K := by
  refine y_en (L := [some (vR (some 32)), some (vI x0), some (vI x1), none, none]) rfl rfl ?_
  refine y_s (pc' := 1) (L' := [some (vR (some 32)), some (vI x0), some (vI x1), none, none]) (st' := [vI 0]) (h' := h) f35_0 rfl ?_
  refine y_sto (pc' := 2) (k := 3) (L' := [some (vR (some 32)), some (vI x0), some (vI x1), some (vI 0), none]) f35_1 rfl rfl rfl rfl rfl rfl ?_
  refine y_s (pc' := 3) (L' := [some (vR (some 32)), some (vI x0), some (vI x1), some (vI 0), none]) (st' := [vI 0]) (h' := h) f35_2 rfl ?_
  refine y_sto (pc' := 5) (k := 4) (L' := [some (vR (some 32)), some (vI x0), some (vI x1), some (vI 0), some (vI 0)]) f35_3 rfl rfl rfl rfl rfl rfl ?_
  exact k
theorem W35_5 {d : Nat} {K : Int → Hp → Prop} (w : yWF zl nl h) {l1 : Int} {l2 : Int} {l3 : Int} {l4 : Int} (hd : 1 ≤ d) (k : ((10 ≤ l4 → K l3 h) ∧ (¬ (10 ≤ l4) → yU (d - 1) 28 [vR (some 52), vR (some 33)] h (fun h' => ZW d prog_1_method_8_code 7 23 [some (vR (some 32)), some (vI l1), some (vI l2), some (vI l3), some (vI l4)] [] h' (yq 1 (yqI K)))))) : ZW d prog_1_method_8_code 7 5 [some (vR (some 32)), some (vI l1), some (vI l2), some (vI l3), some (vI l4)] [] h (yq 1 (yqI K)) := by
  refine y_s (pc' := 7) (L' := [some (vR (some 32)), some (vI l1), some (vI l2), some (vI l3), some (vI l4)]) (st' := [vI l4]) (h' := h) f35_5 rfl ?_
  refine y_s (pc' := 9) (L' := [some (vR (some 32)), some (vI l1), some (vI l2), some (vI l3), some (vI l4)]) (st' := [vI 10, vI l4]) (h' := h) f35_7 rfl ?_
  refine y_ic (pcT := 58) (pc' := 12) (P := 10 ≤ l4) f35_9 rfl rfl rfl (fun c => ?_) (fun c => ?_)
  · replace k := k.1 c
    refine y_s (pc' := 59) (L' := [some (vR (some 32)), some (vI l1), some (vI l2), some (vI l3), some (vI l4)]) (st' := [vI l3]) (h' := h) f35_58 rfl ?_
    exact y_ri f35_59 ⟨rfl, k⟩
  · replace k := k.2 c
    refine y_s (pc' := 13) (L' := [some (vR (some 32)), some (vI l1), some (vI l2), some (vI l3), some (vI l4)]) (st' := [vR (some 32)]) (h' := h) f35_12 rfl ?_
    refine y_gr (pc' := 16) f35_13 yf_7_18 rfl rfl (ys32 w) (yp32_1 w) rfl ?_
    refine y_s (pc' := 17) (L' := [some (vR (some 32)), some (vI l1), some (vI l2), some (vI l3), some (vI l4)]) (st' := [vR (some 32), vR (some 52)]) (h' := h) f35_16 rfl ?_
    refine y_gr (pc' := 20) f35_17 yf_7_14 rfl rfl (ys32 w) (yp32_0 w) rfl ?_
    refine y_cU (pc' := 23) (as := [vR (some 52), vR (some 33)]) (r := []) f35_20 (yzv ym_7_114 rfl (ys52 w) rfl rfl) (by omega) rfl ?_
    exact k
theorem W35_23 {d : Nat} {K : Int → Hp → Prop} (w : yWF zl nl h) {l1 : Int} {l2 : Int} {l3 : Int} {l4 : Int} (hd : 1 ≤ d) (k : (((0 : Int) ≤ l1 ∧ l1 < 6 ∧ (0 : Int) ≤ l2 ∧ l2 < 6) ∧ yI (d - 1) 36 [vR (some 52), vI l1] (zsetV h (52 + 4) (6 * l1 + l2).toNat l4) (fun x h' => ZW d prog_1_method_8_code 7 42 [some (vR (some 32)), some (vI l1), some (vI l2), some (vI l3), some (vI l4)] [vI x] h' (yq 1 (yqI K))))) : ZW d prog_1_method_8_code 7 23 [some (vR (some 32)), some (vI l1), some (vI l2), some (vI l3), some (vI l4)] [] h (yq 1 (yqI K)) := by
  refine y_s (pc' := 24) (L' := [some (vR (some 32)), some (vI l1), some (vI l2), some (vI l3), some (vI l4)]) (st' := [vR (some 32)]) (h' := h) f35_23 rfl ?_
  refine y_gr (pc' := 27) f35_24 yf_7_18 rfl rfl (ys32 w) (yp32_1 w) rfl ?_
  refine y_s (pc' := 28) (L' := [some (vR (some 32)), some (vI l1), some (vI l2), some (vI l3), some (vI l4)]) (st' := [vI l1, vR (some 52)]) (h' := h) f35_27 rfl ?_
  refine y_s (pc' := 29) (L' := [some (vR (some 32)), some (vI l1), some (vI l2), some (vI l3), some (vI l4)]) (st' := [vI l2, vI l1, vR (some 52)]) (h' := h) f35_28 rfl ?_
  refine y_s (pc' := 31) (L' := [some (vR (some 32)), some (vI l1), some (vI l2), some (vI l3), some (vI l4)]) (st' := [vI l4, vI l2, vI l1, vR (some 52)]) (h' := h) f35_29 rfl ?_
  refine y_cU (pc' := 34) (as := [vR (some 52), vI l1, vI l2, vI l4]) (r := []) f35_31 (yzv ym_7_124 rfl (ys52 w) rfl rfl) (by omega) rfl ?_
  have p0 := k.1
  replace k := k.2
  refine sp13 w (Or.inr (Or.inl rfl)) p0 ?_
  refine y_s (pc' := 35) (L' := [some (vR (some 32)), some (vI l1), some (vI l2), some (vI l3), some (vI l4)]) (st' := [vR (some 32)]) (h' := (zsetV h (52 + 4) (6 * l1 + l2).toNat l4)) f35_34 rfl ?_
  refine y_gr (pc' := 38) f35_35 yf_7_18 rfl rfl (ys32 w) (yp32_1 w) rfl ?_
  refine y_s (pc' := 39) (L' := [some (vR (some 32)), some (vI l1), some (vI l2), some (vI l3), some (vI l4)]) (st' := [vI l1, vR (some 52)]) (h' := (zsetV h (52 + 4) (6 * l1 + l2).toNat l4)) f35_38 rfl ?_
  refine y_cI (pc' := 42) (as := [vR (some 52), vI l1]) (r := []) f35_39 (yzv ym_7_128 rfl (ys52 w) rfl rfl) (by omega) rfl ?_
  exact k
theorem W35_42 {d : Nat} {K : Int → Hp → Prop} (w : yWF zl nl h) {l1 : Int} {l2 : Int} {l3 : Int} {l4 : Int} {s0 : Int} (k : ((s0 = 0 → ZW d prog_1_method_8_code 7 5 [some (vR (some 32)), some (vI l1), some (vI l2), some (vI l3), some (vI (zw (l4 + 1)))] [] h (yq 1 (yqI K))) ∧ (¬ (s0 = 0) → ZW d prog_1_method_8_code 7 5 [some (vR (some 32)), some (vI l1), some (vI l2), some (vI (zor l3 (zshl 1 l4))), some (vI (zw (l4 + 1)))] [] h (yq 1 (yqI K))))) : ZW d prog_1_method_8_code 7 42 [some (vR (some 32)), some (vI l1), some (vI l2), some (vI l3), some (vI l4)] [vI s0] h (yq 1 (yqI K)) := by
  refine y_if (pcT := 52) (pc' := 45) (P := s0 = 0) f35_42 rfl rfl rfl (fun c => ?_) (fun c => ?_)
  · replace k := k.1 c
    refine y_inc (pc' := 55) (L' := [some (vR (some 32)), some (vI l1), some (vI l2), some (vI l3), some (vI (zw (l4 + 1)))]) f35_52 rfl rfl rfl rfl ?_
    refine y_go (pc' := 5) f35_55 rfl ?_
    exact k
  · replace k := k.2 c
    refine y_s (pc' := 46) (L' := [some (vR (some 32)), some (vI l1), some (vI l2), some (vI l3), some (vI l4)]) (st' := [vI l3]) (h' := h) f35_45 rfl ?_
    refine y_s (pc' := 47) (L' := [some (vR (some 32)), some (vI l1), some (vI l2), some (vI l3), some (vI l4)]) (st' := [vI 1, vI l3]) (h' := h) f35_46 rfl ?_
    refine y_s (pc' := 49) (L' := [some (vR (some 32)), some (vI l1), some (vI l2), some (vI l3), some (vI l4)]) (st' := [vI l4, vI 1, vI l3]) (h' := h) f35_47 rfl ?_
    refine y_s (pc' := 50) (L' := [some (vR (some 32)), some (vI l1), some (vI l2), some (vI l3), some (vI l4)]) (st' := [vI (zshl 1 l4), vI l3]) (h' := h) f35_49 rfl ?_
    refine y_s (pc' := 51) (L' := [some (vR (some 32)), some (vI l1), some (vI l2), some (vI l3), some (vI l4)]) (st' := [vI (zor l3 (zshl 1 l4))]) (h' := h) f35_50 rfl ?_
    refine y_sto (pc' := 52) (k := 3) (L' := [some (vR (some 32)), some (vI l1), some (vI l2), some (vI (zor l3 (zshl 1 l4))), some (vI l4)]) f35_51 rfl rfl rfl rfl rfl rfl ?_
    refine y_inc (pc' := 55) (L' := [some (vR (some 32)), some (vI l1), some (vI l2), some (vI (zor l3 (zshl 1 l4))), some (vI (zw (l4 + 1)))]) f35_52 rfl rfl rfl rfl ?_
    refine y_go (pc' := 5) f35_55 rfl ?_
    exact k
/-- HatterTunes$House.bearsOutSeen(I)Z -/
theorem E36 {d : Nat} {K : Int → Hp → Prop} (w : yWF zl nl h) {a : Nat} (ha : yHs a) {x0 : Int} (k : ZW d prog_4_method_19_code 2 2 [some (vR (some a)), some (vI x0), some (vI 0), none, none] [] h (yq 2 (yqI K))) : yI d 36 [vR (some a), vI x0] h K := by
  refine y_en (L := [some (vR (some a)), some (vI x0), none, none, none]) rfl rfl ?_
  refine y_s (pc' := 1) (L' := [some (vR (some a)), some (vI x0), none, none, none]) (st' := [vI 0]) (h' := h) f36_0 rfl ?_
  refine y_sto (pc' := 2) (k := 2) (L' := [some (vR (some a)), some (vI x0), some (vI 0), none, none]) f36_1 rfl rfl rfl rfl rfl rfl ?_
  exact k
theorem W36_2 {d : Nat} {K : Int → Hp → Prop} (w : yWF zl nl h) {a : Nat} (ha : yHs a) {l1 : Int} {l2 : Int} {l3 : Option Int} {l4 : Option Int} (k : ((12 < l2 → K 1 h) ∧ (¬ (12 < l2) → ZW d prog_4_method_19_code 2 10 [some (vR (some a)), some (vI l1), some (vI l2), some (vI 0), yo l4] [] h (yq 2 (yqI K))))) : ZW d prog_4_method_19_code 2 2 [some (vR (some a)), some (vI l1), some (vI l2), yo l3, yo l4] [] h (yq 2 (yqI K)) := by
  refine y_s (pc' := 3) (L' := [some (vR (some a)), some (vI l1), some (vI l2), yo l3, yo l4]) (st' := [vI l2]) (h' := h) f36_2 rfl ?_
  refine y_s (pc' := 5) (L' := [some (vR (some a)), some (vI l1), some (vI l2), yo l3, yo l4]) (st' := [vI 12, vI l2]) (h' := h) f36_3 rfl ?_
  refine y_ic (pcT := 103) (pc' := 8) (P := 12 < l2) f36_5 rfl rfl rfl (fun c => ?_) (fun c => ?_)
  · replace k := k.1 c
    refine y_s (pc' := 104) (L' := [some (vR (some a)), some (vI l1), some (vI l2), yo l3, yo l4]) (st' := [vI 1]) (h' := h) f36_103 rfl ?_
    exact y_ri f36_104 ⟨rfl, k⟩
  · replace k := k.2 c
    refine y_s (pc' := 9) (L' := [some (vR (some a)), some (vI l1), some (vI l2), yo l3, yo l4]) (st' := [vI 0]) (h' := h) f36_8 rfl ?_
    refine y_sto (pc' := 10) (k := 3) (L' := [some (vR (some a)), some (vI l1), some (vI l2), some (vI 0), yo l4]) f36_9 rfl rfl rfl rfl rfl rfl ?_
    exact k
theorem W36_10 {d : Nat} {K : Int → Hp → Prop} (w : yWF zl nl h) {a : Nat} (ha : yHs a) {l1 : Int} {l2 : Int} {l3 : Int} {l4 : Option Int} (hd : 5 ≤ d) (k : (((zV h ((a + 9)) 1) ≤ l3 → yU (d - 1) 30 [vR (some a)] h (fun h' => ZW d prog_4_method_19_code 2 97 [some (vR (some a)), some (vI l1), some (vI l2), some (vI l3), yo l4] [] h' (yq 2 (yqI K)))) ∧ (¬ ((zV h ((a + 9)) 1) ≤ l3) → (((0 : Int) ≤ l3 ∧ (0 : Int) ≤ 0 ∧ 4 * l3 + 0 < (20 : Int)) ∧ (((zV h (((a + 9)) + 1) (4 * l3 + 0).toNat) ≠ l1 → ZW d prog_4_method_19_code 2 10 [some (vR (some a)), some (vI l1), some (vI l2), some (vI (zw (l3 + 1))), some (vI 0)] [] h (yq 2 (yqI K))) ∧ (¬ ((zV h (((a + 9)) + 1) (4 * l3 + 0).toNat) ≠ l1) → (((0 : Int) ≤ l3 ∧ (0 : Int) ≤ 2 ∧ 4 * l3 + 2 < (20 : Int)) ∧ (((zV h (((a + 9)) + 1) (4 * l3 + 2).toNat) ≠ l2 → ZW d prog_4_method_19_code 2 10 [some (vR (some a)), some (vI l1), some (vI l2), some (vI (zw (l3 + 1))), some (vI 0)] [] h (yq 2 (yqI K))) ∧ (¬ ((zV h (((a + 9)) + 1) (4 * l3 + 2).toNat) ≠ l2) → (((0 : Int) ≤ l3 ∧ (0 : Int) ≤ 1 ∧ 4 * l3 + 1 < (20 : Int)) ∧ ((yHOk h a) ∧ (((0 : Int) ≤ l1 ∧ l1 < 6 ∧ (0 : Int) ≤ (zV h (((a + 9)) + 1) (4 * l3 + 1).toNat) ∧ (zV h (((a + 9)) + 1) (4 * l3 + 1).toNat) < 6) ∧ (∀ h_73, ySm h h_73 → (((0 : Int) ≤ l3 ∧ (0 : Int) ≤ 3 ∧ 4 * l3 + 3 < (20 : Int)) ∧ (((ynote h a l1 (zV h (((a + 9)) + 1) (4 * l3 + 1).toNat)) = (zV h_73 (((a + 9)) + 1) (4 * l3 + 3).toNat) → ZW d prog_4_method_19_code 2 10 [some (vR (some a)), some (vI l1), some (vI l2), some (vI (zw (l3 + 1))), some (vI 1)] [] h_73 (yq 2 (yqI K))) ∧ (¬ ((ynote h a l1 (zV h (((a + 9)) + 1) (4 * l3 + 1).toNat)) = (zV h_73 (((a + 9)) + 1) (4 * l3 + 3).toNat)) → K 0 h_73)))))))))))))))) : ZW d prog_4_method_19_code 2 10 [some (vR (some a)), some (vI l1), some (vI l2), some (vI l3), yo l4] [] h (yq 2 (yqI K)) := by
  refine y_s (pc' := 11) (L' := [some (vR (some a)), some (vI l1), some (vI l2), some (vI l3), yo l4]) (st' := [vI l3]) (h' := h) f36_10 rfl ?_
  refine y_s (pc' := 12) (L' := [some (vR (some a)), some (vI l1), some (vI l2), some (vI l3), yo l4]) (st' := [vR (some a), vI l3]) (h' := h) f36_11 rfl ?_
  refine y_gr (pc' := 15) f36_12 yf_2_39 rfl rfl (ysH0 w ha) (ypH7 w ha) rfl ?_
  refine y_gi (pc' := 18) f36_15 yf_2_114 rfl rfl (ysR0 w (yR9 ha)) rfl ?_
  refine y_ic (pcT := 93) (pc' := 21) (P := (zV h ((a + 9)) 1) ≤ l3) f36_18 rfl rfl rfl (fun c => ?_) (fun c => ?_)
  · replace k := k.1 c
    refine y_s (pc' := 94) (L' := [some (vR (some a)), some (vI l1), some (vI l2), some (vI l3), yo l4]) (st' := [vR (some a)]) (h' := h) f36_93 rfl ?_
    refine y_cU (pc' := 97) (as := [vR (some a)]) (r := []) f36_94 (yzv ym_2_87 rfl (ysH0 w ha) rfl rfl) (by omega) rfl ?_
    exact k
  · replace k := k.2 c
    refine y_s (pc' := 22) (L' := [some (vR (some a)), some (vI l1), some (vI l2), some (vI l3), yo l4]) (st' := [vR (some a)]) (h' := h) f36_21 rfl ?_
    refine y_gr (pc' := 25) f36_22 yf_2_39 rfl rfl (ysH0 w ha) (ypH7 w ha) rfl ?_
    refine y_s (pc' := 26) (L' := [some (vR (some a)), some (vI l1), some (vI l2), some (vI l3), yo l4]) (st' := [vI l3, vR (some ((a + 9)))]) (h' := h) f36_25 rfl ?_
    refine y_s (pc' := 27) (L' := [some (vR (some a)), some (vI l1), some (vI l2), some (vI l3), yo l4]) (st' := [vI 0, vI l3, vR (some ((a + 9)))]) (h' := h) f36_26 rfl ?_
    refine y_cI (pc' := 30) (as := [vR (some ((a + 9))), vI l3, vI 0]) (r := []) f36_27 (yzv ym_2_126 rfl (ysR0 w (yR9 ha)) rfl rfl) (by omega) rfl ?_
    have p0 := k.1
    replace k := k.2
    refine sp26 w (yR9 ha) p0 ?_
    refine y_s (pc' := 31) (L' := [some (vR (some a)), some (vI l1), some (vI l2), some (vI l3), yo l4]) (st' := [vI l1, vI (zV h (((a + 9)) + 1) (4 * l3 + 0).toNat)]) (h' := h) f36_30 rfl ?_
    refine y_ic (pcT := 51) (pc' := 34) (P := (zV h (((a + 9)) + 1) (4 * l3 + 0).toNat) ≠ l1) f36_31 rfl rfl rfl (fun c => ?_) (fun c => ?_)
    · replace k := k.1 c
      refine y_s (pc' := 52) (L' := [some (vR (some a)), some (vI l1), some (vI l2), some (vI l3), yo l4]) (st' := [vI 0]) (h' := h) f36_51 rfl ?_
      refine y_sto (pc' := 54) (k := 4) (L' := [some (vR (some a)), some (vI l1), some (vI l2), some (vI l3), some (vI 0)]) f36_52 rfl rfl rfl rfl rfl rfl ?_
      refine y_s (pc' := 56) (L' := [some (vR (some a)), some (vI l1), some (vI l2), some (vI l3), some (vI 0)]) (st' := [vI 0]) (h' := h) f36_54 rfl ?_
      refine y_ift (pcT := 87) f36_56 rfl rfl ?_
      refine y_inc (pc' := 90) (L' := [some (vR (some a)), some (vI l1), some (vI l2), some (vI (zw (l3 + 1))), some (vI 0)]) f36_87 rfl rfl rfl rfl ?_
      refine y_go (pc' := 10) f36_90 rfl ?_
      exact k
    · replace k := k.2 c
      refine y_s (pc' := 35) (L' := [some (vR (some a)), some (vI l1), some (vI l2), some (vI l3), yo l4]) (st' := [vR (some a)]) (h' := h) f36_34 rfl ?_
      refine y_gr (pc' := 38) f36_35 yf_2_39 rfl rfl (ysH0 w ha) (ypH7 w ha) rfl ?_
      refine y_s (pc' := 39) (L' := [some (vR (some a)), some (vI l1), some (vI l2), some (vI l3), yo l4]) (st' := [vI l3, vR (some ((a + 9)))]) (h' := h) f36_38 rfl ?_
      refine y_s (pc' := 40) (L' := [some (vR (some a)), some (vI l1), some (vI l2), some (vI l3), yo l4]) (st' := [vI 2, vI l3, vR (some ((a + 9)))]) (h' := h) f36_39 rfl ?_
      refine y_cI (pc' := 43) (as := [vR (some ((a + 9))), vI l3, vI 2]) (r := []) f36_40 (yzv ym_2_126 rfl (ysR0 w (yR9 ha)) rfl rfl) (by omega) rfl ?_
      have p0 := k.1
      replace k := k.2
      refine sp26 w (yR9 ha) p0 ?_
      refine y_s (pc' := 44) (L' := [some (vR (some a)), some (vI l1), some (vI l2), some (vI l3), yo l4]) (st' := [vI l2, vI (zV h (((a + 9)) + 1) (4 * l3 + 2).toNat)]) (h' := h) f36_43 rfl ?_
      refine y_ic (pcT := 51) (pc' := 47) (P := (zV h (((a + 9)) + 1) (4 * l3 + 2).toNat) ≠ l2) f36_44 rfl rfl rfl (fun c => ?_) (fun c => ?_)
      · replace k := k.1 c
        refine y_s (pc' := 52) (L' := [some (vR (some a)), some (vI l1), some (vI l2), some (vI l3), yo l4]) (st' := [vI 0]) (h' := h) f36_51 rfl ?_
        refine y_sto (pc' := 54) (k := 4) (L' := [some (vR (some a)), some (vI l1), some (vI l2), some (vI l3), some (vI 0)]) f36_52 rfl rfl rfl rfl rfl rfl ?_
        refine y_s (pc' := 56) (L' := [some (vR (some a)), some (vI l1), some (vI l2), some (vI l3), some (vI 0)]) (st' := [vI 0]) (h' := h) f36_54 rfl ?_
        refine y_ift (pcT := 87) f36_56 rfl rfl ?_
        refine y_inc (pc' := 90) (L' := [some (vR (some a)), some (vI l1), some (vI l2), some (vI (zw (l3 + 1))), some (vI 0)]) f36_87 rfl rfl rfl rfl ?_
        refine y_go (pc' := 10) f36_90 rfl ?_
        exact k
      · replace k := k.2 c
        refine y_s (pc' := 48) (L' := [some (vR (some a)), some (vI l1), some (vI l2), some (vI l3), yo l4]) (st' := [vI 1]) (h' := h) f36_47 rfl ?_
        refine y_go (pc' := 52) f36_48 rfl ?_
        refine y_sto (pc' := 54) (k := 4) (L' := [some (vR (some a)), some (vI l1), some (vI l2), some (vI l3), some (vI 1)]) f36_52 rfl rfl rfl rfl rfl rfl ?_
        refine y_s (pc' := 56) (L' := [some (vR (some a)), some (vI l1), some (vI l2), some (vI l3), some (vI 1)]) (st' := [vI 1]) (h' := h) f36_54 rfl ?_
        refine y_iff (pcT := 87) (pc' := 59) f36_56 rfl rfl rfl ?_
        refine y_s (pc' := 60) (L' := [some (vR (some a)), some (vI l1), some (vI l2), some (vI l3), some (vI 1)]) (st' := [vR (some a)]) (h' := h) f36_59 rfl ?_
        refine y_s (pc' := 61) (L' := [some (vR (some a)), some (vI l1), some (vI l2), some (vI l3), some (vI 1)]) (st' := [vI l1, vR (some a)]) (h' := h) f36_60 rfl ?_
        refine y_s (pc' := 62) (L' := [some (vR (some a)), some (vI l1), some (vI l2), some (vI l3), some (vI 1)]) (st' := [vR (some a), vI l1, vR (some a)]) (h' := h) f36_61 rfl ?_
        refine y_gr (pc' := 65) f36_62 yf_2_39 rfl rfl (ysH0 w ha) (ypH7 w ha) rfl ?_
        refine y_s (pc' := 66) (L' := [some (vR (some a)), some (vI l1), some (vI l2), some (vI l3), some (vI 1)]) (st' := [vI l3, vR (some ((a + 9))), vI l1, vR (some a)]) (h' := h) f36_65 rfl ?_
        refine y_s (pc' := 67) (L' := [some (vR (some a)), some (vI l1), some (vI l2), some (vI l3), some (vI 1)]) (st' := [vI 1, vI l3, vR (some ((a + 9))), vI l1, vR (some a)]) (h' := h) f36_66 rfl ?_
        refine y_cI (pc' := 70) (as := [vR (some ((a + 9))), vI l3, vI 1]) (r := [vI l1, vR (some a)]) f36_67 (yzv ym_2_126 rfl (ysR0 w (yR9 ha)) rfl rfl) (by omega) rfl ?_
        have p0 := k.1
        replace k := k.2
        refine sp26 w (yR9 ha) p0 ?_
        refine y_cI (pc' := 73) (as := [vR (some a), vI l1, vI (zV h (((a + 9)) + 1) (4 * l3 + 1).toNat)]) (r := []) f36_70 (yzv ym_2_111 rfl (ysH0 w ha) rfl rfl) (by omega) rfl ?_
        have p0 := k.1
        replace k := k.2
        have p1 := k.1
        replace k := k.2
        refine sp17 w ha (by omega) p0 p1 (fun h_73 m_73 => ?_)
        replace k := k h_73 m_73
        have w := m_73.wf w
        refine y_s (pc' := 74) (L' := [some (vR (some a)), some (vI l1), some (vI l2), some (vI l3), some (vI 1)]) (st' := [vR (some a), vI (ynote h a l1 (zV h (((a + 9)) + 1) (4 * l3 + 1).toNat))]) (h' := h_73) f36_73 rfl ?_
        refine y_gr (pc' := 77) f36_74 yf_2_39 rfl rfl (ysH0 w ha) (ypH7 w ha) rfl ?_
        refine y_s (pc' := 78) (L' := [some (vR (some a)), some (vI l1), some (vI l2), some (vI l3), some (vI 1)]) (st' := [vI l3, vR (some ((a + 9))), vI (ynote h a l1 (zV h (((a + 9)) + 1) (4 * l3 + 1).toNat))]) (h' := h_73) f36_77 rfl ?_
        refine y_s (pc' := 79) (L' := [some (vR (some a)), some (vI l1), some (vI l2), some (vI l3), some (vI 1)]) (st' := [vI 3, vI l3, vR (some ((a + 9))), vI (ynote h a l1 (zV h (((a + 9)) + 1) (4 * l3 + 1).toNat))]) (h' := h_73) f36_78 rfl ?_
        refine y_cI (pc' := 82) (as := [vR (some ((a + 9))), vI l3, vI 3]) (r := [vI (ynote h a l1 (zV h (((a + 9)) + 1) (4 * l3 + 1).toNat))]) f36_79 (yzv ym_2_126 rfl (ysR0 w (yR9 ha)) rfl rfl) (by omega) rfl ?_
        have p0 := k.1
        replace k := k.2
        refine sp26 w (yR9 ha) p0 ?_
        refine y_ic (pcT := 87) (pc' := 85) (P := (ynote h a l1 (zV h (((a + 9)) + 1) (4 * l3 + 1).toNat)) = (zV h_73 (((a + 9)) + 1) (4 * l3 + 3).toNat)) f36_82 rfl rfl rfl (fun c => ?_) (fun c => ?_)
        · replace k := k.1 c
          refine y_inc (pc' := 90) (L' := [some (vR (some a)), some (vI l1), some (vI l2), some (vI (zw (l3 + 1))), some (vI 1)]) f36_87 rfl rfl rfl rfl ?_
          refine y_go (pc' := 10) f36_90 rfl ?_
          exact k
        · replace k := k.2 c
          refine y_s (pc' := 86) (L' := [some (vR (some a)), some (vI l1), some (vI l2), some (vI l3), some (vI 1)]) (st' := [vI 0]) (h' := h_73) f36_85 rfl ?_
          exact y_ri f36_86 ⟨rfl, k⟩
theorem W36_97 {d : Nat} {K : Int → Hp → Prop} (w : yWF zl nl h) {a : Nat} (ha : yHs a) {l1 : Int} {l2 : Int} {l3 : Int} {l4 : Option Int} (k : ZW d prog_4_method_19_code 2 2 [some (vR (some a)), some (vI l1), some (vI (zw (l2 + 1))), some (vI l3), yo l4] [] h (yq 2 (yqI K))) : ZW d prog_4_method_19_code 2 97 [some (vR (some a)), some (vI l1), some (vI l2), some (vI l3), yo l4] [] h (yq 2 (yqI K)) := by
  refine y_inc (pc' := 100) (L' := [some (vR (some a)), some (vI l1), some (vI (zw (l2 + 1))), some (vI l3), yo l4]) f36_97 rfl rfl rfl rfl ?_
  refine y_go (pc' := 2) f36_100 rfl ?_
  exact k
/-- HatterTunes.of(II)I -/
theorem E14 {d : Nat} {K : Int → Hp → Prop} (w : yWF zl nl h) {x0 : Int} {x1 : Int} (hd : 6 ≤ d) (k : ((((0 : Int) ≤ x0 ∧ x0 < zV h 33 10) → ((x1 = 0 → ((0 ≤ x0 ∧ x0 < 6) ∧ K (zV h 34 (x0).toNat) h)) ∧ (x1 = 1 → ((0 ≤ x0 ∧ x0 < 6) ∧ K (zV h 35 (x0).toNat) h)) ∧ (x1 = 2 → ((0 ≤ x0 ∧ x0 < 6) ∧ K (zV h 36 (x0).toNat) h)) ∧ (x1 = 3 → ((yHOk h 33) ∧ (((0 : Int) ≤ x0 ∧ x0 < 6) ∧ (∀ h_94, ySm h h_94 → K (ysound h 33 x0) h_94)))) ∧ (x1 = 4 → yI (d - 1) 24 [vR (some 33), vI x0] h (fun x h' => ZW d prog_1_method_3_code 7 103 [some (vR (some 32)), some (vI x0), some (vI x1)] [vI x] h' (yq 1 (yqI K)))) ∧ (x1 = 5 → yI (d - 1) 27 [vR (some 32), vI x0] h (fun x h' => ZW d prog_1_method_3_code 7 109 [some (vR (some 32)), some (vI x0), some (vI x1)] [vI x] h' (yq 1 (yqI K)))) ∧ (x1 = 6 → yI (d - 1) 32 [vR (some 32), vI x0] h (fun x h' => ZW d prog_1_method_3_code 7 115 [some (vR (some 32)), some (vI x0), some (vI x1)] [vI x] h' (yq 1 (yqI K)))) ∧ (x1 < 0 ∨ 6 < x1 → yI (d - 1) 34 [vR (some 32), vI x0, vI (zdiv x1 10), vI (zrem x1 10)] h (fun x h' => ZW d prog_1_method_3_code 7 129 [some (vR (some 32)), some (vI x0), some (vI x1)] [vI x] h' (yq 1 (yqI K)))))) ∧ (¬ (((0 : Int) ≤ x0 ∧ x0 < zV h 33 10)) → K (-10001) h))) : yI d 14 [vR (some 32), vI x0, vI x1] h K := by
  refine y_en (L := [some (vR (some 32)), some (vI x0), some (vI x1)]) rfl rfl ?_
  refine y_s (pc' := 1) (L' := [some (vR (some 32)), some (vI x0), some (vI x1)]) (st' := [vR (some 32)]) (h' := h) f14_0 rfl ?_
  refine y_s (pc' := 2) (L' := [some (vR (some 32)), some (vI x0), some (vI x1)]) (st' := [vI x0, vR (some 32)]) (h' := h) f14_1 rfl ?_
  refine y_cI (pc' := 5) (as := [vR (some 32), vI x0]) (r := []) f14_2 (yzv ym_7_71 rfl (ys32 w) rfl rfl) (by omega) rfl ?_
  refine sp15 w (by omega) (fun c => ?_) (fun c => ?_)
  · replace k := k.1 c
    refine y_ift (pcT := 12) f14_5 rfl rfl ?_
    refine y_s (pc' := 13) (L' := [some (vR (some 32)), some (vI x0), some (vI x1)]) (st' := [vI x1]) (h' := h) f14_12 rfl ?_
    by_cases c : x1 = 0
    · refine y_tc (pc' := 56) (v := 0) f14_13 c rfl rfl rfl ?_
      replace k := k.1 c
      refine y_s (pc' := 57) (L' := [some (vR (some 32)), some (vI x0), some (vI x1)]) (st' := [vR (some 32)]) (h' := h) f14_56 rfl ?_
      refine y_gr (pc' := 60) f14_57 yf_7_14 rfl rfl (ys32 w) (yp32_0 w) rfl ?_
      refine y_gr (pc' := 63) f14_60 yf_7_75 rfl rfl (ys33 w) (yp33_0 w) rfl ?_
      refine y_s (pc' := 64) (L' := [some (vR (some 32)), some (vI x0), some (vI x1)]) (st' := [vI x0, vR (some 34)]) (h' := h) f14_63 rfl ?_
      refine y_ia (pc' := 65) (x := (zV h 34 (x0).toNat)) f14_64 (ys34 w) k.1 rfl rfl ?_
      replace k := k.2
      exact y_ri f14_65 ⟨rfl, k⟩
    replace k := k.2
    have c0 := c
    by_cases c : x1 = 1
    · refine y_tc (pc' := 66) (v := 1) f14_13 c rfl rfl rfl ?_
      replace k := k.1 c
      refine y_s (pc' := 67) (L' := [some (vR (some 32)), some (vI x0), some (vI x1)]) (st' := [vR (some 32)]) (h' := h) f14_66 rfl ?_
      refine y_gr (pc' := 70) f14_67 yf_7_14 rfl rfl (ys32 w) (yp32_0 w) rfl ?_
      refine y_gr (pc' := 73) f14_70 yf_7_79 rfl rfl (ys33 w) (yp33_1 w) rfl ?_
      refine y_s (pc' := 74) (L' := [some (vR (some 32)), some (vI x0), some (vI x1)]) (st' := [vI x0, vR (some 35)]) (h' := h) f14_73 rfl ?_
      refine y_ia (pc' := 75) (x := (zV h 35 (x0).toNat)) f14_74 (ys35 w) k.1 rfl rfl ?_
      replace k := k.2
      exact y_ri f14_75 ⟨rfl, k⟩
    replace k := k.2
    have c1 := c
    by_cases c : x1 = 2
    · refine y_tc (pc' := 76) (v := 2) f14_13 c rfl rfl rfl ?_
      replace k := k.1 c
      refine y_s (pc' := 77) (L' := [some (vR (some 32)), some (vI x0), some (vI x1)]) (st' := [vR (some 32)]) (h' := h) f14_76 rfl ?_
      refine y_gr (pc' := 80) f14_77 yf_7_14 rfl rfl (ys32 w) (yp32_0 w) rfl ?_
      refine y_gr (pc' := 83) f14_80 yf_7_82 rfl rfl (ys33 w) (yp33_2 w) rfl ?_
      refine y_s (pc' := 84) (L' := [some (vR (some 32)), some (vI x0), some (vI x1)]) (st' := [vI x0, vR (some 36)]) (h' := h) f14_83 rfl ?_
      refine y_ia (pc' := 85) (x := (zV h 36 (x0).toNat)) f14_84 (ys36 w) k.1 rfl rfl ?_
      replace k := k.2
      exact y_ri f14_85 ⟨rfl, k⟩
    replace k := k.2
    have c2 := c
    by_cases c : x1 = 3
    · refine y_tc (pc' := 86) (v := 3) f14_13 c rfl rfl rfl ?_
      replace k := k.1 c
      refine y_s (pc' := 87) (L' := [some (vR (some 32)), some (vI x0), some (vI x1)]) (st' := [vR (some 32)]) (h' := h) f14_86 rfl ?_
      refine y_gr (pc' := 90) f14_87 yf_7_14 rfl rfl (ys32 w) (yp32_0 w) rfl ?_
      refine y_s (pc' := 91) (L' := [some (vR (some 32)), some (vI x0), some (vI x1)]) (st' := [vI x0, vR (some 33)]) (h' := h) f14_90 rfl ?_
      refine y_cI (pc' := 94) (as := [vR (some 33), vI x0]) (r := []) f14_91 (yzv ym_7_85 rfl (ys33 w) rfl rfl) (by omega) rfl ?_
      have p0 := k.1
      replace k := k.2
      have p1 := k.1
      replace k := k.2
      refine sp16 w (Or.inl rfl) (by omega) p0 p1 (fun h_94 m_94 => ?_)
      replace k := k h_94 m_94
      have w := m_94.wf w
      exact y_ri f14_94 ⟨rfl, k⟩
    replace k := k.2
    have c3 := c
    by_cases c : x1 = 4
    · refine y_tc (pc' := 95) (v := 4) f14_13 c rfl rfl rfl ?_
      replace k := k.1 c
      refine y_s (pc' := 96) (L' := [some (vR (some 32)), some (vI x0), some (vI x1)]) (st' := [vR (some 32)]) (h' := h) f14_95 rfl ?_
      refine y_gr (pc' := 99) f14_96 yf_7_14 rfl rfl (ys32 w) (yp32_0 w) rfl ?_
      refine y_s (pc' := 100) (L' := [some (vR (some 32)), some (vI x0), some (vI x1)]) (st' := [vI x0, vR (some 33)]) (h' := h) f14_99 rfl ?_
      refine y_cI (pc' := 103) (as := [vR (some 33), vI x0]) (r := []) f14_100 (yzv ym_7_89 rfl (ys33 w) rfl rfl) (by omega) rfl ?_
      exact k
    replace k := k.2
    have c4 := c
    by_cases c : x1 = 5
    · refine y_tc (pc' := 104) (v := 5) f14_13 c rfl rfl rfl ?_
      replace k := k.1 c
      refine y_s (pc' := 105) (L' := [some (vR (some 32)), some (vI x0), some (vI x1)]) (st' := [vR (some 32)]) (h' := h) f14_104 rfl ?_
      refine y_s (pc' := 106) (L' := [some (vR (some 32)), some (vI x0), some (vI x1)]) (st' := [vI x0, vR (some 32)]) (h' := h) f14_105 rfl ?_
      refine y_cI (pc' := 109) (as := [vR (some 32), vI x0]) (r := []) f14_106 (yzv ym_7_92 rfl (ys32 w) rfl rfl) (by omega) rfl ?_
      exact k
    replace k := k.2
    have c5 := c
    by_cases c : x1 = 6
    · refine y_tc (pc' := 110) (v := 6) f14_13 c rfl rfl rfl ?_
      replace k := k.1 c
      refine y_s (pc' := 111) (L' := [some (vR (some 32)), some (vI x0), some (vI x1)]) (st' := [vR (some 32)]) (h' := h) f14_110 rfl ?_
      refine y_s (pc' := 112) (L' := [some (vR (some 32)), some (vI x0), some (vI x1)]) (st' := [vI x0, vR (some 32)]) (h' := h) f14_111 rfl ?_
      refine y_cI (pc' := 115) (as := [vR (some 32), vI x0]) (r := []) f14_112 (yzv ym_7_95 rfl (ys32 w) rfl rfl) (by omega) rfl ?_
      exact k
    replace k := k.2
    have c6 := c
    have cc : x1 < 0 ∨ 6 < x1 := by omega
    refine y_td (pc' := 116) f14_13 cc rfl ?_
    replace k := k cc
    refine y_s (pc' := 117) (L' := [some (vR (some 32)), some (vI x0), some (vI x1)]) (st' := [vR (some 32)]) (h' := h) f14_116 rfl ?_
    refine y_s (pc' := 118) (L' := [some (vR (some 32)), some (vI x0), some (vI x1)]) (st' := [vI x0, vR (some 32)]) (h' := h) f14_117 rfl ?_
    refine y_s (pc' := 119) (L' := [some (vR (some 32)), some (vI x0), some (vI x1)]) (st' := [vI x1, vI x0, vR (some 32)]) (h' := h) f14_118 rfl ?_
    refine y_s (pc' := 121) (L' := [some (vR (some 32)), some (vI x0), some (vI x1)]) (st' := [vI 10, vI x1, vI x0, vR (some 32)]) (h' := h) f14_119 rfl ?_
    refine y_dv (pc' := 122) f14_121 (by decide) rfl ?_
    refine y_s (pc' := 123) (L' := [some (vR (some 32)), some (vI x0), some (vI x1)]) (st' := [vI x1, vI (zdiv x1 10), vI x0, vR (some 32)]) (h' := h) f14_122 rfl ?_
    refine y_s (pc' := 125) (L' := [some (vR (some 32)), some (vI x0), some (vI x1)]) (st' := [vI 10, vI x1, vI (zdiv x1 10), vI x0, vR (some 32)]) (h' := h) f14_123 rfl ?_
    refine y_rm (pc' := 126) f14_125 (by decide) rfl ?_
    refine y_cI (pc' := 129) (as := [vR (some 32), vI x0, vI (zdiv x1 10), vI (zrem x1 10)]) (r := []) f14_126 (yzv ym_7_98 rfl (ys32 w) rfl rfl) (by omega) rfl ?_
    exact k
  · replace k := k.2 c
    refine y_iff (pcT := 12) (pc' := 8) f14_5 rfl rfl rfl ?_
    refine y_s (pc' := 11) (L' := [some (vR (some 32)), some (vI x0), some (vI x1)]) (st' := [vI (-10001)]) (h' := h) f14_8 rfl ?_
    exact y_ri f14_11 ⟨rfl, k⟩
theorem W14_103 {d : Nat} {K : Int → Hp → Prop} (w : yWF zl nl h) {l1 : Int} {l2 : Int} {s0 : Int} (k : K s0 h) : ZW d prog_1_method_3_code 7 103 [some (vR (some 32)), some (vI l1), some (vI l2)] [vI s0] h (yq 1 (yqI K)) := by
  exact y_ri f14_103 ⟨rfl, k⟩
theorem W14_109 {d : Nat} {K : Int → Hp → Prop} (w : yWF zl nl h) {l1 : Int} {l2 : Int} {s0 : Int} (k : K s0 h) : ZW d prog_1_method_3_code 7 109 [some (vR (some 32)), some (vI l1), some (vI l2)] [vI s0] h (yq 1 (yqI K)) := by
  exact y_ri f14_109 ⟨rfl, k⟩
theorem W14_115 {d : Nat} {K : Int → Hp → Prop} (w : yWF zl nl h) {l1 : Int} {l2 : Int} {s0 : Int} (k : K s0 h) : ZW d prog_1_method_3_code 7 115 [some (vR (some 32)), some (vI l1), some (vI l2)] [vI s0] h (yq 1 (yqI K)) := by
  exact y_ri f14_115 ⟨rfl, k⟩
theorem W14_129 {d : Nat} {K : Int → Hp → Prop} (w : yWF zl nl h) {l1 : Int} {l2 : Int} {s0 : Int} (k : K s0 h) : ZW d prog_1_method_3_code 7 129 [some (vR (some 32)), some (vI l1), some (vI l2)] [vI s0] h (yq 1 (yqI K)) := by
  exact y_ri f14_129 ⟨rfl, k⟩
/-- HatterTunes$Text.parseInto(LHatterTunes$Shop;)I -/
theorem E47 {d : Nat} {K : Int → Hp → Prop} (w : yWF zl nl h) {b : Nat} (hb : ySh b) (hd : 1 ≤ d) (k : (∀ h_4, (zsetV (zsetV h b 3 0) b 4 0) = h_4 → (yWF zl nl (zsetP h_4 90 4 (some b)) ∧ (∀ h_14, (zsetV (zsetP h_4 90 4 (some b)) 90 2 0) = h_14 → yI (d - 1) 49 [vR (some 90)] h_14 (fun x h' => ZW d prog_8_method_4_code 6 18 [some (vR (some 90)), some (vR (some b)), none, none] [vI x] h' (yq 1 (yqI K))))))) : yI d 47 [vR (some 90), vR (some b)] h K := by
  refine y_en (L := [some (vR (some 90)), some (vR (some b)), none, none]) rfl rfl ?_
  refine y_s (pc' := 1) (L' := [some (vR (some 90)), some (vR (some b)), none, none]) (st' := [vR (some b)]) (h' := h) f47_0 rfl ?_
  refine y_cU (pc' := 4) (as := [vR (some b)]) (r := []) f47_1 (yzv ym_6_19 rfl (ysS0 w hb) rfl rfl) (by omega) rfl ?_
  refine sp48 w hb ?_
  generalize e_4 : (zsetV (zsetV h b 3 0) b 4 0) = h_4
  replace k := k _ e_4
  have w : yWF zl nl h_4 := by rw [← e_4]; exact w
  refine y_s (pc' := 5) (L' := [some (vR (some 90)), some (vR (some b)), none, none]) (st' := [vR (some 90)]) (h' := h_4) f47_4 rfl ?_
  refine y_s (pc' := 6) (L' := [some (vR (some 90)), some (vR (some b)), none, none]) (st' := [vR (some b), vR (some 90)]) (h' := h_4) f47_5 rfl ?_
  refine y_pr (pc' := 9) f47_6 yf_6_24 rfl rfl (ys90 w) (by decide) rfl rfl ?_
  replace w := k.1
  replace k := k.2
  refine y_s (pc' := 10) (L' := [some (vR (some 90)), some (vR (some b)), none, none]) (st' := [vR (some 90)]) (h' := (zsetP h_4 90 4 (some b))) f47_9 rfl ?_
  refine y_s (pc' := 11) (L' := [some (vR (some 90)), some (vR (some b)), none, none]) (st' := [vI 0, vR (some 90)]) (h' := (zsetP h_4 90 4 (some b))) f47_10 rfl ?_
  refine y_pi (pc' := 14) f47_11 yf_6_28 rfl rfl (ys90 w) (by decide) (Or.inl rfl) rfl ?_
  generalize e_14 : (zsetV (zsetP h_4 90 4 (some b)) 90 2 0) = h_14
  replace k := k _ e_14
  have w : yWF zl nl h_14 := by rw [← e_14]; exact w
  refine y_s (pc' := 15) (L' := [some (vR (some 90)), some (vR (some b)), none, none]) (st' := [vR (some 90)]) (h' := h_14) f47_14 rfl ?_
  refine y_cI (pc' := 18) (as := [vR (some 90)]) (r := []) f47_15 (yzv ym_6_31 rfl (ys90 w) rfl rfl) (by omega) rfl ?_
  exact k
theorem W47_18 {d : Nat} {K : Int → Hp → Prop} (w : yWF zl nl h) {b : Nat} (hb : ySh b) {s0 : Int} (k : ZW d prog_8_method_4_code 6 21 [some (vR (some 90)), some (vR (some b)), some (vI s0), some (vI 1)] [] h (yq 1 (yqI K))) : ZW d prog_8_method_4_code 6 18 [some (vR (some 90)), some (vR (some b)), none, none] [vI s0] h (yq 1 (yqI K)) := by
  refine y_sto (pc' := 19) (k := 2) (L' := [some (vR (some 90)), some (vR (some b)), some (vI s0), none]) f47_18 rfl rfl rfl rfl rfl rfl ?_
  refine y_s (pc' := 20) (L' := [some (vR (some 90)), some (vR (some b)), some (vI s0), none]) (st' := [vI 1]) (h' := h) f47_19 rfl ?_
  refine y_sto (pc' := 21) (k := 3) (L' := [some (vR (some 90)), some (vR (some b)), some (vI s0), some (vI 1)]) f47_20 rfl rfl rfl rfl rfl rfl ?_
  exact k
theorem W47_21 {d : Nat} {K : Int → Hp → Prop} (w : yWF zl nl h) {b : Nat} (hb : ySh b) {l2 : Int} {l3 : Int} (hd : 1 ≤ d) (k : ((10 ≤ l3 → ((l2 = 0 → K (zV h 90 2) (zsetV h 90 1 0)) ∧ (¬ (l2 = 0) → (((zV h 90 2) ≠ (zV h 90 1) → K (zV h 90 2) (zsetV h 90 1 0)) ∧ (¬ ((zV h 90 2) ≠ (zV h 90 1)) → K (-1) (zsetV h 90 1 0)))))) ∧ (¬ (10 ≤ l3) → ((l2 = 0 → ((l2 = 0 → K (zV h 90 2) (zsetV h 90 1 0)) ∧ (¬ (l2 = 0) → (((zV h 90 2) ≠ (zV h 90 1) → K (zV h 90 2) (zsetV h 90 1 0)) ∧ (¬ ((zV h 90 2) ≠ (zV h 90 1)) → K (-1) (zsetV h 90 1 0)))))) ∧ (¬ (l2 = 0) → yI (d - 1) 63 [vR (some 90), vI 59] h (fun x h' => ZW d prog_8_method_4_code 6 37 [some (vR (some 90)), some (vR (some b)), some (vI l2), some (vI l3)] [vI x] h' (yq 1 (yqI K)))))))) : ZW d prog_8_method_4_code 6 21 [some (vR (some 90)), some (vR (some b)), some (vI l2), some (vI l3)] [] h (yq 1 (yqI K)) := by
  refine y_s (pc' := 22) (L' := [some (vR (some 90)), some (vR (some b)), some (vI l2), some (vI l3)]) (st' := [vI l3]) (h' := h) f47_21 rfl ?_
  refine y_s (pc' := 24) (L' := [some (vR (some 90)), some (vR (some b)), some (vI l2), some (vI l3)]) (st' := [vI 10, vI l3]) (h' := h) f47_22 rfl ?_
  refine y_ic (pcT := 51) (pc' := 27) (P := 10 ≤ l3) f47_24 rfl rfl rfl (fun c => ?_) (fun c => ?_)
  · replace k := k.1 c
    refine y_s (pc' := 52) (L' := [some (vR (some 90)), some (vR (some b)), some (vI l2), some (vI l3)]) (st' := [vI l2]) (h' := h) f47_51 rfl ?_
    refine y_if (pcT := 70) (pc' := 55) (P := l2 = 0) f47_52 rfl rfl rfl (fun c => ?_) (fun c => ?_)
    · replace k := k.1 c
      refine y_s (pc' := 71) (L' := [some (vR (some 90)), some (vR (some b)), some (vI l2), some (vI l3)]) (st' := [vR (some 90)]) (h' := h) f47_70 rfl ?_
      refine y_gi (pc' := 74) f47_71 yf_6_28 rfl rfl (ys90 w) rfl ?_
      refine y_sto (pc' := 75) (k := 3) (L' := [some (vR (some 90)), some (vR (some b)), some (vI l2), some (vI (zV h 90 2))]) f47_74 rfl rfl rfl rfl rfl rfl ?_
      refine y_s (pc' := 76) (L' := [some (vR (some 90)), some (vR (some b)), some (vI l2), some (vI (zV h 90 2))]) (st' := [vR (some 90)]) (h' := h) f47_75 rfl ?_
      refine y_s (pc' := 77) (L' := [some (vR (some 90)), some (vR (some b)), some (vI l2), some (vI (zV h 90 2))]) (st' := [vI 0, vR (some 90)]) (h' := h) f47_76 rfl ?_
      refine y_pi (pc' := 80) f47_77 yf_6_15 rfl rfl (ys90 w) (by decide) (Or.inl rfl) rfl ?_
      refine y_s (pc' := 81) (L' := [some (vR (some 90)), some (vR (some b)), some (vI l2), some (vI (zV h 90 2))]) (st' := [vI (zV h 90 2)]) (h' := (zsetV h 90 1 0)) f47_80 rfl ?_
      exact y_ri f47_81 ⟨rfl, k⟩
    · replace k := k.2 c
      refine y_s (pc' := 56) (L' := [some (vR (some 90)), some (vR (some b)), some (vI l2), some (vI l3)]) (st' := [vR (some 90)]) (h' := h) f47_55 rfl ?_
      refine y_gi (pc' := 59) f47_56 yf_6_28 rfl rfl (ys90 w) rfl ?_
      refine y_s (pc' := 60) (L' := [some (vR (some 90)), some (vR (some b)), some (vI l2), some (vI l3)]) (st' := [vR (some 90), vI (zV h 90 2)]) (h' := h) f47_59 rfl ?_
      refine y_gi (pc' := 63) f47_60 yf_6_15 rfl rfl (ys90 w) rfl ?_
      refine y_ic (pcT := 70) (pc' := 66) (P := (zV h 90 2) ≠ (zV h 90 1)) f47_63 rfl rfl rfl (fun c => ?_) (fun c => ?_)
      · replace k := k.1 c
        refine y_s (pc' := 71) (L' := [some (vR (some 90)), some (vR (some b)), some (vI l2), some (vI l3)]) (st' := [vR (some 90)]) (h' := h) f47_70 rfl ?_
        refine y_gi (pc' := 74) f47_71 yf_6_28 rfl rfl (ys90 w) rfl ?_
        refine y_sto (pc' := 75) (k := 3) (L' := [some (vR (some 90)), some (vR (some b)), some (vI l2), some (vI (zV h 90 2))]) f47_74 rfl rfl rfl rfl rfl rfl ?_
        refine y_s (pc' := 76) (L' := [some (vR (some 90)), some (vR (some b)), some (vI l2), some (vI (zV h 90 2))]) (st' := [vR (some 90)]) (h' := h) f47_75 rfl ?_
        refine y_s (pc' := 77) (L' := [some (vR (some 90)), some (vR (some b)), some (vI l2), some (vI (zV h 90 2))]) (st' := [vI 0, vR (some 90)]) (h' := h) f47_76 rfl ?_
        refine y_pi (pc' := 80) f47_77 yf_6_15 rfl rfl (ys90 w) (by decide) (Or.inl rfl) rfl ?_
        refine y_s (pc' := 81) (L' := [some (vR (some 90)), some (vR (some b)), some (vI l2), some (vI (zV h 90 2))]) (st' := [vI (zV h 90 2)]) (h' := (zsetV h 90 1 0)) f47_80 rfl ?_
        exact y_ri f47_81 ⟨rfl, k⟩
      · replace k := k.2 c
        refine y_s (pc' := 67) (L' := [some (vR (some 90)), some (vR (some b)), some (vI l2), some (vI l3)]) (st' := [vI (-1)]) (h' := h) f47_66 rfl ?_
        refine y_go (pc' := 74) f47_67 rfl ?_
        refine y_sto (pc' := 75) (k := 3) (L' := [some (vR (some 90)), some (vR (some b)), some (vI l2), some (vI (-1))]) f47_74 rfl rfl rfl rfl rfl rfl ?_
        refine y_s (pc' := 76) (L' := [some (vR (some 90)), some (vR (some b)), some (vI l2), some (vI (-1))]) (st' := [vR (some 90)]) (h' := h) f47_75 rfl ?_
        refine y_s (pc' := 77) (L' := [some (vR (some 90)), some (vR (some b)), some (vI l2), some (vI (-1))]) (st' := [vI 0, vR (some 90)]) (h' := h) f47_76 rfl ?_
        refine y_pi (pc' := 80) f47_77 yf_6_15 rfl rfl (ys90 w) (by decide) (Or.inl rfl) rfl ?_
        refine y_s (pc' := 81) (L' := [some (vR (some 90)), some (vR (some b)), some (vI l2), some (vI (-1))]) (st' := [vI (-1)]) (h' := (zsetV h 90 1 0)) f47_80 rfl ?_
        exact y_ri f47_81 ⟨rfl, k⟩
  · replace k := k.2 c
    refine y_s (pc' := 28) (L' := [some (vR (some 90)), some (vR (some b)), some (vI l2), some (vI l3)]) (st' := [vI l2]) (h' := h) f47_27 rfl ?_
    refine y_if (pcT := 51) (pc' := 31) (P := l2 = 0) f47_28 rfl rfl rfl (fun c => ?_) (fun c => ?_)
    · replace k := k.1 c
      refine y_s (pc' := 52) (L' := [some (vR (some 90)), some (vR (some b)), some (vI l2), some (vI l3)]) (st' := [vI l2]) (h' := h) f47_51 rfl ?_
      refine y_if (pcT := 70) (pc' := 55) (P := l2 = 0) f47_52 rfl rfl rfl (fun c => ?_) (fun c => ?_)
      · replace k := k.1 c
        refine y_s (pc' := 71) (L' := [some (vR (some 90)), some (vR (some b)), some (vI l2), some (vI l3)]) (st' := [vR (some 90)]) (h' := h) f47_70 rfl ?_
        refine y_gi (pc' := 74) f47_71 yf_6_28 rfl rfl (ys90 w) rfl ?_
        refine y_sto (pc' := 75) (k := 3) (L' := [some (vR (some 90)), some (vR (some b)), some (vI l2), some (vI (zV h 90 2))]) f47_74 rfl rfl rfl rfl rfl rfl ?_
        refine y_s (pc' := 76) (L' := [some (vR (some 90)), some (vR (some b)), some (vI l2), some (vI (zV h 90 2))]) (st' := [vR (some 90)]) (h' := h) f47_75 rfl ?_
        refine y_s (pc' := 77) (L' := [some (vR (some 90)), some (vR (some b)), some (vI l2), some (vI (zV h 90 2))]) (st' := [vI 0, vR (some 90)]) (h' := h) f47_76 rfl ?_
        refine y_pi (pc' := 80) f47_77 yf_6_15 rfl rfl (ys90 w) (by decide) (Or.inl rfl) rfl ?_
        refine y_s (pc' := 81) (L' := [some (vR (some 90)), some (vR (some b)), some (vI l2), some (vI (zV h 90 2))]) (st' := [vI (zV h 90 2)]) (h' := (zsetV h 90 1 0)) f47_80 rfl ?_
        exact y_ri f47_81 ⟨rfl, k⟩
      · replace k := k.2 c
        refine y_s (pc' := 56) (L' := [some (vR (some 90)), some (vR (some b)), some (vI l2), some (vI l3)]) (st' := [vR (some 90)]) (h' := h) f47_55 rfl ?_
        refine y_gi (pc' := 59) f47_56 yf_6_28 rfl rfl (ys90 w) rfl ?_
        refine y_s (pc' := 60) (L' := [some (vR (some 90)), some (vR (some b)), some (vI l2), some (vI l3)]) (st' := [vR (some 90), vI (zV h 90 2)]) (h' := h) f47_59 rfl ?_
        refine y_gi (pc' := 63) f47_60 yf_6_15 rfl rfl (ys90 w) rfl ?_
        refine y_ic (pcT := 70) (pc' := 66) (P := (zV h 90 2) ≠ (zV h 90 1)) f47_63 rfl rfl rfl (fun c => ?_) (fun c => ?_)
        · replace k := k.1 c
          refine y_s (pc' := 71) (L' := [some (vR (some 90)), some (vR (some b)), some (vI l2), some (vI l3)]) (st' := [vR (some 90)]) (h' := h) f47_70 rfl ?_
          refine y_gi (pc' := 74) f47_71 yf_6_28 rfl rfl (ys90 w) rfl ?_
          refine y_sto (pc' := 75) (k := 3) (L' := [some (vR (some 90)), some (vR (some b)), some (vI l2), some (vI (zV h 90 2))]) f47_74 rfl rfl rfl rfl rfl rfl ?_
          refine y_s (pc' := 76) (L' := [some (vR (some 90)), some (vR (some b)), some (vI l2), some (vI (zV h 90 2))]) (st' := [vR (some 90)]) (h' := h) f47_75 rfl ?_
          refine y_s (pc' := 77) (L' := [some (vR (some 90)), some (vR (some b)), some (vI l2), some (vI (zV h 90 2))]) (st' := [vI 0, vR (some 90)]) (h' := h) f47_76 rfl ?_
          refine y_pi (pc' := 80) f47_77 yf_6_15 rfl rfl (ys90 w) (by decide) (Or.inl rfl) rfl ?_
          refine y_s (pc' := 81) (L' := [some (vR (some 90)), some (vR (some b)), some (vI l2), some (vI (zV h 90 2))]) (st' := [vI (zV h 90 2)]) (h' := (zsetV h 90 1 0)) f47_80 rfl ?_
          exact y_ri f47_81 ⟨rfl, k⟩
        · replace k := k.2 c
          refine y_s (pc' := 67) (L' := [some (vR (some 90)), some (vR (some b)), some (vI l2), some (vI l3)]) (st' := [vI (-1)]) (h' := h) f47_66 rfl ?_
          refine y_go (pc' := 74) f47_67 rfl ?_
          refine y_sto (pc' := 75) (k := 3) (L' := [some (vR (some 90)), some (vR (some b)), some (vI l2), some (vI (-1))]) f47_74 rfl rfl rfl rfl rfl rfl ?_
          refine y_s (pc' := 76) (L' := [some (vR (some 90)), some (vR (some b)), some (vI l2), some (vI (-1))]) (st' := [vR (some 90)]) (h' := h) f47_75 rfl ?_
          refine y_s (pc' := 77) (L' := [some (vR (some 90)), some (vR (some b)), some (vI l2), some (vI (-1))]) (st' := [vI 0, vR (some 90)]) (h' := h) f47_76 rfl ?_
          refine y_pi (pc' := 80) f47_77 yf_6_15 rfl rfl (ys90 w) (by decide) (Or.inl rfl) rfl ?_
          refine y_s (pc' := 81) (L' := [some (vR (some 90)), some (vR (some b)), some (vI l2), some (vI (-1))]) (st' := [vI (-1)]) (h' := (zsetV h 90 1 0)) f47_80 rfl ?_
          exact y_ri f47_81 ⟨rfl, k⟩
    · replace k := k.2 c
      refine y_s (pc' := 32) (L' := [some (vR (some 90)), some (vR (some b)), some (vI l2), some (vI l3)]) (st' := [vR (some 90)]) (h' := h) f47_31 rfl ?_
      refine y_s (pc' := 34) (L' := [some (vR (some 90)), some (vR (some b)), some (vI l2), some (vI l3)]) (st' := [vI 59, vR (some 90)]) (h' := h) f47_32 rfl ?_
      refine y_cI (pc' := 37) (as := [vR (some 90), vI 59]) (r := []) f47_34 (yzv ym_6_35 rfl (ys90 w) rfl rfl) (by omega) rfl ?_
      exact k
theorem W47_37 {d : Nat} {K : Int → Hp → Prop} (w : yWF zl nl h) {b : Nat} (hb : ySh b) {l2 : Int} {l3 : Int} {s0 : Int} (hd : 1 ≤ d) (k : ((s0 = 0 → ((l2 = 0 → K (zV h 90 2) (zsetV h 90 1 0)) ∧ (¬ (l2 = 0) → (((zV h 90 2) ≠ (zV h 90 1) → K (zV h 90 2) (zsetV h 90 1 0)) ∧ (¬ ((zV h 90 2) ≠ (zV h 90 1)) → K (-1) (zsetV h 90 1 0)))))) ∧ (¬ (s0 = 0) → yI (d - 1) 49 [vR (some 90)] h (fun x h' => ZW d prog_8_method_4_code 6 44 [some (vR (some 90)), some (vR (some b)), some (vI l2), some (vI l3)] [vI x] h' (yq 1 (yqI K)))))) : ZW d prog_8_method_4_code 6 37 [some (vR (some 90)), some (vR (some b)), some (vI l2), some (vI l3)] [vI s0] h (yq 1 (yqI K)) := by
  refine y_if (pcT := 51) (pc' := 40) (P := s0 = 0) f47_37 rfl rfl rfl (fun c => ?_) (fun c => ?_)
  · replace k := k.1 c
    refine y_s (pc' := 52) (L' := [some (vR (some 90)), some (vR (some b)), some (vI l2), some (vI l3)]) (st' := [vI l2]) (h' := h) f47_51 rfl ?_
    refine y_if (pcT := 70) (pc' := 55) (P := l2 = 0) f47_52 rfl rfl rfl (fun c => ?_) (fun c => ?_)
    · replace k := k.1 c
      refine y_s (pc' := 71) (L' := [some (vR (some 90)), some (vR (some b)), some (vI l2), some (vI l3)]) (st' := [vR (some 90)]) (h' := h) f47_70 rfl ?_
      refine y_gi (pc' := 74) f47_71 yf_6_28 rfl rfl (ys90 w) rfl ?_
      refine y_sto (pc' := 75) (k := 3) (L' := [some (vR (some 90)), some (vR (some b)), some (vI l2), some (vI (zV h 90 2))]) f47_74 rfl rfl rfl rfl rfl rfl ?_
      refine y_s (pc' := 76) (L' := [some (vR (some 90)), some (vR (some b)), some (vI l2), some (vI (zV h 90 2))]) (st' := [vR (some 90)]) (h' := h) f47_75 rfl ?_
      refine y_s (pc' := 77) (L' := [some (vR (some 90)), some (vR (some b)), some (vI l2), some (vI (zV h 90 2))]) (st' := [vI 0, vR (some 90)]) (h' := h) f47_76 rfl ?_
      refine y_pi (pc' := 80) f47_77 yf_6_15 rfl rfl (ys90 w) (by decide) (Or.inl rfl) rfl ?_
      refine y_s (pc' := 81) (L' := [some (vR (some 90)), some (vR (some b)), some (vI l2), some (vI (zV h 90 2))]) (st' := [vI (zV h 90 2)]) (h' := (zsetV h 90 1 0)) f47_80 rfl ?_
      exact y_ri f47_81 ⟨rfl, k⟩
    · replace k := k.2 c
      refine y_s (pc' := 56) (L' := [some (vR (some 90)), some (vR (some b)), some (vI l2), some (vI l3)]) (st' := [vR (some 90)]) (h' := h) f47_55 rfl ?_
      refine y_gi (pc' := 59) f47_56 yf_6_28 rfl rfl (ys90 w) rfl ?_
      refine y_s (pc' := 60) (L' := [some (vR (some 90)), some (vR (some b)), some (vI l2), some (vI l3)]) (st' := [vR (some 90), vI (zV h 90 2)]) (h' := h) f47_59 rfl ?_
      refine y_gi (pc' := 63) f47_60 yf_6_15 rfl rfl (ys90 w) rfl ?_
      refine y_ic (pcT := 70) (pc' := 66) (P := (zV h 90 2) ≠ (zV h 90 1)) f47_63 rfl rfl rfl (fun c => ?_) (fun c => ?_)
      · replace k := k.1 c
        refine y_s (pc' := 71) (L' := [some (vR (some 90)), some (vR (some b)), some (vI l2), some (vI l3)]) (st' := [vR (some 90)]) (h' := h) f47_70 rfl ?_
        refine y_gi (pc' := 74) f47_71 yf_6_28 rfl rfl (ys90 w) rfl ?_
        refine y_sto (pc' := 75) (k := 3) (L' := [some (vR (some 90)), some (vR (some b)), some (vI l2), some (vI (zV h 90 2))]) f47_74 rfl rfl rfl rfl rfl rfl ?_
        refine y_s (pc' := 76) (L' := [some (vR (some 90)), some (vR (some b)), some (vI l2), some (vI (zV h 90 2))]) (st' := [vR (some 90)]) (h' := h) f47_75 rfl ?_
        refine y_s (pc' := 77) (L' := [some (vR (some 90)), some (vR (some b)), some (vI l2), some (vI (zV h 90 2))]) (st' := [vI 0, vR (some 90)]) (h' := h) f47_76 rfl ?_
        refine y_pi (pc' := 80) f47_77 yf_6_15 rfl rfl (ys90 w) (by decide) (Or.inl rfl) rfl ?_
        refine y_s (pc' := 81) (L' := [some (vR (some 90)), some (vR (some b)), some (vI l2), some (vI (zV h 90 2))]) (st' := [vI (zV h 90 2)]) (h' := (zsetV h 90 1 0)) f47_80 rfl ?_
        exact y_ri f47_81 ⟨rfl, k⟩
      · replace k := k.2 c
        refine y_s (pc' := 67) (L' := [some (vR (some 90)), some (vR (some b)), some (vI l2), some (vI l3)]) (st' := [vI (-1)]) (h' := h) f47_66 rfl ?_
        refine y_go (pc' := 74) f47_67 rfl ?_
        refine y_sto (pc' := 75) (k := 3) (L' := [some (vR (some 90)), some (vR (some b)), some (vI l2), some (vI (-1))]) f47_74 rfl rfl rfl rfl rfl rfl ?_
        refine y_s (pc' := 76) (L' := [some (vR (some 90)), some (vR (some b)), some (vI l2), some (vI (-1))]) (st' := [vR (some 90)]) (h' := h) f47_75 rfl ?_
        refine y_s (pc' := 77) (L' := [some (vR (some 90)), some (vR (some b)), some (vI l2), some (vI (-1))]) (st' := [vI 0, vR (some 90)]) (h' := h) f47_76 rfl ?_
        refine y_pi (pc' := 80) f47_77 yf_6_15 rfl rfl (ys90 w) (by decide) (Or.inl rfl) rfl ?_
        refine y_s (pc' := 81) (L' := [some (vR (some 90)), some (vR (some b)), some (vI l2), some (vI (-1))]) (st' := [vI (-1)]) (h' := (zsetV h 90 1 0)) f47_80 rfl ?_
        exact y_ri f47_81 ⟨rfl, k⟩
  · replace k := k.2 c
    refine y_s (pc' := 41) (L' := [some (vR (some 90)), some (vR (some b)), some (vI l2), some (vI l3)]) (st' := [vR (some 90)]) (h' := h) f47_40 rfl ?_
    refine y_cI (pc' := 44) (as := [vR (some 90)]) (r := []) f47_41 (yzv ym_6_31 rfl (ys90 w) rfl rfl) (by omega) rfl ?_
    exact k
theorem W47_44 {d : Nat} {K : Int → Hp → Prop} (w : yWF zl nl h) {b : Nat} (hb : ySh b) {l2 : Int} {l3 : Int} {s0 : Int} (k : ZW d prog_8_method_4_code 6 21 [some (vR (some 90)), some (vR (some b)), some (vI s0), some (vI (zw (l3 + 1)))] [] h (yq 1 (yqI K))) : ZW d prog_8_method_4_code 6 44 [some (vR (some 90)), some (vR (some b)), some (vI l2), some (vI l3)] [vI s0] h (yq 1 (yqI K)) := by
  refine y_sto (pc' := 45) (k := 2) (L' := [some (vR (some 90)), some (vR (some b)), some (vI s0), some (vI l3)]) f47_44 rfl rfl rfl rfl rfl rfl ?_
  refine y_inc (pc' := 48) (L' := [some (vR (some 90)), some (vR (some b)), some (vI s0), some (vI (zw (l3 + 1)))]) f47_45 rfl rfl rfl rfl ?_
  refine y_go (pc' := 21) f47_48 rfl ?_
  exact k
/-- HatterTunes$Text.isClause()Z -/
theorem E49 {d : Nat} {K : Int → Hp → Prop} (w : yWF zl nl h) (hd : 1 ≤ d) (k : ((zV h 90 1 ≤ 100) ∧ (((ypeek h) = 102 → yI (d - 1) 51 [vR (some 90), vR (some (6))] h (fun x h' => ZW d prog_8_method_5_code 6 69 [some (vR (some 90))] [vI x] h' (yq 2 (yqI K)))) ∧ ((ypeek h) = 103 → yI (d - 1) 51 [vR (some 90), vR (some (8))] h (fun x h' => ZW d prog_8_method_5_code 6 92 [some (vR (some 90))] [vI x] h' (yq 2 (yqI K)))) ∧ ((ypeek h) = 115 → yI (d - 1) 51 [vR (some 90), vR (some (4))] h (fun x h' => ZW d prog_8_method_5_code 6 46 [some (vR (some 90))] [vI x] h' (yq 2 (yqI K)))) ∧ ((ypeek h) ≠ 102 ∧ (ypeek h) ≠ 103 ∧ (ypeek h) ≠ 115 → K 0 h)))) : yI d 49 [vR (some 90)] h K := by
  refine y_en (L := [some (vR (some 90))]) rfl rfl ?_
  refine y_s (pc' := 1) (L' := [some (vR (some 90))]) (st' := [vR (some 90)]) (h' := h) f49_0 rfl ?_
  refine y_cI (pc' := 4) (as := [vR (some 90)]) (r := []) f49_1 (yzv ym_6_39 rfl (ys90 w) rfl rfl) (by omega) rfl ?_
  have p0 := k.1
  replace k := k.2
  refine sp50 w p0 ?_
  by_cases c : (ypeek h) = 102
  · refine y_ls (pc' := 63) (off := 59) f49_4 rfl (by rw [c]; rfl) rfl ?_
    replace k := k.1 c
    refine y_s (pc' := 64) (L' := [some (vR (some 90))]) (st' := [vR (some 90)]) (h' := h) f49_63 rfl ?_
    refine y_s (pc' := 66) (L' := [some (vR (some 90))]) (st' := [vR (some (6)), vR (some 90)]) (h' := h) f49_64 rfl ?_
    refine y_cI (pc' := 69) (as := [vR (some 90), vR (some (6))]) (r := []) f49_66 (yzv ym_6_45 rfl (ys90 w) rfl rfl) (by omega) rfl ?_
    exact k
  replace k := k.2
  have c0 := c
  by_cases c : (ypeek h) = 103
  · refine y_ls (pc' := 86) (off := 82) f49_4 rfl (by rw [c]; rfl) rfl ?_
    replace k := k.1 c
    refine y_s (pc' := 87) (L' := [some (vR (some 90))]) (st' := [vR (some 90)]) (h' := h) f49_86 rfl ?_
    refine y_s (pc' := 89) (L' := [some (vR (some 90))]) (st' := [vR (some (8)), vR (some 90)]) (h' := h) f49_87 rfl ?_
    refine y_cI (pc' := 92) (as := [vR (some 90), vR (some (8))]) (r := []) f49_89 (yzv ym_6_45 rfl (ys90 w) rfl rfl) (by omega) rfl ?_
    exact k
  replace k := k.2
  have c1 := c
  by_cases c : (ypeek h) = 115
  · refine y_ls (pc' := 40) (off := 36) f49_4 rfl (by rw [c]; rfl) rfl ?_
    replace k := k.1 c
    refine y_s (pc' := 41) (L' := [some (vR (some 90))]) (st' := [vR (some 90)]) (h' := h) f49_40 rfl ?_
    refine y_s (pc' := 43) (L' := [some (vR (some 90))]) (st' := [vR (some (4)), vR (some 90)]) (h' := h) f49_41 rfl ?_
    refine y_cI (pc' := 46) (as := [vR (some 90), vR (some (4))]) (r := []) f49_43 (yzv ym_6_45 rfl (ys90 w) rfl rfl) (by omega) rfl ?_
    exact k
  replace k := k.2
  have c2 := c
  replace k := k ⟨c0, c1, c2⟩
  refine y_ls (pc' := 108) (off := 104) f49_4 rfl (by show Op.lookupswitch.offset [(102, 59), (103, 82), (115, 36)] 104 (ypeek h) = 104; rw [Op.lookupswitch.offset_cons, if_neg (fun q => c0 q.symm), Op.lookupswitch.offset_cons, if_neg (fun q => c1 q.symm), Op.lookupswitch.offset_cons, if_neg (fun q => c2 q.symm)]; rfl) rfl ?_
  refine y_s (pc' := 109) (L' := [some (vR (some 90))]) (st' := [vI 0]) (h' := h) f49_108 rfl ?_
  exact y_ri f49_109 ⟨rfl, k⟩
theorem W49_46 {d : Nat} {K : Int → Hp → Prop} (w : yWF zl nl h) {s0 : Int} (hd : 1 ≤ d) (k : ((s0 = 0 → K 0 h) ∧ (¬ (s0 = 0) → yI (d - 1) 64 [vR (some 90), vI 1] h (fun x h' => ZW d prog_8_method_5_code 6 54 [some (vR (some 90))] [vI x] h' (yq 2 (yqI K)))))) : ZW d prog_8_method_5_code 6 46 [some (vR (some 90))] [vI s0] h (yq 2 (yqI K)) := by
  refine y_if (pcT := 61) (pc' := 49) (P := s0 = 0) f49_46 rfl rfl rfl (fun c => ?_) (fun c => ?_)
  · replace k := k.1 c
    refine y_s (pc' := 62) (L' := [some (vR (some 90))]) (st' := [vI 0]) (h' := h) f49_61 rfl ?_
    exact y_ri f49_62 ⟨rfl, k⟩
  · replace k := k.2 c
    refine y_s (pc' := 50) (L' := [some (vR (some 90))]) (st' := [vR (some 90)]) (h' := h) f49_49 rfl ?_
    refine y_s (pc' := 51) (L' := [some (vR (some 90))]) (st' := [vI 1, vR (some 90)]) (h' := h) f49_50 rfl ?_
    refine y_cI (pc' := 54) (as := [vR (some 90), vI 1]) (r := []) f49_51 (yzv ym_6_49 rfl (ys90 w) rfl rfl) (by omega) rfl ?_
    exact k
theorem W49_54 {d : Nat} {K : Int → Hp → Prop} (w : yWF zl nl h) {s0 : Int} (k : ((s0 = 0 → K 0 h) ∧ (¬ (s0 = 0) → K 1 h))) : ZW d prog_8_method_5_code 6 54 [some (vR (some 90))] [vI s0] h (yq 2 (yqI K)) := by
  refine y_if (pcT := 61) (pc' := 57) (P := s0 = 0) f49_54 rfl rfl rfl (fun c => ?_) (fun c => ?_)
  · replace k := k.1 c
    refine y_s (pc' := 62) (L' := [some (vR (some 90))]) (st' := [vI 0]) (h' := h) f49_61 rfl ?_
    exact y_ri f49_62 ⟨rfl, k⟩
  · replace k := k.2 c
    refine y_s (pc' := 58) (L' := [some (vR (some 90))]) (st' := [vI 1]) (h' := h) f49_57 rfl ?_
    refine y_go (pc' := 62) f49_58 rfl ?_
    exact y_ri f49_62 ⟨rfl, k⟩
theorem W49_69 {d : Nat} {K : Int → Hp → Prop} (w : yWF zl nl h) {s0 : Int} (hd : 1 ≤ d) (k : ((s0 = 0 → K 0 h) ∧ (¬ (s0 = 0) → yI (d - 1) 64 [vR (some 90), vI (-1)] h (fun x h' => ZW d prog_8_method_5_code 6 77 [some (vR (some 90))] [vI x] h' (yq 2 (yqI K)))))) : ZW d prog_8_method_5_code 6 69 [some (vR (some 90))] [vI s0] h (yq 2 (yqI K)) := by
  refine y_if (pcT := 84) (pc' := 72) (P := s0 = 0) f49_69 rfl rfl rfl (fun c => ?_) (fun c => ?_)
  · replace k := k.1 c
    refine y_s (pc' := 85) (L' := [some (vR (some 90))]) (st' := [vI 0]) (h' := h) f49_84 rfl ?_
    exact y_ri f49_85 ⟨rfl, k⟩
  · replace k := k.2 c
    refine y_s (pc' := 73) (L' := [some (vR (some 90))]) (st' := [vR (some 90)]) (h' := h) f49_72 rfl ?_
    refine y_s (pc' := 74) (L' := [some (vR (some 90))]) (st' := [vI (-1), vR (some 90)]) (h' := h) f49_73 rfl ?_
    refine y_cI (pc' := 77) (as := [vR (some 90), vI (-1)]) (r := []) f49_74 (yzv ym_6_49 rfl (ys90 w) rfl rfl) (by omega) rfl ?_
    exact k
theorem W49_77 {d : Nat} {K : Int → Hp → Prop} (w : yWF zl nl h) {s0 : Int} (k : ((s0 = 0 → K 0 h) ∧ (¬ (s0 = 0) → K 1 h))) : ZW d prog_8_method_5_code 6 77 [some (vR (some 90))] [vI s0] h (yq 2 (yqI K)) := by
  refine y_if (pcT := 84) (pc' := 80) (P := s0 = 0) f49_77 rfl rfl rfl (fun c => ?_) (fun c => ?_)
  · replace k := k.1 c
    refine y_s (pc' := 85) (L' := [some (vR (some 90))]) (st' := [vI 0]) (h' := h) f49_84 rfl ?_
    exact y_ri f49_85 ⟨rfl, k⟩
  · replace k := k.2 c
    refine y_s (pc' := 81) (L' := [some (vR (some 90))]) (st' := [vI 1]) (h' := h) f49_80 rfl ?_
    refine y_go (pc' := 85) f49_81 rfl ?_
    exact y_ri f49_85 ⟨rfl, k⟩
theorem W49_92 {d : Nat} {K : Int → Hp → Prop} (w : yWF zl nl h) {s0 : Int} (hd : 1 ≤ d) (k : ((s0 = 0 → K 0 h) ∧ (¬ (s0 = 0) → yI (d - 1) 74 [vR (some 90)] h (fun x h' => ZW d prog_8_method_5_code 6 99 [some (vR (some 90))] [vI x] h' (yq 2 (yqI K)))))) : ZW d prog_8_method_5_code 6 92 [some (vR (some 90))] [vI s0] h (yq 2 (yqI K)) := by
  refine y_if (pcT := 106) (pc' := 95) (P := s0 = 0) f49_92 rfl rfl rfl (fun c => ?_) (fun c => ?_)
  · replace k := k.1 c
    refine y_s (pc' := 107) (L' := [some (vR (some 90))]) (st' := [vI 0]) (h' := h) f49_106 rfl ?_
    exact y_ri f49_107 ⟨rfl, k⟩
  · replace k := k.2 c
    refine y_s (pc' := 96) (L' := [some (vR (some 90))]) (st' := [vR (some 90)]) (h' := h) f49_95 rfl ?_
    refine y_cI (pc' := 99) (as := [vR (some 90)]) (r := []) f49_96 (yzv ym_6_56 rfl (ys90 w) rfl rfl) (by omega) rfl ?_
    exact k
theorem W49_99 {d : Nat} {K : Int → Hp → Prop} (w : yWF zl nl h) {s0 : Int} (k : ((s0 = 0 → K 0 h) ∧ (¬ (s0 = 0) → K 1 h))) : ZW d prog_8_method_5_code 6 99 [some (vR (some 90))] [vI s0] h (yq 2 (yqI K)) := by
  refine y_if (pcT := 106) (pc' := 102) (P := s0 = 0) f49_99 rfl rfl rfl (fun c => ?_) (fun c => ?_)
  · replace k := k.1 c
    refine y_s (pc' := 107) (L' := [some (vR (some 90))]) (st' := [vI 0]) (h' := h) f49_106 rfl ?_
    exact y_ri f49_107 ⟨rfl, k⟩
  · replace k := k.2 c
    refine y_s (pc' := 103) (L' := [some (vR (some 90))]) (st' := [vI 1]) (h' := h) f49_102 rfl ?_
    refine y_go (pc' := 107) f49_103 rfl ?_
    exact y_ri f49_107 ⟨rfl, k⟩
/-- HatterTunes$Text.isWord(Ljava/lang/String;)Z -/
theorem E51 {d : Nat} {K : Int → Hp → Prop} (w : yWF zl nl h) {b nb : Nat} (hb : yStr b nb) (k : ZW d prog_8_method_16_code 6 2 [some (vR (some 90)), some (vR (some b)), some (vI 0)] [] h (yq 2 (yqI K))) : yI d 51 [vR (some 90), vR (some b)] h K := by
  refine y_en (L := [some (vR (some 90)), some (vR (some b)), none]) rfl rfl ?_
  refine y_s (pc' := 1) (L' := [some (vR (some 90)), some (vR (some b)), none]) (st' := [vI 0]) (h' := h) f51_0 rfl ?_
  refine y_sto (pc' := 2) (k := 2) (L' := [some (vR (some 90)), some (vR (some b)), some (vI 0)]) f51_1 rfl rfl rfl rfl rfl rfl ?_
  exact k
theorem W51_2 {d : Nat} {K : Int → Hp → Prop} (w : yWF zl nl h) {b nb : Nat} (hb : yStr b nb) {l2 : Int} (hd : 1 ≤ d) (k : yI (d - 1) 52 [vR (some b)] h (fun x h' => ZW d prog_8_method_16_code 6 7 [some (vR (some 90)), some (vR (some b)), some (vI l2)] [vI x, vI l2] h' (yq 2 (yqI K)))) : ZW d prog_8_method_16_code 6 2 [some (vR (some 90)), some (vR (some b)), some (vI l2)] [] h (yq 2 (yqI K)) := by
  refine y_s (pc' := 3) (L' := [some (vR (some 90)), some (vR (some b)), some (vI l2)]) (st' := [vI l2]) (h' := h) f51_2 rfl ?_
  refine y_s (pc' := 4) (L' := [some (vR (some 90)), some (vR (some b)), some (vI l2)]) (st' := [vR (some b), vI l2]) (h' := h) f51_3 rfl ?_
  refine y_cI (pc' := 7) (as := [vR (some b)]) (r := [vI l2]) f51_4 (yzvs ym_6_94 rfl (ysQ0 w hb) (yQ_32 hb) rfl rfl) (by omega) rfl ?_
  exact k
theorem W51_7 {d : Nat} {K : Int → Hp → Prop} (w : yWF zl nl h) {b nb : Nat} (hb : yStr b nb) {l2 : Int} {s0 : Int} {s1 : Int} (hd : 1 ≤ d) (k : ((s1 ≤ s0 → K 1 h) ∧ (¬ (s1 ≤ s0) → yI (d - 1) 54 [vR (some b), vI l2] h (fun x h' => ZW d prog_8_method_16_code 6 16 [some (vR (some 90)), some (vR (some b)), some (vI l2)] [vI x, vR (some 90)] h' (yq 2 (yqI K)))))) : ZW d prog_8_method_16_code 6 7 [some (vR (some 90)), some (vR (some b)), some (vI l2)] [vI s1, vI s0] h (yq 2 (yqI K)) := by
  refine y_ic (pcT := 30) (pc' := 10) (P := s1 ≤ s0) f51_7 rfl rfl rfl (fun c => ?_) (fun c => ?_)
  · replace k := k.1 c
    refine y_s (pc' := 31) (L' := [some (vR (some 90)), some (vR (some b)), some (vI l2)]) (st' := [vI 1]) (h' := h) f51_30 rfl ?_
    exact y_ri f51_31 ⟨rfl, k⟩
  · replace k := k.2 c
    refine y_s (pc' := 11) (L' := [some (vR (some 90)), some (vR (some b)), some (vI l2)]) (st' := [vR (some 90)]) (h' := h) f51_10 rfl ?_
    refine y_s (pc' := 12) (L' := [some (vR (some 90)), some (vR (some b)), some (vI l2)]) (st' := [vR (some b), vR (some 90)]) (h' := h) f51_11 rfl ?_
    refine y_s (pc' := 13) (L' := [some (vR (some 90)), some (vR (some b)), some (vI l2)]) (st' := [vI l2, vR (some b), vR (some 90)]) (h' := h) f51_12 rfl ?_
    refine y_cI (pc' := 16) (as := [vR (some b), vI l2]) (r := [vR (some 90)]) f51_13 (yzvs ym_6_98 rfl (ysQ0 w hb) (yQ_32 hb) rfl rfl) (by omega) rfl ?_
    exact k
theorem W51_16 {d : Nat} {K : Int → Hp → Prop} (w : yWF zl nl h) {b nb : Nat} (hb : yStr b nb) {l2 : Int} {s1 : Int} (hd : 1 ≤ d) (k : yI (d - 1) 63 [vR (some 90), vI s1] h (fun x h' => ZW d prog_8_method_16_code 6 19 [some (vR (some 90)), some (vR (some b)), some (vI l2)] [vI x] h' (yq 2 (yqI K)))) : ZW d prog_8_method_16_code 6 16 [some (vR (some 90)), some (vR (some b)), some (vI l2)] [vI s1, vR (some 90)] h (yq 2 (yqI K)) := by
  refine y_cI (pc' := 19) (as := [vR (some 90), vI s1]) (r := []) f51_16 (yzv ym_6_35 rfl (ys90 w) rfl rfl) (by omega) rfl ?_
  exact k
theorem W51_19 {d : Nat} {K : Int → Hp → Prop} (w : yWF zl nl h) {b nb : Nat} (hb : yStr b nb) {l2 : Int} {s0 : Int} (k : ((s0 ≠ 0 → ZW d prog_8_method_16_code 6 2 [some (vR (some 90)), some (vR (some b)), some (vI (zw (l2 + 1)))] [] h (yq 2 (yqI K))) ∧ (¬ (s0 ≠ 0) → K 0 h))) : ZW d prog_8_method_16_code 6 19 [some (vR (some 90)), some (vR (some b)), some (vI l2)] [vI s0] h (yq 2 (yqI K)) := by
  refine y_if (pcT := 24) (pc' := 22) (P := s0 ≠ 0) f51_19 rfl rfl rfl (fun c => ?_) (fun c => ?_)
  · replace k := k.1 c
    refine y_inc (pc' := 27) (L' := [some (vR (some 90)), some (vR (some b)), some (vI (zw (l2 + 1)))]) f51_24 rfl rfl rfl rfl ?_
    refine y_go (pc' := 2) f51_27 rfl ?_
    exact k
  · replace k := k.2 c
    refine y_s (pc' := 23) (L' := [some (vR (some 90)), some (vR (some b)), some (vI l2)]) (st' := [vI 0]) (h' := h) f51_22 rfl ?_
    exact y_ri f51_23 ⟨rfl, k⟩
/-- java/lang/String.length()I -/
theorem E52 {d : Nat} {K : Int → Hp → Prop} (w : yWF zl nl h) {a na : Nat} (ha : yStr a na) (hd : 1 ≤ d) (k : yI (d - 1) 53 [vR (some a)] h (fun x h' => ZW d prog_14_method_54_code 10 9 [some (vR (some a))] [vI x, vI (na : Int)] h' (yq 1 (yqI K)))) : yI d 52 [vR (some a)] h K := by
  refine y_en (L := [some (vR (some a))]) rfl rfl ?_
  refine y_s (pc' := 1) (L' := [some (vR (some a))]) (st' := [vR (some a)]) (h' := h) f52_0 rfl ?_
  refine y_gq0 (pc' := 4) f52_1 yf_10_9 (ysQ0 w ha) (ypQ w ha) (yQ_32 ha) rfl ?_
  refine y_alb (pc' := 5) f52_4 (ysQ1 w ha) (yQ1_32 ha) (by have := yQ_n ha; omega) rfl ?_
  refine y_s (pc' := 6) (L' := [some (vR (some a))]) (st' := [vR (some a), vI (na : Int)]) (h' := h) f52_5 rfl ?_
  refine y_cI (pc' := 9) (as := [vR (some a)]) (r := [vI (na : Int)]) f52_6 (yzvs ym_10_335 rfl (ysQ0 w ha) (yQ_32 ha) rfl rfl) (by omega) rfl ?_
  exact k
theorem W52_9 {d : Nat} {K : Int → Hp → Prop} (w : yWF zl nl h) {a na : Nat} (ha : yStr a na) {s0 : Int} {s1 : Int} (k : K (zshr s0 s1) h) : ZW d prog_14_method_54_code 10 9 [some (vR (some a))] [vI s1, vI s0] h (yq 1 (yqI K)) := by
  refine y_s (pc' := 10) (L' := [some (vR (some a))]) (st' := [vI (zshr s0 s1)]) (h' := h) f52_9 rfl ?_
  exact y_ri f52_10 ⟨rfl, k⟩
/-- java/lang/String.coder()B -/
theorem E53 {d : Nat} {K : Int → Hp → Prop} (w : yWF zl nl h) {a na : Nat} (ha : yStr a na) (k : ((zV h a 1) = 0 ∧ K (zV h a 1) h)) : yI d 53 [vR (some a)] h K := by
  refine y_en (L := [some (vR (some a))]) rfl rfl ?_
  refine y_s (pc' := 3) (L' := [some (vR (some a))]) (st' := [vI 1]) (h' := h) f53_0 rfl ?_
  refine y_iff (pcT := 13) (pc' := 6) f53_3 rfl rfl rfl ?_
  refine y_s (pc' := 7) (L' := [some (vR (some a))]) (st' := [vR (some a)]) (h' := h) f53_6 rfl ?_
  refine y_gq1 (pc' := 10) f53_7 yf_10_15 (ysQ0 w ha) (yQ_32 ha) rfl ?_
  refine y_go (pc' := 14) f53_10 rfl ?_
  exact y_ri f53_14 ⟨decide_eq_true k.1, k.2⟩
/-- java/lang/String.charAt(I)C -/
theorem E54 {d : Nat} {K : Int → Hp → Prop} (w : yWF zl nl h) {a na : Nat} (ha : yStr a na) {x0 : Int} (hd : 1 ≤ d) (k : yI (d - 1) 55 [vR (some a)] h (fun x h' => ZW d prog_14_method_56_code 10 4 [some (vR (some a)), some (vI x0)] [vI x] h' (yq 3 (yqI K)))) : yI d 54 [vR (some a), vI x0] h K := by
  refine y_en (L := [some (vR (some a)), some (vI x0)]) rfl rfl ?_
  refine y_s (pc' := 1) (L' := [some (vR (some a)), some (vI x0)]) (st' := [vR (some a)]) (h' := h) f54_0 rfl ?_
  refine y_cI (pc' := 4) (as := [vR (some a)]) (r := []) f54_1 (yzvs ym_10_492 rfl (ysQ0 w ha) (yQ_32 ha) rfl rfl) (by omega) rfl ?_
  exact k
theorem W54_4 {d : Nat} {K : Int → Hp → Prop} (w : yWF zl nl h) {a na : Nat} (ha : yStr a na) {l1 : Int} {s0 : Int} (hd : 1 ≤ d) (k : ((s0 = 0 → yI (d - 1) 59 [vR (some (a + 1)), vI l1] h (fun x h' => ZW d prog_14_method_56_code 10 24 [some (vR (some a)), some (vI l1)] [vI x] h' (yq 3 (yqI K)))) ∧ (¬ (s0 = 0) → yI (d - 1) 56 [vR (some (a + 1)), vI l1] h (fun x h' => ZW d prog_14_method_56_code 10 15 [some (vR (some a)), some (vI l1)] [vI x] h' (yq 3 (yqI K)))))) : ZW d prog_14_method_56_code 10 4 [some (vR (some a)), some (vI l1)] [vI s0] h (yq 3 (yqI K)) := by
  refine y_if (pcT := 16) (pc' := 7) (P := s0 = 0) f54_4 rfl rfl rfl (fun c => ?_) (fun c => ?_)
  · replace k := k.1 c
    refine y_s (pc' := 17) (L' := [some (vR (some a)), some (vI l1)]) (st' := [vR (some a)]) (h' := h) f54_16 rfl ?_
    refine y_gq0 (pc' := 20) f54_17 yf_10_9 (ysQ0 w ha) (ypQ w ha) (yQ_32 ha) rfl ?_
    refine y_s (pc' := 21) (L' := [some (vR (some a)), some (vI l1)]) (st' := [vI l1, vR (some (a + 1))]) (h' := h) f54_20 rfl ?_
    refine y_cI (pc' := 24) (as := [vR (some (a + 1)), vI l1]) (r := []) f54_21 rfl (by omega) rfl ?_
    exact k
  · replace k := k.2 c
    refine y_s (pc' := 8) (L' := [some (vR (some a)), some (vI l1)]) (st' := [vR (some a)]) (h' := h) f54_7 rfl ?_
    refine y_gq0 (pc' := 11) f54_8 yf_10_9 (ysQ0 w ha) (ypQ w ha) (yQ_32 ha) rfl ?_
    refine y_s (pc' := 12) (L' := [some (vR (some a)), some (vI l1)]) (st' := [vI l1, vR (some (a + 1))]) (h' := h) f54_11 rfl ?_
    refine y_cI (pc' := 15) (as := [vR (some (a + 1)), vI l1]) (r := []) f54_12 rfl (by omega) rfl ?_
    exact k
theorem W54_15 {d : Nat} {K : Int → Hp → Prop} (w : yWF zl nl h) {a na : Nat} (ha : yStr a na) {l1 : Int} {s0 : Int} (k : ((0 ≤ s0 ∧ s0 < 65536) ∧ K s0 h)) : ZW d prog_14_method_56_code 10 15 [some (vR (some a)), some (vI l1)] [vI s0] h (yq 3 (yqI K)) := by
  exact y_ri f54_15 ⟨decide_eq_true k.1, k.2⟩
theorem W54_24 {d : Nat} {K : Int → Hp → Prop} (w : yWF zl nl h) {a na : Nat} (ha : yStr a na) {l1 : Int} {s0 : Int} (k : ((0 ≤ s0 ∧ s0 < 65536) ∧ K s0 h)) : ZW d prog_14_method_56_code 10 24 [some (vR (some a)), some (vI l1)] [vI s0] h (yq 3 (yqI K)) := by
  exact y_ri f54_24 ⟨decide_eq_true k.1, k.2⟩
/-- java/lang/String.isLatin1()Z -/
theorem E55 {d : Nat} {K : Int → Hp → Prop} (w : yWF zl nl h) {a na : Nat} (ha : yStr a na) (k : (((zV h a 1) ≠ 0 → K 0 h) ∧ (¬ ((zV h a 1) ≠ 0) → K 1 h))) : yI d 55 [vR (some a)] h K := by
  refine y_en (L := [some (vR (some a))]) rfl rfl ?_
  refine y_s (pc' := 3) (L' := [some (vR (some a))]) (st' := [vI 1]) (h' := h) f55_0 rfl ?_
  refine y_iff (pcT := 17) (pc' := 6) f55_3 rfl rfl rfl ?_
  refine y_s (pc' := 7) (L' := [some (vR (some a))]) (st' := [vR (some a)]) (h' := h) f55_6 rfl ?_
  refine y_gq1 (pc' := 10) f55_7 yf_10_15 (ysQ0 w ha) (yQ_32 ha) rfl ?_
  refine y_if (pcT := 17) (pc' := 13) (P := (zV h a 1) ≠ 0) f55_10 rfl rfl rfl (fun c => ?_) (fun c => ?_)
  · replace k := k.1 c
    refine y_s (pc' := 18) (L' := [some (vR (some a))]) (st' := [vI 0]) (h' := h) f55_17 rfl ?_
    exact y_ri f55_18 ⟨rfl, k⟩
  · replace k := k.2 c
    refine y_s (pc' := 14) (L' := [some (vR (some a))]) (st' := [vI 1]) (h' := h) f55_13 rfl ?_
    refine y_go (pc' := 18) f55_14 rfl ?_
    exact y_ri f55_18 ⟨rfl, k⟩
/-- java/lang/StringLatin1.charAt([BI)C -/
theorem E56 {d : Nat} {K : Int → Hp → Prop} (w : yWF zl nl h) {a na : Nat} (ha : yStr a na) {x1 : Int} (hd : 1 ≤ d) (k : yU (d - 1) 57 [vI x1, vI (na : Int)] h (fun h' => ZW d prog_15_method_2_code 11 6 [some (vR (some (a + 1))), some (vI x1)] [] h' (yq 3 (yqI K)))) : yI d 56 [vR (some (a + 1)), vI x1] h K := by
  refine y_en (L := [some (vR (some (a + 1))), some (vI x1)]) rfl rfl ?_
  refine y_s (pc' := 1) (L' := [some (vR (some (a + 1))), some (vI x1)]) (st' := [vI x1]) (h' := h) f56_0 rfl ?_
  refine y_s (pc' := 2) (L' := [some (vR (some (a + 1))), some (vI x1)]) (st' := [vR (some (a + 1)), vI x1]) (h' := h) f56_1 rfl ?_
  refine y_alb (pc' := 3) f56_2 (ysQ1 w ha) (yQ1_32 ha) (by have := yQ_n ha; omega) rfl ?_
  refine y_cU (pc' := 6) (as := [vI x1, vI (na : Int)]) (r := []) f56_3 rfl (by omega) rfl ?_
  exact k
theorem W56_6 {d : Nat} {K : Int → Hp → Prop} (w : yWF zl nl h) {a na : Nat} (ha : yStr a na) {l1 : Int} (k : ((0 ≤ l1 ∧ l1 < (na : Int)) ∧ ((0 ≤ (zi2c (zand (zV h (a + 1) (l1).toNat) 255)) ∧ (zi2c (zand (zV h (a + 1) (l1).toNat) 255)) < 65536) ∧ K (zi2c (zand (zV h (a + 1) (l1).toNat) 255)) h))) : ZW d prog_15_method_2_code 11 6 [some (vR (some (a + 1))), some (vI l1)] [] h (yq 3 (yqI K)) := by
  refine y_s (pc' := 7) (L' := [some (vR (some (a + 1))), some (vI l1)]) (st' := [vR (some (a + 1))]) (h' := h) f56_6 rfl ?_
  refine y_s (pc' := 8) (L' := [some (vR (some (a + 1))), some (vI l1)]) (st' := [vI l1, vR (some (a + 1))]) (h' := h) f56_7 rfl ?_
  refine y_by (pc' := 9) f56_8 (ysQ1 w ha) (yQ1_32 ha) k.1 rfl ?_
  replace k := k.2
  refine y_s (pc' := 12) (L' := [some (vR (some (a + 1))), some (vI l1)]) (st' := [vI 255, vI (zV h (a + 1) (l1).toNat)]) (h' := h) f56_9 rfl ?_
  refine y_s (pc' := 13) (L' := [some (vR (some (a + 1))), some (vI l1)]) (st' := [vI (zand (zV h (a + 1) (l1).toNat) 255)]) (h' := h) f56_12 rfl ?_
  refine y_s (pc' := 14) (L' := [some (vR (some (a + 1))), some (vI l1)]) (st' := [vI (zi2c (zand (zV h (a + 1) (l1).toNat) 255))]) (h' := h) f56_13 rfl ?_
  exact y_ri f56_14 ⟨decide_eq_true k.1, k.2⟩
/-- java/lang/String.checkIndex(II)V -/
theorem E57 {d : Nat} {K : Hp → Prop} (w : yWF zl nl h) {x0 : Int} {x1 : Int} (hd : 1 ≤ d) (k : yI (d - 1) 58 [vI x0, vI x1, vR (zP h 30 0)] h (fun x h' => ZW d prog_14_method_155_code 10 8 [some (vI x0), some (vI x1)] [vI x] h' (yq 0 (yqU K)))) : yU d 57 [vI x0, vI x1] h K := by
  refine y_en (L := [some (vI x0), some (vI x1)]) rfl rfl ?_
  refine y_s (pc' := 1) (L' := [some (vI x0), some (vI x1)]) (st' := [vI x0]) (h' := h) f57_0 rfl ?_
  refine y_s (pc' := 2) (L' := [some (vI x0), some (vI x1)]) (st' := [vI x1, vI x0]) (h' := h) f57_1 rfl ?_
  refine y_s (pc' := 5) (L' := [some (vI x0), some (vI x1)]) (st' := [vR (zP h 30 0), vI x1, vI x0]) (h' := h) f57_2 rfl ?_
  refine y_cI (pc' := 8) (as := [vI x0, vI x1, vR (zP h 30 0)]) (r := []) f57_5 rfl (by omega) rfl ?_
  exact k
theorem W57_8 {d : Nat} {K : Hp → Prop} (w : yWF zl nl h) {l0 : Int} {l1 : Int} {s0 : Int} (k : K h) : ZW d prog_14_method_155_code 10 8 [some (vI l0), some (vI l1)] [vI s0] h (yq 0 (yqU K)) := by
  refine y_s (pc' := 9) (L' := [some (vI l0), some (vI l1)]) (st' := []) (h' := h) f57_8 rfl ?_
  exact y_ru f57_9 ⟨rfl, k⟩
/-- jdk/internal/util/Preconditions.checkIndex(IILjava/util/function/BiFunction;)I -/
theorem E58 {d : Nat} {K : Int → Hp → Prop} (w : yWF zl nl h) {x0 : Int} {x1 : Int} {x2 : Option Nat} (k : ((x0 < 0 → False) ∧ (¬ (x0 < 0) → ((x0 < x1 → K x0 h) ∧ (¬ (x0 < x1) → False))))) : yI d 58 [vI x0, vI x1, vR x2] h K := by
  refine y_en (L := [some (vI x0), some (vI x1), some (vR x2)]) rfl rfl ?_
  refine y_s (pc' := 1) (L' := [some (vI x0), some (vI x1), some (vR x2)]) (st' := [vI x0]) (h' := h) f58_0 rfl ?_
  refine y_if (pcT := 9) (pc' := 4) (P := x0 < 0) f58_1 rfl rfl rfl (fun c => ?_) (fun c => ?_)
  · replace k := k.1 c
    exact k.elim
  · replace k := k.2 c
    refine y_s (pc' := 5) (L' := [some (vI x0), some (vI x1), some (vR x2)]) (st' := [vI x0]) (h' := h) f58_4 rfl ?_
    refine y_s (pc' := 6) (L' := [some (vI x0), some (vI x1), some (vR x2)]) (st' := [vI x1, vI x0]) (h' := h) f58_5 rfl ?_
    refine y_ic (pcT := 16) (pc' := 9) (P := x0 < x1) f58_6 rfl rfl rfl (fun c => ?_) (fun c => ?_)
    · replace k := k.1 c
      refine y_s (pc' := 17) (L' := [some (vI x0), some (vI x1), some (vR x2)]) (st' := [vI x0]) (h' := h) f58_16 rfl ?_
      exact y_ri f58_17 ⟨rfl, k⟩
    · replace k := k.2 c
      exact k.elim
/-- HatterTunes.told(I)I -/
theorem E75 {d : Nat} {K : Int → Hp → Prop} (w : yWF zl nl h) {x0 : Int} (hd : 1 ≤ d) (k : ((x0 = 0 → K (zV h 33 11) h) ∧ (x0 = 1 → (∀ s, zP h 33 12 = some s → ySh s → K (zV h s 4) h)) ∧ (x0 = 2 → yI (d - 1) 76 [vR (some 33)] h (fun x h' => ZW d prog_1_method_14_code 7 58 [some (vR (some 32)), some (vI x0)] [vI x] h' (yq 1 (yqI K)))) ∧ (x0 = 3 → yI (d - 1) 77 [vR (some 33)] h (fun x h' => ZW d prog_1_method_14_code 7 66 [some (vR (some 32)), some (vI x0)] [vI x] h' (yq 1 (yqI K)))) ∧ (x0 < 0 ∨ 3 < x0 → ((((0 : Int) ≤ (zw (x0 - 10)) ∧ (zw (x0 - 10)) < (zV h 40 1)) → (((0 : Int) ≤ (zw (x0 - 10)) ∧ (0 : Int) ≤ 0 ∧ 4 * (zw (x0 - 10)) + 0 < (32 : Int)) ∧ K (zV h (40 + 1) (4 * (zw (x0 - 10)) + 0).toNat) h)) ∧ (¬ (((0 : Int) ≤ (zw (x0 - 10)) ∧ (zw (x0 - 10)) < (zV h 40 1))) → K (-1) h))))) : yI d 75 [vR (some 32), vI x0] h K := by
  refine y_en (L := [some (vR (some 32)), some (vI x0)]) rfl rfl ?_
  refine y_s (pc' := 1) (L' := [some (vR (some 32)), some (vI x0)]) (st' := [vI x0]) (h' := h) f75_0 rfl ?_
  by_cases c : x0 = 0
  · refine y_tc (pc' := 32) (v := 0) f75_1 c rfl rfl rfl ?_
    replace k := k.1 c
    refine y_s (pc' := 33) (L' := [some (vR (some 32)), some (vI x0)]) (st' := [vR (some 32)]) (h' := h) f75_32 rfl ?_
    refine y_gr (pc' := 36) f75_33 yf_7_14 rfl rfl (ys32 w) (yp32_0 w) rfl ?_
    refine y_gi (pc' := 39) f75_36 yf_7_166 rfl rfl (ys33 w) rfl ?_
    exact y_ri f75_39 ⟨rfl, k⟩
  replace k := k.2
  have c0 := c
  by_cases c : x0 = 1
  · refine y_tc (pc' := 40) (v := 1) f75_1 c rfl rfl rfl ?_
    replace k := k.1 c
    refine y_s (pc' := 41) (L' := [some (vR (some 32)), some (vI x0)]) (st' := [vR (some 32)]) (h' := h) f75_40 rfl ?_
    refine y_gr (pc' := 44) f75_41 yf_7_14 rfl rfl (ys32 w) (yp32_0 w) rfl ?_
    obtain ⟨s, es, hs⟩ := ypH12 (a := 33) w (Or.inl rfl)
    replace k := k s es hs
    refine y_gr (pc' := 47) f75_44 yf_7_162 rfl rfl (ys33 w) es rfl ?_
    refine y_gi (pc' := 50) f75_47 yf_7_169 rfl rfl (ysS0 w hs) rfl ?_
    exact y_ri f75_50 ⟨rfl, k⟩
  replace k := k.2
  have c1 := c
  by_cases c : x0 = 2
  · refine y_tc (pc' := 51) (v := 2) f75_1 c rfl rfl rfl ?_
    replace k := k.1 c
    refine y_s (pc' := 52) (L' := [some (vR (some 32)), some (vI x0)]) (st' := [vR (some 32)]) (h' := h) f75_51 rfl ?_
    refine y_gr (pc' := 55) f75_52 yf_7_14 rfl rfl (ys32 w) (yp32_0 w) rfl ?_
    refine y_cI (pc' := 58) (as := [vR (some 33)]) (r := []) f75_55 (yzv ym_7_172 rfl (ys33 w) rfl rfl) (by omega) rfl ?_
    exact k
  replace k := k.2
  have c2 := c
  by_cases c : x0 = 3
  · refine y_tc (pc' := 59) (v := 3) f75_1 c rfl rfl rfl ?_
    replace k := k.1 c
    refine y_s (pc' := 60) (L' := [some (vR (some 32)), some (vI x0)]) (st' := [vR (some 32)]) (h' := h) f75_59 rfl ?_
    refine y_gr (pc' := 63) f75_60 yf_7_14 rfl rfl (ys32 w) (yp32_0 w) rfl ?_
    refine y_cI (pc' := 66) (as := [vR (some 33)]) (r := []) f75_63 (yzv ym_7_175 rfl (ys33 w) rfl rfl) (by omega) rfl ?_
    exact k
  replace k := k.2
  have c3 := c
  have cc : x0 < 0 ∨ 3 < x0 := by omega
  refine y_td (pc' := 67) f75_1 cc rfl ?_
  replace k := k cc
  refine y_s (pc' := 68) (L' := [some (vR (some 32)), some (vI x0)]) (st' := [vI x0]) (h' := h) f75_67 rfl ?_
  refine y_s (pc' := 70) (L' := [some (vR (some 32)), some (vI x0)]) (st' := [vI 10, vI x0]) (h' := h) f75_68 rfl ?_
  refine y_s (pc' := 71) (L' := [some (vR (some 32)), some (vI x0)]) (st' := [vI (zw (x0 - 10))]) (h' := h) f75_70 rfl ?_
  refine y_s (pc' := 72) (L' := [some (vR (some 32)), some (vI x0)]) (st' := [vR (some 32), vI (zw (x0 - 10))]) (h' := h) f75_71 rfl ?_
  refine y_gr (pc' := 75) f75_72 yf_7_14 rfl rfl (ys32 w) (yp32_0 w) rfl ?_
  refine y_gr (pc' := 78) f75_75 yf_7_131 rfl rfl (ys33 w) (yp33_6 w) rfl ?_
  refine y_gi (pc' := 81) f75_78 yf_7_178 rfl rfl (ys40 w) rfl ?_
  refine y_cI (pc' := 84) (as := [vI (zw (x0 - 10)), vI (zV h 40 1)]) (r := []) f75_81 rfl (by omega) rfl ?_
  refine sp10 w (fun c => ?_) (fun c => ?_)
  · replace k := k.1 c
    refine y_iff (pcT := 105) (pc' := 87) f75_84 rfl rfl rfl ?_
    refine y_s (pc' := 88) (L' := [some (vR (some 32)), some (vI x0)]) (st' := [vR (some 32)]) (h' := h) f75_87 rfl ?_
    refine y_gr (pc' := 91) f75_88 yf_7_14 rfl rfl (ys32 w) (yp32_0 w) rfl ?_
    refine y_gr (pc' := 94) f75_91 yf_7_131 rfl rfl (ys33 w) (yp33_6 w) rfl ?_
    refine y_s (pc' := 95) (L' := [some (vR (some 32)), some (vI x0)]) (st' := [vI x0, vR (some 40)]) (h' := h) f75_94 rfl ?_
    refine y_s (pc' := 97) (L' := [some (vR (some 32)), some (vI x0)]) (st' := [vI 10, vI x0, vR (some 40)]) (h' := h) f75_95 rfl ?_
    refine y_s (pc' := 98) (L' := [some (vR (some 32)), some (vI x0)]) (st' := [vI (zw (x0 - 10)), vR (some 40)]) (h' := h) f75_97 rfl ?_
    refine y_s (pc' := 99) (L' := [some (vR (some 32)), some (vI x0)]) (st' := [vI 0, vI (zw (x0 - 10)), vR (some 40)]) (h' := h) f75_98 rfl ?_
    refine y_cI (pc' := 102) (as := [vR (some 40), vI (zw (x0 - 10)), vI 0]) (r := []) f75_99 (yzv ym_7_179 rfl (ys40 w) rfl rfl) (by omega) rfl ?_
    have p0 := k.1
    replace k := k.2
    refine sp26 w (yR7 (a := 33) (Or.inl rfl)) p0 ?_
    refine y_go (pc' := 106) f75_102 rfl ?_
    exact y_ri f75_106 ⟨rfl, k⟩
  · replace k := k.2 c
    refine y_ift (pcT := 105) f75_84 rfl rfl ?_
    refine y_s (pc' := 106) (L' := [some (vR (some 32)), some (vI x0)]) (st' := [vI (-1)]) (h' := h) f75_105 rfl ?_
    exact y_ri f75_106 ⟨rfl, k⟩
theorem W75_58 {d : Nat} {K : Int → Hp → Prop} (w : yWF zl nl h) {l1 : Int} {s0 : Int} (k : K s0 h) : ZW d prog_1_method_14_code 7 58 [some (vR (some 32)), some (vI l1)] [vI s0] h (yq 1 (yqI K)) := by
  exact y_ri f75_58 ⟨rfl, k⟩
theorem W75_66 {d : Nat} {K : Int → Hp → Prop} (w : yWF zl nl h) {l1 : Int} {s0 : Int} (k : K s0 h) : ZW d prog_1_method_14_code 7 66 [some (vR (some 32)), some (vI l1)] [vI s0] h (yq 1 (yqI K)) := by
  exact y_ri f75_66 ⟨rfl, k⟩
/-- HatterTunes$House.heardBits()I -/
theorem E76 {d : Nat} {K : Int → Hp → Prop} (w : yWF zl nl h) {a : Nat} (ha : yHs a) (k : ZW d prog_4_method_17_code 2 4 [some (vR (some a)), some (vI 0), some (vI 0)] [] h (yq 1 (yqI K))) : yI d 76 [vR (some a)] h K := by
  refine y_en (L := [some (vR (some a)), none, none]) rfl rfl ?_
  refine y_s (pc' := 1) (L' := [some (vR (some a)), none, none]) (st' := [vI 0]) (h' := h) f76_0 rfl ?_
  refine y_sto (pc' := 2) (k := 1) (L' := [some (vR (some a)), some (vI 0), none]) f76_1 rfl rfl rfl rfl rfl rfl ?_
  refine y_s (pc' := 3) (L' := [some (vR (some a)), some (vI 0), none]) (st' := [vI 0]) (h' := h) f76_2 rfl ?_
  refine y_sto (pc' := 4) (k := 2) (L' := [some (vR (some a)), some (vI 0), some (vI 0)]) f76_3 rfl rfl rfl rfl rfl rfl ?_
  exact k
theorem W76_4 {d : Nat} {K : Int → Hp → Prop} (w : yWF zl nl h) {a : Nat} (ha : yHs a) {l1 : Int} {l2 : Int} (hd : 1 ≤ d) (k : (((zV h a 10) ≤ l2 → K l1 h) ∧ (¬ ((zV h a 10) ≤ l2) → yI (d - 1) 24 [vR (some a), vI l2] h (fun x h' => ZW d prog_4_method_17_code 2 17 [some (vR (some a)), some (vI l1), some (vI l2)] [vI x] h' (yq 1 (yqI K)))))) : ZW d prog_4_method_17_code 2 4 [some (vR (some a)), some (vI l1), some (vI l2)] [] h (yq 1 (yqI K)) := by
  refine y_s (pc' := 5) (L' := [some (vR (some a)), some (vI l1), some (vI l2)]) (st' := [vI l2]) (h' := h) f76_4 rfl ?_
  refine y_s (pc' := 6) (L' := [some (vR (some a)), some (vI l1), some (vI l2)]) (st' := [vR (some a), vI l2]) (h' := h) f76_5 rfl ?_
  refine y_gi (pc' := 9) f76_6 yf_2_65 rfl rfl (ysH0 w ha) rfl ?_
  refine y_ic (pcT := 34) (pc' := 12) (P := (zV h a 10) ≤ l2) f76_9 rfl rfl rfl (fun c => ?_) (fun c => ?_)
  · replace k := k.1 c
    refine y_s (pc' := 35) (L' := [some (vR (some a)), some (vI l1), some (vI l2)]) (st' := [vI l1]) (h' := h) f76_34 rfl ?_
    exact y_ri f76_35 ⟨rfl, k⟩
  · replace k := k.2 c
    refine y_s (pc' := 13) (L' := [some (vR (some a)), some (vI l1), some (vI l2)]) (st' := [vR (some a)]) (h' := h) f76_12 rfl ?_
    refine y_s (pc' := 14) (L' := [some (vR (some a)), some (vI l1), some (vI l2)]) (st' := [vI l2, vR (some a)]) (h' := h) f76_13 rfl ?_
    refine y_cI (pc' := 17) (as := [vR (some a), vI l2]) (r := []) f76_14 (yzv ym_2_129 rfl (ysH0 w ha) rfl rfl) (by omega) rfl ?_
    exact k
theorem W76_17 {d : Nat} {K : Int → Hp → Prop} (w : yWF zl nl h) {a : Nat} (ha : yHs a) {l1 : Int} {l2 : Int} {s0 : Int} (k : ((s0 = (-5) → ZW d prog_4_method_17_code 2 4 [some (vR (some a)), some (vI l1), some (vI (zw (l2 + 1)))] [] h (yq 1 (yqI K))) ∧ (¬ (s0 = (-5)) → ZW d prog_4_method_17_code 2 4 [some (vR (some a)), some (vI (zor l1 (zshl 1 l2))), some (vI (zw (l2 + 1)))] [] h (yq 1 (yqI K))))) : ZW d prog_4_method_17_code 2 17 [some (vR (some a)), some (vI l1), some (vI l2)] [vI s0] h (yq 1 (yqI K)) := by
  refine y_s (pc' := 19) (L' := [some (vR (some a)), some (vI l1), some (vI l2)]) (st' := [vI (-5), vI s0]) (h' := h) f76_17 rfl ?_
  refine y_ic (pcT := 28) (pc' := 22) (P := s0 = (-5)) f76_19 rfl rfl rfl (fun c => ?_) (fun c => ?_)
  · replace k := k.1 c
    refine y_inc (pc' := 31) (L' := [some (vR (some a)), some (vI l1), some (vI (zw (l2 + 1)))]) f76_28 rfl rfl rfl rfl ?_
    refine y_go (pc' := 4) f76_31 rfl ?_
    exact k
  · replace k := k.2 c
    refine y_s (pc' := 23) (L' := [some (vR (some a)), some (vI l1), some (vI l2)]) (st' := [vI l1]) (h' := h) f76_22 rfl ?_
    refine y_s (pc' := 24) (L' := [some (vR (some a)), some (vI l1), some (vI l2)]) (st' := [vI 1, vI l1]) (h' := h) f76_23 rfl ?_
    refine y_s (pc' := 25) (L' := [some (vR (some a)), some (vI l1), some (vI l2)]) (st' := [vI l2, vI 1, vI l1]) (h' := h) f76_24 rfl ?_
    refine y_s (pc' := 26) (L' := [some (vR (some a)), some (vI l1), some (vI l2)]) (st' := [vI (zshl 1 l2), vI l1]) (h' := h) f76_25 rfl ?_
    refine y_s (pc' := 27) (L' := [some (vR (some a)), some (vI l1), some (vI l2)]) (st' := [vI (zor l1 (zshl 1 l2))]) (h' := h) f76_26 rfl ?_
    refine y_sto (pc' := 28) (k := 1) (L' := [some (vR (some a)), some (vI (zor l1 (zshl 1 l2))), some (vI l2)]) f76_27 rfl rfl rfl rfl rfl rfl ?_
    refine y_inc (pc' := 31) (L' := [some (vR (some a)), some (vI (zor l1 (zshl 1 l2))), some (vI (zw (l2 + 1)))]) f76_28 rfl rfl rfl rfl ?_
    refine y_go (pc' := 4) f76_31 rfl ?_
    exact k
/-- HatterTunes.pass(I)I -/
theorem E78 {d : Nat} {K : Int → Hp → Prop} (w : yWF zl nl h) {x0 : Int} (hd : 1 ≤ d) (k : ((((0 : Int) ≤ x0 ∧ x0 < 61) → (((zw ((zV h 33 11) + x0)) ≤ 9999 → yU (d - 1) 79 [vR (some 33), vI x0] h (fun h' => ZW d prog_1_method_15_code 7 38 [some (vR (some 32)), some (vI x0)] [] h' (yq 1 (yqI K)))) ∧ (¬ ((zw ((zV h 33 11) + x0)) ≤ 9999) → K (-3) h))) ∧ (¬ (((0 : Int) ≤ x0 ∧ x0 < 61)) → K (-2) h))) : yI d 78 [vR (some 32), vI x0] h K := by
  refine y_en (L := [some (vR (some 32)), some (vI x0)]) rfl rfl ?_
  refine y_s (pc' := 1) (L' := [some (vR (some 32)), some (vI x0)]) (st' := [vI x0]) (h' := h) f78_0 rfl ?_
  refine y_s (pc' := 3) (L' := [some (vR (some 32)), some (vI x0)]) (st' := [vI 61, vI x0]) (h' := h) f78_1 rfl ?_
  refine y_cI (pc' := 6) (as := [vI x0, vI 61]) (r := []) f78_3 rfl (by omega) rfl ?_
  refine sp10 w (fun c => ?_) (fun c => ?_)
  · replace k := k.1 c
    refine y_ift (pcT := 12) f78_6 rfl rfl ?_
    refine y_s (pc' := 13) (L' := [some (vR (some 32)), some (vI x0)]) (st' := [vR (some 32)]) (h' := h) f78_12 rfl ?_
    refine y_gr (pc' := 16) f78_13 yf_7_14 rfl rfl (ys32 w) (yp32_0 w) rfl ?_
    refine y_gi (pc' := 19) f78_16 yf_7_166 rfl rfl (ys33 w) rfl ?_
    refine y_s (pc' := 20) (L' := [some (vR (some 32)), some (vI x0)]) (st' := [vI x0, vI (zV h 33 11)]) (h' := h) f78_19 rfl ?_
    refine y_s (pc' := 21) (L' := [some (vR (some 32)), some (vI x0)]) (st' := [vI (zw ((zV h 33 11) + x0))]) (h' := h) f78_20 rfl ?_
    refine y_s (pc' := 24) (L' := [some (vR (some 32)), some (vI x0)]) (st' := [vI 9999, vI (zw ((zV h 33 11) + x0))]) (h' := h) f78_21 rfl ?_
    refine y_ic (pcT := 30) (pc' := 27) (P := (zw ((zV h 33 11) + x0)) ≤ 9999) f78_24 rfl rfl rfl (fun c => ?_) (fun c => ?_)
    · replace k := k.1 c
      refine y_s (pc' := 31) (L' := [some (vR (some 32)), some (vI x0)]) (st' := [vR (some 32)]) (h' := h) f78_30 rfl ?_
      refine y_gr (pc' := 34) f78_31 yf_7_14 rfl rfl (ys32 w) (yp32_0 w) rfl ?_
      refine y_s (pc' := 35) (L' := [some (vR (some 32)), some (vI x0)]) (st' := [vI x0, vR (some 33)]) (h' := h) f78_34 rfl ?_
      refine y_cU (pc' := 38) (as := [vR (some 33), vI x0]) (r := []) f78_35 (yzv ym_7_182 rfl (ys33 w) rfl rfl) (by omega) rfl ?_
      exact k
    · replace k := k.2 c
      refine y_s (pc' := 29) (L' := [some (vR (some 32)), some (vI x0)]) (st' := [vI (-3)]) (h' := h) f78_27 rfl ?_
      exact y_ri f78_29 ⟨rfl, k⟩
  · replace k := k.2 c
    refine y_iff (pcT := 12) (pc' := 9) f78_6 rfl rfl rfl ?_
    refine y_s (pc' := 11) (L' := [some (vR (some 32)), some (vI x0)]) (st' := [vI (-2)]) (h' := h) f78_9 rfl ?_
    exact y_ri f78_11 ⟨rfl, k⟩
theorem W78_38 {d : Nat} {K : Int → Hp → Prop} (w : yWF zl nl h) {l1 : Int} (k : K (zV h 33 11) h) : ZW d prog_1_method_15_code 7 38 [some (vR (some 32)), some (vI l1)] [] h (yq 1 (yqI K)) := by
  refine y_s (pc' := 39) (L' := [some (vR (some 32)), some (vI l1)]) (st' := [vR (some 32)]) (h' := h) f78_38 rfl ?_
  refine y_gr (pc' := 42) f78_39 yf_7_14 rfl rfl (ys32 w) (yp32_0 w) rfl ?_
  refine y_gi (pc' := 45) f78_42 yf_7_166 rfl rfl (ys33 w) rfl ?_
  exact y_ri f78_45 ⟨rfl, k⟩
/-- HatterTunes.on(III)I -/
theorem E80 {d : Nat} {K : Int → Hp → Prop} (w : yWF zl nl h) {x0 : Int} {x1 : Int} {x2 : Int} (hd : 2 ≤ d) (k : ((((0 : Int) ≤ (zw (x2 - 10)) ∧ (zw (x2 - 10)) < 6) → ((((0 : Int) ≤ x1 ∧ x1 < zV h 33 10) → ((((0 : Int) ≤ x2 ∧ x2 < 6) → ((((0 : Int) ≤ x0 ∧ x0 < 61) → yU (d - 1) 28 [vR (some 52), vR (some 33)] h (fun h' => ZW d prog_1_method_16_code 7 64 [some (vR (some 32)), some (vI x0), some (vI x1), some (vI x2), some (vI 1)] [] h' (yq 1 (yqI K)))) ∧ (¬ (((0 : Int) ≤ x0 ∧ x0 < 61)) → K (-2) h))) ∧ (¬ (((0 : Int) ≤ x2 ∧ x2 < 6)) → ((((0 : Int) ≤ x0 ∧ x0 < 61) → yU (d - 1) 28 [vR (some 52), vR (some 33)] h (fun h' => ZW d prog_1_method_16_code 7 64 [some (vR (some 32)), some (vI x0), some (vI x1), some (vI x2), some (vI 1)] [] h' (yq 1 (yqI K)))) ∧ (¬ (((0 : Int) ≤ x0 ∧ x0 < 61)) → K (-2) h))))) ∧ (¬ (((0 : Int) ≤ x1 ∧ x1 < zV h 33 10)) → K (-1) h))) ∧ (¬ (((0 : Int) ≤ (zw (x2 - 10)) ∧ (zw (x2 - 10)) < 6)) → ((((0 : Int) ≤ x1 ∧ x1 < zV h 33 10) → ((((0 : Int) ≤ x2 ∧ x2 < 6) → ((((0 : Int) ≤ x0 ∧ x0 < 61) → yU (d - 1) 28 [vR (some 52), vR (some 33)] h (fun h' => ZW d prog_1_method_16_code 7 64 [some (vR (some 32)), some (vI x0), some (vI x1), some (vI x2), some (vI 0)] [] h' (yq 1 (yqI K)))) ∧ (¬ (((0 : Int) ≤ x0 ∧ x0 < 61)) → K (-2) h))) ∧ (¬ (((0 : Int) ≤ x2 ∧ x2 < 6)) → ((x2 = 20 → ((((0 : Int) ≤ x0 ∧ x0 < 61) → yU (d - 1) 28 [vR (some 52), vR (some 33)] h (fun h' => ZW d prog_1_method_16_code 7 64 [some (vR (some 32)), some (vI x0), some (vI x1), some (vI x2), some (vI 0)] [] h' (yq 1 (yqI K)))) ∧ (¬ (((0 : Int) ≤ x0 ∧ x0 < 61)) → K (-2) h))) ∧ (¬ (x2 = 20) → K (-1) h))))) ∧ (¬ (((0 : Int) ≤ x1 ∧ x1 < zV h 33 10)) → K (-1) h))))) : yI d 80 [vR (some 32), vI x0, vI x1, vI x2] h K := by
  refine y_en (L := [some (vR (some 32)), some (vI x0), some (vI x1), some (vI x2), none]) rfl rfl ?_
  refine y_s (pc' := 1) (L' := [some (vR (some 32)), some (vI x0), some (vI x1), some (vI x2), none]) (st' := [vI x2]) (h' := h) f80_0 rfl ?_
  refine y_s (pc' := 3) (L' := [some (vR (some 32)), some (vI x0), some (vI x1), some (vI x2), none]) (st' := [vI 10, vI x2]) (h' := h) f80_1 rfl ?_
  refine y_s (pc' := 4) (L' := [some (vR (some 32)), some (vI x0), some (vI x1), some (vI x2), none]) (st' := [vI (zw (x2 - 10))]) (h' := h) f80_3 rfl ?_
  refine y_s (pc' := 6) (L' := [some (vR (some 32)), some (vI x0), some (vI x1), some (vI x2), none]) (st' := [vI 6, vI (zw (x2 - 10))]) (h' := h) f80_4 rfl ?_
  refine y_cI (pc' := 9) (as := [vI (zw (x2 - 10)), vI 6]) (r := []) f80_6 rfl (by omega) rfl ?_
  refine sp10 w (fun c => ?_) (fun c => ?_)
  · replace k := k.1 c
    refine y_sto (pc' := 11) (k := 4) (L' := [some (vR (some 32)), some (vI x0), some (vI x1), some (vI x2), some (vI 1)]) f80_9 rfl rfl rfl rfl rfl rfl ?_
    refine y_s (pc' := 12) (L' := [some (vR (some 32)), some (vI x0), some (vI x1), some (vI x2), some (vI 1)]) (st' := [vR (some 32)]) (h' := h) f80_11 rfl ?_
    refine y_s (pc' := 13) (L' := [some (vR (some 32)), some (vI x0), some (vI x1), some (vI x2), some (vI 1)]) (st' := [vI x1, vR (some 32)]) (h' := h) f80_12 rfl ?_
    refine y_cI (pc' := 16) (as := [vR (some 32), vI x1]) (r := []) f80_13 (yzv ym_7_71 rfl (ys32 w) rfl rfl) (by omega) rfl ?_
    refine sp15 w (by omega) (fun c => ?_) (fun c => ?_)
    · replace k := k.1 c
      refine y_iff (pcT := 39) (pc' := 19) f80_16 rfl rfl rfl ?_
      refine y_s (pc' := 20) (L' := [some (vR (some 32)), some (vI x0), some (vI x1), some (vI x2), some (vI 1)]) (st' := [vI x2]) (h' := h) f80_19 rfl ?_
      refine y_s (pc' := 22) (L' := [some (vR (some 32)), some (vI x0), some (vI x1), some (vI x2), some (vI 1)]) (st' := [vI 6, vI x2]) (h' := h) f80_20 rfl ?_
      refine y_cI (pc' := 25) (as := [vI x2, vI 6]) (r := []) f80_22 rfl (by omega) rfl ?_
      refine sp10 w (fun c => ?_) (fun c => ?_)
      · replace k := k.1 c
        refine y_ift (pcT := 41) f80_25 rfl rfl ?_
        refine y_s (pc' := 42) (L' := [some (vR (some 32)), some (vI x0), some (vI x1), some (vI x2), some (vI 1)]) (st' := [vI x0]) (h' := h) f80_41 rfl ?_
        refine y_s (pc' := 44) (L' := [some (vR (some 32)), some (vI x0), some (vI x1), some (vI x2), some (vI 1)]) (st' := [vI 61, vI x0]) (h' := h) f80_42 rfl ?_
        refine y_cI (pc' := 47) (as := [vI x0, vI 61]) (r := []) f80_44 rfl (by omega) rfl ?_
        refine sp10 w (fun c => ?_) (fun c => ?_)
        · replace k := k.1 c
          refine y_ift (pcT := 53) f80_47 rfl rfl ?_
          refine y_s (pc' := 54) (L' := [some (vR (some 32)), some (vI x0), some (vI x1), some (vI x2), some (vI 1)]) (st' := [vR (some 32)]) (h' := h) f80_53 rfl ?_
          refine y_gr (pc' := 57) f80_54 yf_7_18 rfl rfl (ys32 w) (yp32_1 w) rfl ?_
          refine y_s (pc' := 58) (L' := [some (vR (some 32)), some (vI x0), some (vI x1), some (vI x2), some (vI 1)]) (st' := [vR (some 32), vR (some 52)]) (h' := h) f80_57 rfl ?_
          refine y_gr (pc' := 61) f80_58 yf_7_14 rfl rfl (ys32 w) (yp32_0 w) rfl ?_
          refine y_cU (pc' := 64) (as := [vR (some 52), vR (some 33)]) (r := []) f80_61 (yzv ym_7_114 rfl (ys52 w) rfl rfl) (by omega) rfl ?_
          exact k
        · replace k := k.2 c
          refine y_iff (pcT := 53) (pc' := 50) f80_47 rfl rfl rfl ?_
          refine y_s (pc' := 52) (L' := [some (vR (some 32)), some (vI x0), some (vI x1), some (vI x2), some (vI 1)]) (st' := [vI (-2)]) (h' := h) f80_50 rfl ?_
          exact y_ri f80_52 ⟨rfl, k⟩
      · replace k := k.2 c
        refine y_iff (pcT := 41) (pc' := 28) f80_25 rfl rfl rfl ?_
        refine y_s (pc' := 30) (L' := [some (vR (some 32)), some (vI x0), some (vI x1), some (vI x2), some (vI 1)]) (st' := [vI 1]) (h' := h) f80_28 rfl ?_
        refine y_ift (pcT := 41) f80_30 rfl rfl ?_
        refine y_s (pc' := 42) (L' := [some (vR (some 32)), some (vI x0), some (vI x1), some (vI x2), some (vI 1)]) (st' := [vI x0]) (h' := h) f80_41 rfl ?_
        refine y_s (pc' := 44) (L' := [some (vR (some 32)), some (vI x0), some (vI x1), some (vI x2), some (vI 1)]) (st' := [vI 61, vI x0]) (h' := h) f80_42 rfl ?_
        refine y_cI (pc' := 47) (as := [vI x0, vI 61]) (r := []) f80_44 rfl (by omega) rfl ?_
        refine sp10 w (fun c => ?_) (fun c => ?_)
        · replace k := k.1 c
          refine y_ift (pcT := 53) f80_47 rfl rfl ?_
          refine y_s (pc' := 54) (L' := [some (vR (some 32)), some (vI x0), some (vI x1), some (vI x2), some (vI 1)]) (st' := [vR (some 32)]) (h' := h) f80_53 rfl ?_
          refine y_gr (pc' := 57) f80_54 yf_7_18 rfl rfl (ys32 w) (yp32_1 w) rfl ?_
          refine y_s (pc' := 58) (L' := [some (vR (some 32)), some (vI x0), some (vI x1), some (vI x2), some (vI 1)]) (st' := [vR (some 32), vR (some 52)]) (h' := h) f80_57 rfl ?_
          refine y_gr (pc' := 61) f80_58 yf_7_14 rfl rfl (ys32 w) (yp32_0 w) rfl ?_
          refine y_cU (pc' := 64) (as := [vR (some 52), vR (some 33)]) (r := []) f80_61 (yzv ym_7_114 rfl (ys52 w) rfl rfl) (by omega) rfl ?_
          exact k
        · replace k := k.2 c
          refine y_iff (pcT := 53) (pc' := 50) f80_47 rfl rfl rfl ?_
          refine y_s (pc' := 52) (L' := [some (vR (some 32)), some (vI x0), some (vI x1), some (vI x2), some (vI 1)]) (st' := [vI (-2)]) (h' := h) f80_50 rfl ?_
          exact y_ri f80_52 ⟨rfl, k⟩
    · replace k := k.2 c
      refine y_ift (pcT := 39) f80_16 rfl rfl ?_
      refine y_s (pc' := 40) (L' := [some (vR (some 32)), some (vI x0), some (vI x1), some (vI x2), some (vI 1)]) (st' := [vI (-1)]) (h' := h) f80_39 rfl ?_
      exact y_ri f80_40 ⟨rfl, k⟩
  · replace k := k.2 c
    refine y_sto (pc' := 11) (k := 4) (L' := [some (vR (some 32)), some (vI x0), some (vI x1), some (vI x2), some (vI 0)]) f80_9 rfl rfl rfl rfl rfl rfl ?_
    refine y_s (pc' := 12) (L' := [some (vR (some 32)), some (vI x0), some (vI x1), some (vI x2), some (vI 0)]) (st' := [vR (some 32)]) (h' := h) f80_11 rfl ?_
    refine y_s (pc' := 13) (L' := [some (vR (some 32)), some (vI x0), some (vI x1), some (vI x2), some (vI 0)]) (st' := [vI x1, vR (some 32)]) (h' := h) f80_12 rfl ?_
    refine y_cI (pc' := 16) (as := [vR (some 32), vI x1]) (r := []) f80_13 (yzv ym_7_71 rfl (ys32 w) rfl rfl) (by omega) rfl ?_
    refine sp15 w (by omega) (fun c => ?_) (fun c => ?_)
    · replace k := k.1 c
      refine y_iff (pcT := 39) (pc' := 19) f80_16 rfl rfl rfl ?_
      refine y_s (pc' := 20) (L' := [some (vR (some 32)), some (vI x0), some (vI x1), some (vI x2), some (vI 0)]) (st' := [vI x2]) (h' := h) f80_19 rfl ?_
      refine y_s (pc' := 22) (L' := [some (vR (some 32)), some (vI x0), some (vI x1), some (vI x2), some (vI 0)]) (st' := [vI 6, vI x2]) (h' := h) f80_20 rfl ?_
      refine y_cI (pc' := 25) (as := [vI x2, vI 6]) (r := []) f80_22 rfl (by omega) rfl ?_
      refine sp10 w (fun c => ?_) (fun c => ?_)
      · replace k := k.1 c
        refine y_ift (pcT := 41) f80_25 rfl rfl ?_
        refine y_s (pc' := 42) (L' := [some (vR (some 32)), some (vI x0), some (vI x1), some (vI x2), some (vI 0)]) (st' := [vI x0]) (h' := h) f80_41 rfl ?_
        refine y_s (pc' := 44) (L' := [some (vR (some 32)), some (vI x0), some (vI x1), some (vI x2), some (vI 0)]) (st' := [vI 61, vI x0]) (h' := h) f80_42 rfl ?_
        refine y_cI (pc' := 47) (as := [vI x0, vI 61]) (r := []) f80_44 rfl (by omega) rfl ?_
        refine sp10 w (fun c => ?_) (fun c => ?_)
        · replace k := k.1 c
          refine y_ift (pcT := 53) f80_47 rfl rfl ?_
          refine y_s (pc' := 54) (L' := [some (vR (some 32)), some (vI x0), some (vI x1), some (vI x2), some (vI 0)]) (st' := [vR (some 32)]) (h' := h) f80_53 rfl ?_
          refine y_gr (pc' := 57) f80_54 yf_7_18 rfl rfl (ys32 w) (yp32_1 w) rfl ?_
          refine y_s (pc' := 58) (L' := [some (vR (some 32)), some (vI x0), some (vI x1), some (vI x2), some (vI 0)]) (st' := [vR (some 32), vR (some 52)]) (h' := h) f80_57 rfl ?_
          refine y_gr (pc' := 61) f80_58 yf_7_14 rfl rfl (ys32 w) (yp32_0 w) rfl ?_
          refine y_cU (pc' := 64) (as := [vR (some 52), vR (some 33)]) (r := []) f80_61 (yzv ym_7_114 rfl (ys52 w) rfl rfl) (by omega) rfl ?_
          exact k
        · replace k := k.2 c
          refine y_iff (pcT := 53) (pc' := 50) f80_47 rfl rfl rfl ?_
          refine y_s (pc' := 52) (L' := [some (vR (some 32)), some (vI x0), some (vI x1), some (vI x2), some (vI 0)]) (st' := [vI (-2)]) (h' := h) f80_50 rfl ?_
          exact y_ri f80_52 ⟨rfl, k⟩
      · replace k := k.2 c
        refine y_iff (pcT := 41) (pc' := 28) f80_25 rfl rfl rfl ?_
        refine y_s (pc' := 30) (L' := [some (vR (some 32)), some (vI x0), some (vI x1), some (vI x2), some (vI 0)]) (st' := [vI 0]) (h' := h) f80_28 rfl ?_
        refine y_iff (pcT := 41) (pc' := 33) f80_30 rfl rfl rfl ?_
        refine y_s (pc' := 34) (L' := [some (vR (some 32)), some (vI x0), some (vI x1), some (vI x2), some (vI 0)]) (st' := [vI x2]) (h' := h) f80_33 rfl ?_
        refine y_s (pc' := 36) (L' := [some (vR (some 32)), some (vI x0), some (vI x1), some (vI x2), some (vI 0)]) (st' := [vI 20, vI x2]) (h' := h) f80_34 rfl ?_
        refine y_ic (pcT := 41) (pc' := 39) (P := x2 = 20) f80_36 rfl rfl rfl (fun c => ?_) (fun c => ?_)
        · replace k := k.1 c
          refine y_s (pc' := 42) (L' := [some (vR (some 32)), some (vI x0), some (vI x1), some (vI x2), some (vI 0)]) (st' := [vI x0]) (h' := h) f80_41 rfl ?_
          refine y_s (pc' := 44) (L' := [some (vR (some 32)), some (vI x0), some (vI x1), some (vI x2), some (vI 0)]) (st' := [vI 61, vI x0]) (h' := h) f80_42 rfl ?_
          refine y_cI (pc' := 47) (as := [vI x0, vI 61]) (r := []) f80_44 rfl (by omega) rfl ?_
          refine sp10 w (fun c => ?_) (fun c => ?_)
          · replace k := k.1 c
            refine y_ift (pcT := 53) f80_47 rfl rfl ?_
            refine y_s (pc' := 54) (L' := [some (vR (some 32)), some (vI x0), some (vI x1), some (vI x2), some (vI 0)]) (st' := [vR (some 32)]) (h' := h) f80_53 rfl ?_
            refine y_gr (pc' := 57) f80_54 yf_7_18 rfl rfl (ys32 w) (yp32_1 w) rfl ?_
            refine y_s (pc' := 58) (L' := [some (vR (some 32)), some (vI x0), some (vI x1), some (vI x2), some (vI 0)]) (st' := [vR (some 32), vR (some 52)]) (h' := h) f80_57 rfl ?_
            refine y_gr (pc' := 61) f80_58 yf_7_14 rfl rfl (ys32 w) (yp32_0 w) rfl ?_
            refine y_cU (pc' := 64) (as := [vR (some 52), vR (some 33)]) (r := []) f80_61 (yzv ym_7_114 rfl (ys52 w) rfl rfl) (by omega) rfl ?_
            exact k
          · replace k := k.2 c
            refine y_iff (pcT := 53) (pc' := 50) f80_47 rfl rfl rfl ?_
            refine y_s (pc' := 52) (L' := [some (vR (some 32)), some (vI x0), some (vI x1), some (vI x2), some (vI 0)]) (st' := [vI (-2)]) (h' := h) f80_50 rfl ?_
            exact y_ri f80_52 ⟨rfl, k⟩
        · replace k := k.2 c
          refine y_s (pc' := 40) (L' := [some (vR (some 32)), some (vI x0), some (vI x1), some (vI x2), some (vI 0)]) (st' := [vI (-1)]) (h' := h) f80_39 rfl ?_
          exact y_ri f80_40 ⟨rfl, k⟩
    · replace k := k.2 c
      refine y_ift (pcT := 39) f80_16 rfl rfl ?_
      refine y_s (pc' := 40) (L' := [some (vR (some 32)), some (vI x0), some (vI x1), some (vI x2), some (vI 0)]) (st' := [vI (-1)]) (h' := h) f80_39 rfl ?_
      exact y_ri f80_40 ⟨rfl, k⟩
theorem W80_64 {d : Nat} {K : Int → Hp → Prop} (w : yWF zl nl h) {l1 : Int} {l2 : Int} {l3 : Int} {l4 : Int} (hd : 1 ≤ d) (k : yU (d - 1) 79 [vR (some 52), vI l1] h (fun h' => ZW d prog_1_method_16_code 7 72 [some (vR (some 32)), some (vI l1), some (vI l2), some (vI l3), some (vI l4)] [] h' (yq 1 (yqI K)))) : ZW d prog_1_method_16_code 7 64 [some (vR (some 32)), some (vI l1), some (vI l2), some (vI l3), some (vI l4)] [] h (yq 1 (yqI K)) := by
  refine y_s (pc' := 65) (L' := [some (vR (some 32)), some (vI l1), some (vI l2), some (vI l3), some (vI l4)]) (st' := [vR (some 32)]) (h' := h) f80_64 rfl ?_
  refine y_gr (pc' := 68) f80_65 yf_7_18 rfl rfl (ys32 w) (yp32_1 w) rfl ?_
  refine y_s (pc' := 69) (L' := [some (vR (some 32)), some (vI l1), some (vI l2), some (vI l3), some (vI l4)]) (st' := [vI l1, vR (some 52)]) (h' := h) f80_68 rfl ?_
  refine y_cU (pc' := 72) (as := [vR (some 52), vI l1]) (r := []) f80_69 (yzv ym_7_182 rfl (ys52 w) rfl rfl) (by omega) rfl ?_
  exact k
theorem W80_72 {d : Nat} {K : Int → Hp → Prop} (w : yWF zl nl h) {l1 : Int} {l2 : Int} {l3 : Int} {l4 : Int} (hd : 6 ≤ d) (k : ((l4 = 0 → ((l3 ≠ 20 → ((yHOk h 52) ∧ (((0 : Int) ≤ l2 ∧ l2 < 6 ∧ (0 : Int) ≤ l3 ∧ l3 < 6) ∧ (∀ h_116, ySm h h_116 → K (ynote h 52 l2 l3) h_116)))) ∧ (¬ (l3 ≠ 20) → ((yHOk h 52) ∧ (((0 : Int) ≤ l2 ∧ l2 < 6) ∧ (∀ h_104, ySm h h_104 → K (ysound h 52 l2) h_104)))))) ∧ (¬ (l4 = 0) → (((0 : Int) ≤ l2 ∧ l2 < 6 ∧ (0 : Int) ≤ (zw (l3 - 10)) ∧ (zw (l3 - 10)) < 6) ∧ K (zV h (52 + 4) (6 * l2 + (zw (l3 - 10))).toNat) h)))) : ZW d prog_1_method_16_code 7 72 [some (vR (some 32)), some (vI l1), some (vI l2), some (vI l3), some (vI l4)] [] h (yq 1 (yqI K)) := by
  refine y_s (pc' := 74) (L' := [some (vR (some 32)), some (vI l1), some (vI l2), some (vI l3), some (vI l4)]) (st' := [vI l4]) (h' := h) f80_72 rfl ?_
  refine y_if (pcT := 90) (pc' := 77) (P := l4 = 0) f80_74 rfl rfl rfl (fun c => ?_) (fun c => ?_)
  · replace k := k.1 c
    refine y_s (pc' := 91) (L' := [some (vR (some 32)), some (vI l1), some (vI l2), some (vI l3), some (vI l4)]) (st' := [vI l3]) (h' := h) f80_90 rfl ?_
    refine y_s (pc' := 93) (L' := [some (vR (some 32)), some (vI l1), some (vI l2), some (vI l3), some (vI l4)]) (st' := [vI 20, vI l3]) (h' := h) f80_91 rfl ?_
    refine y_ic (pcT := 107) (pc' := 96) (P := l3 ≠ 20) f80_93 rfl rfl rfl (fun c => ?_) (fun c => ?_)
    · replace k := k.1 c
      refine y_s (pc' := 108) (L' := [some (vR (some 32)), some (vI l1), some (vI l2), some (vI l3), some (vI l4)]) (st' := [vR (some 32)]) (h' := h) f80_107 rfl ?_
      refine y_gr (pc' := 111) f80_108 yf_7_18 rfl rfl (ys32 w) (yp32_1 w) rfl ?_
      refine y_s (pc' := 112) (L' := [some (vR (some 32)), some (vI l1), some (vI l2), some (vI l3), some (vI l4)]) (st' := [vI l2, vR (some 52)]) (h' := h) f80_111 rfl ?_
      refine y_s (pc' := 113) (L' := [some (vR (some 32)), some (vI l1), some (vI l2), some (vI l3), some (vI l4)]) (st' := [vI l3, vI l2, vR (some 52)]) (h' := h) f80_112 rfl ?_
      refine y_cI (pc' := 116) (as := [vR (some 52), vI l2, vI l3]) (r := []) f80_113 (yzv ym_7_105 rfl (ys52 w) rfl rfl) (by omega) rfl ?_
      have p0 := k.1
      replace k := k.2
      have p1 := k.1
      replace k := k.2
      refine sp17 w (Or.inr (Or.inl rfl)) (by omega) p0 p1 (fun h_116 m_116 => ?_)
      replace k := k h_116 m_116
      have w := m_116.wf w
      exact y_ri f80_116 ⟨rfl, k⟩
    · replace k := k.2 c
      refine y_s (pc' := 97) (L' := [some (vR (some 32)), some (vI l1), some (vI l2), some (vI l3), some (vI l4)]) (st' := [vR (some 32)]) (h' := h) f80_96 rfl ?_
      refine y_gr (pc' := 100) f80_97 yf_7_18 rfl rfl (ys32 w) (yp32_1 w) rfl ?_
      refine y_s (pc' := 101) (L' := [some (vR (some 32)), some (vI l1), some (vI l2), some (vI l3), some (vI l4)]) (st' := [vI l2, vR (some 52)]) (h' := h) f80_100 rfl ?_
      refine y_cI (pc' := 104) (as := [vR (some 52), vI l2]) (r := []) f80_101 (yzv ym_7_85 rfl (ys52 w) rfl rfl) (by omega) rfl ?_
      have p0 := k.1
      replace k := k.2
      have p1 := k.1
      replace k := k.2
      refine sp16 w (Or.inr (Or.inl rfl)) (by omega) p0 p1 (fun h_104 m_104 => ?_)
      replace k := k h_104 m_104
      have w := m_104.wf w
      refine y_go (pc' := 116) f80_104 rfl ?_
      exact y_ri f80_116 ⟨rfl, k⟩
  · replace k := k.2 c
    refine y_s (pc' := 78) (L' := [some (vR (some 32)), some (vI l1), some (vI l2), some (vI l3), some (vI l4)]) (st' := [vR (some 32)]) (h' := h) f80_77 rfl ?_
    refine y_gr (pc' := 81) f80_78 yf_7_18 rfl rfl (ys32 w) (yp32_1 w) rfl ?_
    refine y_s (pc' := 82) (L' := [some (vR (some 32)), some (vI l1), some (vI l2), some (vI l3), some (vI l4)]) (st' := [vI l2, vR (some 52)]) (h' := h) f80_81 rfl ?_
    refine y_s (pc' := 83) (L' := [some (vR (some 32)), some (vI l1), some (vI l2), some (vI l3), some (vI l4)]) (st' := [vI l3, vI l2, vR (some 52)]) (h' := h) f80_82 rfl ?_
    refine y_s (pc' := 85) (L' := [some (vR (some 32)), some (vI l1), some (vI l2), some (vI l3), some (vI l4)]) (st' := [vI 10, vI l3, vI l2, vR (some 52)]) (h' := h) f80_83 rfl ?_
    refine y_s (pc' := 86) (L' := [some (vR (some 32)), some (vI l1), some (vI l2), some (vI l3), some (vI l4)]) (st' := [vI (zw (l3 - 10)), vI l2, vR (some 52)]) (h' := h) f80_85 rfl ?_
    refine y_cI (pc' := 89) (as := [vR (some 52), vI l2, vI (zw (l3 - 10))]) (r := []) f80_86 (yzv ym_7_102 rfl (ys52 w) rfl rfl) (by omega) rfl ?_
    have p0 := k.1
    replace k := k.2
    refine sp20 w (Or.inr (Or.inl rfl)) p0 ?_
    exact y_ri f80_89 ⟨rfl, k⟩
/-- HatterTunes.anthem(II)I -/
theorem E83 {d : Nat} {K : Int → Hp → Prop} (w : yWF zl nl h) {x0 : Int} {x1 : Int} (hd : 1 ≤ d) (k : ((x1 < (-1) → K (-1) h) ∧ (¬ (x1 < (-1)) → ((x1 < 6 → (((zshr x0 (zV h 33 10)) = 0 → yU (d - 1) 84 [vR (some 96), vR (some 33), vI x0] h (fun h' => ZW d prog_1_method_18_code 7 40 [some (vR (some 32)), some (vI x0), some (vI x1)] [] h' (yq 1 (yqI K)))) ∧ (¬ ((zshr x0 (zV h 33 10)) = 0) → K (-2) h))) ∧ (¬ (x1 < 6) → K (-1) h))))) : yI d 83 [vR (some 32), vI x0, vI x1] h K := by
  refine y_en (L := [some (vR (some 32)), some (vI x0), some (vI x1)]) rfl rfl ?_
  refine y_s (pc' := 1) (L' := [some (vR (some 32)), some (vI x0), some (vI x1)]) (st' := [vI x1]) (h' := h) f83_0 rfl ?_
  refine y_s (pc' := 2) (L' := [some (vR (some 32)), some (vI x0), some (vI x1)]) (st' := [vI (-1), vI x1]) (h' := h) f83_1 rfl ?_
  refine y_ic (pcT := 11) (pc' := 5) (P := x1 < (-1)) f83_2 rfl rfl rfl (fun c => ?_) (fun c => ?_)
  · replace k := k.1 c
    refine y_s (pc' := 12) (L' := [some (vR (some 32)), some (vI x0), some (vI x1)]) (st' := [vI (-1)]) (h' := h) f83_11 rfl ?_
    exact y_ri f83_12 ⟨rfl, k⟩
  · replace k := k.2 c
    refine y_s (pc' := 6) (L' := [some (vR (some 32)), some (vI x0), some (vI x1)]) (st' := [vI x1]) (h' := h) f83_5 rfl ?_
    refine y_s (pc' := 8) (L' := [some (vR (some 32)), some (vI x0), some (vI x1)]) (st' := [vI 6, vI x1]) (h' := h) f83_6 rfl ?_
    refine y_ic (pcT := 13) (pc' := 11) (P := x1 < 6) f83_8 rfl rfl rfl (fun c => ?_) (fun c => ?_)
    · replace k := k.1 c
      refine y_s (pc' := 14) (L' := [some (vR (some 32)), some (vI x0), some (vI x1)]) (st' := [vI x0]) (h' := h) f83_13 rfl ?_
      refine y_s (pc' := 15) (L' := [some (vR (some 32)), some (vI x0), some (vI x1)]) (st' := [vR (some 32), vI x0]) (h' := h) f83_14 rfl ?_
      refine y_gr (pc' := 18) f83_15 yf_7_14 rfl rfl (ys32 w) (yp32_0 w) rfl ?_
      refine y_gi (pc' := 21) f83_18 yf_7_63 rfl rfl (ys33 w) rfl ?_
      refine y_s (pc' := 22) (L' := [some (vR (some 32)), some (vI x0), some (vI x1)]) (st' := [vI (zshr x0 (zV h 33 10))]) (h' := h) f83_21 rfl ?_
      refine y_if (pcT := 28) (pc' := 25) (P := (zshr x0 (zV h 33 10)) = 0) f83_22 rfl rfl rfl (fun c => ?_) (fun c => ?_)
      · replace k := k.1 c
        refine y_s (pc' := 29) (L' := [some (vR (some 32)), some (vI x0), some (vI x1)]) (st' := [vR (some 32)]) (h' := h) f83_28 rfl ?_
        refine y_gr (pc' := 32) f83_29 yf_7_53 rfl rfl (ys32 w) (yp32_9 w) rfl ?_
        refine y_s (pc' := 33) (L' := [some (vR (some 32)), some (vI x0), some (vI x1)]) (st' := [vR (some 32), vR (some 96)]) (h' := h) f83_32 rfl ?_
        refine y_gr (pc' := 36) f83_33 yf_7_14 rfl rfl (ys32 w) (yp32_0 w) rfl ?_
        refine y_s (pc' := 37) (L' := [some (vR (some 32)), some (vI x0), some (vI x1)]) (st' := [vI x0, vR (some 33), vR (some 96)]) (h' := h) f83_36 rfl ?_
        refine y_cU (pc' := 40) (as := [vR (some 96), vR (some 33), vI x0]) (r := []) f83_37 (yzv ym_7_189 rfl (ys96 w) rfl rfl) (by omega) rfl ?_
        exact k
      · replace k := k.2 c
        refine y_s (pc' := 27) (L' := [some (vR (some 32)), some (vI x0), some (vI x1)]) (st' := [vI (-2)]) (h' := h) f83_25 rfl ?_
        exact y_ri f83_27 ⟨rfl, k⟩
    · replace k := k.2 c
      refine y_s (pc' := 12) (L' := [some (vR (some 32)), some (vI x0), some (vI x1)]) (st' := [vI (-1)]) (h' := h) f83_11 rfl ?_
      exact y_ri f83_12 ⟨rfl, k⟩
theorem W83_40 {d : Nat} {K : Int → Hp → Prop} (w : yWF zl nl h) {l1 : Int} {l2 : Int} (hd : 1 ≤ d) (k : ((l2 ≠ (-1) → (((zV h 96 4) ≤ l2 → K (-5) h) ∧ (¬ ((zV h 96 4) ≤ l2) → ((0 ≤ l2 ∧ l2 < 6) ∧ K (zV h 100 (l2).toNat) h)))) ∧ (¬ (l2 ≠ (-1)) → yI (d - 1) 88 [vR (some 96)] h (fun x h' => ZW d prog_1_method_18_code 7 52 [some (vR (some 32)), some (vI l1), some (vI l2)] [vI x] h' (yq 1 (yqI K)))))) : ZW d prog_1_method_18_code 7 40 [some (vR (some 32)), some (vI l1), some (vI l2)] [] h (yq 1 (yqI K)) := by
  refine y_s (pc' := 41) (L' := [some (vR (some 32)), some (vI l1), some (vI l2)]) (st' := [vI l2]) (h' := h) f83_40 rfl ?_
  refine y_s (pc' := 42) (L' := [some (vR (some 32)), some (vI l1), some (vI l2)]) (st' := [vI (-1), vI l2]) (h' := h) f83_41 rfl ?_
  refine y_ic (pcT := 53) (pc' := 45) (P := l2 ≠ (-1)) f83_42 rfl rfl rfl (fun c => ?_) (fun c => ?_)
  · replace k := k.1 c
    refine y_s (pc' := 54) (L' := [some (vR (some 32)), some (vI l1), some (vI l2)]) (st' := [vI l2]) (h' := h) f83_53 rfl ?_
    refine y_s (pc' := 55) (L' := [some (vR (some 32)), some (vI l1), some (vI l2)]) (st' := [vR (some 32), vI l2]) (h' := h) f83_54 rfl ?_
    refine y_gr (pc' := 58) f83_55 yf_7_53 rfl rfl (ys32 w) (yp32_9 w) rfl ?_
    refine y_gi (pc' := 61) f83_58 yf_7_196 rfl rfl (ys96 w) rfl ?_
    refine y_ic (pcT := 76) (pc' := 64) (P := (zV h 96 4) ≤ l2) f83_61 rfl rfl rfl (fun c => ?_) (fun c => ?_)
    · replace k := k.1 c
      refine y_s (pc' := 78) (L' := [some (vR (some 32)), some (vI l1), some (vI l2)]) (st' := [vI (-5)]) (h' := h) f83_76 rfl ?_
      exact y_ri f83_78 ⟨rfl, k⟩
    · replace k := k.2 c
      refine y_s (pc' := 65) (L' := [some (vR (some 32)), some (vI l1), some (vI l2)]) (st' := [vR (some 32)]) (h' := h) f83_64 rfl ?_
      refine y_gr (pc' := 68) f83_65 yf_7_53 rfl rfl (ys32 w) (yp32_9 w) rfl ?_
      refine y_gr (pc' := 71) f83_68 yf_7_197 rfl rfl (ys96 w) (yp96_3 w) rfl ?_
      refine y_s (pc' := 72) (L' := [some (vR (some 32)), some (vI l1), some (vI l2)]) (st' := [vI l2, vR (some 100)]) (h' := h) f83_71 rfl ?_
      refine y_ia (pc' := 73) (x := (zV h 100 (l2).toNat)) f83_72 (ys100 w) k.1 rfl rfl ?_
      replace k := k.2
      refine y_go (pc' := 78) f83_73 rfl ?_
      exact y_ri f83_78 ⟨rfl, k⟩
  · replace k := k.2 c
    refine y_s (pc' := 46) (L' := [some (vR (some 32)), some (vI l1), some (vI l2)]) (st' := [vR (some 32)]) (h' := h) f83_45 rfl ?_
    refine y_gr (pc' := 49) f83_46 yf_7_53 rfl rfl (ys32 w) (yp32_9 w) rfl ?_
    refine y_cI (pc' := 52) (as := [vR (some 96)]) (r := []) f83_49 (yzv ym_7_193 rfl (ys96 w) rfl rfl) (by omega) rfl ?_
    exact k
theorem W83_52 {d : Nat} {K : Int → Hp → Prop} (w : yWF zl nl h) {l1 : Int} {l2 : Int} {s0 : Int} (k : K s0 h) : ZW d prog_1_method_18_code 7 52 [some (vR (some 32)), some (vI l1), some (vI l2)] [vI s0] h (yq 1 (yqI K)) := by
  exact y_ri f83_52 ⟨rfl, k⟩
/-- java/lang/Integer.bitCount(I)I -/
theorem E85 {d : Nat} {K : Int → Hp → Prop} (w : yWF zl nl h) {x0 : Int} (k : K (zand (zw ((zw ((zand (zw ((zw ((zand (zw (x0 - (zand (zushr x0 1) 1431655765))) 858993459) + (zand (zushr (zw (x0 - (zand (zushr x0 1) 1431655765))) 2) 858993459))) + (zushr (zw ((zand (zw (x0 - (zand (zushr x0 1) 1431655765))) 858993459) + (zand (zushr (zw (x0 - (zand (zushr x0 1) 1431655765))) 2) 858993459))) 4))) 252645135) + (zushr (zand (zw ((zw ((zand (zw (x0 - (zand (zushr x0 1) 1431655765))) 858993459) + (zand (zushr (zw (x0 - (zand (zushr x0 1) 1431655765))) 2) 858993459))) + (zushr (zw ((zand (zw (x0 - (zand (zushr x0 1) 1431655765))) 858993459) + (zand (zushr (zw (x0 - (zand (zushr x0 1) 1431655765))) 2) 858993459))) 4))) 252645135) 8))) + (zushr (zw ((zand (zw ((zw ((zand (zw (x0 - (zand (zushr x0 1) 1431655765))) 858993459) + (zand (zushr (zw (x0 - (zand (zushr x0 1) 1431655765))) 2) 858993459))) + (zushr (zw ((zand (zw (x0 - (zand (zushr x0 1) 1431655765))) 858993459) + (zand (zushr (zw (x0 - (zand (zushr x0 1) 1431655765))) 2) 858993459))) 4))) 252645135) + (zushr (zand (zw ((zw ((zand (zw (x0 - (zand (zushr x0 1) 1431655765))) 858993459) + (zand (zushr (zw (x0 - (zand (zushr x0 1) 1431655765))) 2) 858993459))) + (zushr (zw ((zand (zw (x0 - (zand (zushr x0 1) 1431655765))) 858993459) + (zand (zushr (zw (x0 - (zand (zushr x0 1) 1431655765))) 2) 858993459))) 4))) 252645135) 8))) 16))) 63) h) : yI d 85 [vI x0] h K := by
  refine y_en (L := [some (vI x0)]) rfl rfl ?_
  refine y_s (pc' := 1) (L' := [some (vI x0)]) (st' := [vI x0]) (h' := h) f85_0 rfl ?_
  refine y_s (pc' := 2) (L' := [some (vI x0)]) (st' := [vI x0, vI x0]) (h' := h) f85_1 rfl ?_
  refine y_s (pc' := 3) (L' := [some (vI x0)]) (st' := [vI 1, vI x0, vI x0]) (h' := h) f85_2 rfl ?_
  refine y_s (pc' := 4) (L' := [some (vI x0)]) (st' := [vI (zushr x0 1), vI x0]) (h' := h) f85_3 rfl ?_
  refine y_s (pc' := 7) (L' := [some (vI x0)]) (st' := [vI 1431655765, vI (zushr x0 1), vI x0]) (h' := h) f85_4 rfl ?_
  refine y_s (pc' := 8) (L' := [some (vI x0)]) (st' := [vI (zand (zushr x0 1) 1431655765), vI x0]) (h' := h) f85_7 rfl ?_
  refine y_s (pc' := 9) (L' := [some (vI x0)]) (st' := [vI (zw (x0 - (zand (zushr x0 1) 1431655765)))]) (h' := h) f85_8 rfl ?_
  refine y_sto (pc' := 10) (k := 0) (L' := [some (vI (zw (x0 - (zand (zushr x0 1) 1431655765))))]) f85_9 rfl rfl rfl rfl rfl rfl ?_
  refine y_s (pc' := 11) (L' := [some (vI (zw (x0 - (zand (zushr x0 1) 1431655765))))]) (st' := [vI (zw (x0 - (zand (zushr x0 1) 1431655765)))]) (h' := h) f85_10 rfl ?_
  refine y_s (pc' := 14) (L' := [some (vI (zw (x0 - (zand (zushr x0 1) 1431655765))))]) (st' := [vI 858993459, vI (zw (x0 - (zand (zushr x0 1) 1431655765)))]) (h' := h) f85_11 rfl ?_
  refine y_s (pc' := 15) (L' := [some (vI (zw (x0 - (zand (zushr x0 1) 1431655765))))]) (st' := [vI (zand (zw (x0 - (zand (zushr x0 1) 1431655765))) 858993459)]) (h' := h) f85_14 rfl ?_
  refine y_s (pc' := 16) (L' := [some (vI (zw (x0 - (zand (zushr x0 1) 1431655765))))]) (st' := [vI (zw (x0 - (zand (zushr x0 1) 1431655765))), vI (zand (zw (x0 - (zand (zushr x0 1) 1431655765))) 858993459)]) (h' := h) f85_15 rfl ?_
  refine y_s (pc' := 17) (L' := [some (vI (zw (x0 - (zand (zushr x0 1) 1431655765))))]) (st' := [vI 2, vI (zw (x0 - (zand (zushr x0 1) 1431655765))), vI (zand (zw (x0 - (zand (zushr x0 1) 1431655765))) 858993459)]) (h' := h) f85_16 rfl ?_
  refine y_s (pc' := 18) (L' := [some (vI (zw (x0 - (zand (zushr x0 1) 1431655765))))]) (st' := [vI (zushr (zw (x0 - (zand (zushr x0 1) 1431655765))) 2), vI (zand (zw (x0 - (zand (zushr x0 1) 1431655765))) 858993459)]) (h' := h) f85_17 rfl ?_
  refine y_s (pc' := 21) (L' := [some (vI (zw (x0 - (zand (zushr x0 1) 1431655765))))]) (st' := [vI 858993459, vI (zushr (zw (x0 - (zand (zushr x0 1) 1431655765))) 2), vI (zand (zw (x0 - (zand (zushr x0 1) 1431655765))) 858993459)]) (h' := h) f85_18 rfl ?_
  refine y_s (pc' := 22) (L' := [some (vI (zw (x0 - (zand (zushr x0 1) 1431655765))))]) (st' := [vI (zand (zushr (zw (x0 - (zand (zushr x0 1) 1431655765))) 2) 858993459), vI (zand (zw (x0 - (zand (zushr x0 1) 1431655765))) 858993459)]) (h' := h) f85_21 rfl ?_
  refine y_s (pc' := 23) (L' := [some (vI (zw (x0 - (zand (zushr x0 1) 1431655765))))]) (st' := [vI (zw ((zand (zw (x0 - (zand (zushr x0 1) 1431655765))) 858993459) + (zand (zushr (zw (x0 - (zand (zushr x0 1) 1431655765))) 2) 858993459)))]) (h' := h) f85_22 rfl ?_
  refine y_sto (pc' := 24) (k := 0) (L' := [some (vI (zw ((zand (zw (x0 - (zand (zushr x0 1) 1431655765))) 858993459) + (zand (zushr (zw (x0 - (zand (zushr x0 1) 1431655765))) 2) 858993459))))]) f85_23 rfl rfl rfl rfl rfl rfl ?_
  refine y_s (pc' := 25) (L' := [some (vI (zw ((zand (zw (x0 - (zand (zushr x0 1) 1431655765))) 858993459) + (zand (zushr (zw (x0 - (zand (zushr x0 1) 1431655765))) 2) 858993459))))]) (st' := [vI (zw ((zand (zw (x0 - (zand (zushr x0 1) 1431655765))) 858993459) + (zand (zushr (zw (x0 - (zand (zushr x0 1) 1431655765))) 2) 858993459)))]) (h' := h) f85_24 rfl ?_
  refine y_s (pc' := 26) (L' := [some (vI (zw ((zand (zw (x0 - (zand (zushr x0 1) 1431655765))) 858993459) + (zand (zushr (zw (x0 - (zand (zushr x0 1) 1431655765))) 2) 858993459))))]) (st' := [vI (zw ((zand (zw (x0 - (zand (zushr x0 1) 1431655765))) 858993459) + (zand (zushr (zw (x0 - (zand (zushr x0 1) 1431655765))) 2) 858993459))), vI (zw ((zand (zw (x0 - (zand (zushr x0 1) 1431655765))) 858993459) + (zand (zushr (zw (x0 - (zand (zushr x0 1) 1431655765))) 2) 858993459)))]) (h' := h) f85_25 rfl ?_
  refine y_s (pc' := 27) (L' := [some (vI (zw ((zand (zw (x0 - (zand (zushr x0 1) 1431655765))) 858993459) + (zand (zushr (zw (x0 - (zand (zushr x0 1) 1431655765))) 2) 858993459))))]) (st' := [vI 4, vI (zw ((zand (zw (x0 - (zand (zushr x0 1) 1431655765))) 858993459) + (zand (zushr (zw (x0 - (zand (zushr x0 1) 1431655765))) 2) 858993459))), vI (zw ((zand (zw (x0 - (zand (zushr x0 1) 1431655765))) 858993459) + (zand (zushr (zw (x0 - (zand (zushr x0 1) 1431655765))) 2) 858993459)))]) (h' := h) f85_26 rfl ?_
  refine y_s (pc' := 28) (L' := [some (vI (zw ((zand (zw (x0 - (zand (zushr x0 1) 1431655765))) 858993459) + (zand (zushr (zw (x0 - (zand (zushr x0 1) 1431655765))) 2) 858993459))))]) (st' := [vI (zushr (zw ((zand (zw (x0 - (zand (zushr x0 1) 1431655765))) 858993459) + (zand (zushr (zw (x0 - (zand (zushr x0 1) 1431655765))) 2) 858993459))) 4), vI (zw ((zand (zw (x0 - (zand (zushr x0 1) 1431655765))) 858993459) + (zand (zushr (zw (x0 - (zand (zushr x0 1) 1431655765))) 2) 858993459)))]) (h' := h) f85_27 rfl ?_
  refine y_s (pc' := 29) (L' := [some (vI (zw ((zand (zw (x0 - (zand (zushr x0 1) 1431655765))) 858993459) + (zand (zushr (zw (x0 - (zand (zushr x0 1) 1431655765))) 2) 858993459))))]) (st' := [vI (zw ((zw ((zand (zw (x0 - (zand (zushr x0 1) 1431655765))) 858993459) + (zand (zushr (zw (x0 - (zand (zushr x0 1) 1431655765))) 2) 858993459))) + (zushr (zw ((zand (zw (x0 - (zand (zushr x0 1) 1431655765))) 858993459) + (zand (zushr (zw (x0 - (zand (zushr x0 1) 1431655765))) 2) 858993459))) 4)))]) (h' := h) f85_28 rfl ?_
  refine y_s (pc' := 32) (L' := [some (vI (zw ((zand (zw (x0 - (zand (zushr x0 1) 1431655765))) 858993459) + (zand (zushr (zw (x0 - (zand (zushr x0 1) 1431655765))) 2) 858993459))))]) (st' := [vI 252645135, vI (zw ((zw ((zand (zw (x0 - (zand (zushr x0 1) 1431655765))) 858993459) + (zand (zushr (zw (x0 - (zand (zushr x0 1) 1431655765))) 2) 858993459))) + (zushr (zw ((zand (zw (x0 - (zand (zushr x0 1) 1431655765))) 858993459) + (zand (zushr (zw (x0 - (zand (zushr x0 1) 1431655765))) 2) 858993459))) 4)))]) (h' := h) f85_29 rfl ?_
  refine y_s (pc' := 33) (L' := [some (vI (zw ((zand (zw (x0 - (zand (zushr x0 1) 1431655765))) 858993459) + (zand (zushr (zw (x0 - (zand (zushr x0 1) 1431655765))) 2) 858993459))))]) (st' := [vI (zand (zw ((zw ((zand (zw (x0 - (zand (zushr x0 1) 1431655765))) 858993459) + (zand (zushr (zw (x0 - (zand (zushr x0 1) 1431655765))) 2) 858993459))) + (zushr (zw ((zand (zw (x0 - (zand (zushr x0 1) 1431655765))) 858993459) + (zand (zushr (zw (x0 - (zand (zushr x0 1) 1431655765))) 2) 858993459))) 4))) 252645135)]) (h' := h) f85_32 rfl ?_
  refine y_sto (pc' := 34) (k := 0) (L' := [some (vI (zand (zw ((zw ((zand (zw (x0 - (zand (zushr x0 1) 1431655765))) 858993459) + (zand (zushr (zw (x0 - (zand (zushr x0 1) 1431655765))) 2) 858993459))) + (zushr (zw ((zand (zw (x0 - (zand (zushr x0 1) 1431655765))) 858993459) + (zand (zushr (zw (x0 - (zand (zushr x0 1) 1431655765))) 2) 858993459))) 4))) 252645135))]) f85_33 rfl rfl rfl rfl rfl rfl ?_
  refine y_s (pc' := 35) (L' := [some (vI (zand (zw ((zw ((zand (zw (x0 - (zand (zushr x0 1) 1431655765))) 858993459) + (zand (zushr (zw (x0 - (zand (zushr x0 1) 1431655765))) 2) 858993459))) + (zushr (zw ((zand (zw (x0 - (zand (zushr x0 1) 1431655765))) 858993459) + (zand (zushr (zw (x0 - (zand (zushr x0 1) 1431655765))) 2) 858993459))) 4))) 252645135))]) (st' := [vI (zand (zw ((zw ((zand (zw (x0 - (zand (zushr x0 1) 1431655765))) 858993459) + (zand (zushr (zw (x0 - (zand (zushr x0 1) 1431655765))) 2) 858993459))) + (zushr (zw ((zand (zw (x0 - (zand (zushr x0 1) 1431655765))) 858993459) + (zand (zushr (zw (x0 - (zand (zushr x0 1) 1431655765))) 2) 858993459))) 4))) 252645135)]) (h' := h) f85_34 rfl ?_
  refine y_s (pc' := 36) (L' := [some (vI (zand (zw ((zw ((zand (zw (x0 - (zand (zushr x0 1) 1431655765))) 858993459) + (zand (zushr (zw (x0 - (zand (zushr x0 1) 1431655765))) 2) 858993459))) + (zushr (zw ((zand (zw (x0 - (zand (zushr x0 1) 1431655765))) 858993459) + (zand (zushr (zw (x0 - (zand (zushr x0 1) 1431655765))) 2) 858993459))) 4))) 252645135))]) (st' := [vI (zand (zw ((zw ((zand (zw (x0 - (zand (zushr x0 1) 1431655765))) 858993459) + (zand (zushr (zw (x0 - (zand (zushr x0 1) 1431655765))) 2) 858993459))) + (zushr (zw ((zand (zw (x0 - (zand (zushr x0 1) 1431655765))) 858993459) + (zand (zushr (zw (x0 - (zand (zushr x0 1) 1431655765))) 2) 858993459))) 4))) 252645135), vI (zand (zw ((zw ((zand (zw (x0 - (zand (zushr x0 1) 1431655765))) 858993459) + (zand (zushr (zw (x0 - (zand (zushr x0 1) 1431655765))) 2) 858993459))) + (zushr (zw ((zand (zw (x0 - (zand (zushr x0 1) 1431655765))) 858993459) + (zand (zushr (zw (x0 - (zand (zushr x0 1) 1431655765))) 2) 858993459))) 4))) 252645135)]) (h' := h) f85_35 rfl ?_
  refine y_s (pc' := 38) (L' := [some (vI (zand (zw ((zw ((zand (zw (x0 - (zand (zushr x0 1) 1431655765))) 858993459) + (zand (zushr (zw (x0 - (zand (zushr x0 1) 1431655765))) 2) 858993459))) + (zushr (zw ((zand (zw (x0 - (zand (zushr x0 1) 1431655765))) 858993459) + (zand (zushr (zw (x0 - (zand (zushr x0 1) 1431655765))) 2) 858993459))) 4))) 252645135))]) (st' := [vI 8, vI (zand (zw ((zw ((zand (zw (x0 - (zand (zushr x0 1) 1431655765))) 858993459) + (zand (zushr (zw (x0 - (zand (zushr x0 1) 1431655765))) 2) 858993459))) + (zushr (zw ((zand (zw (x0 - (zand (zushr x0 1) 1431655765))) 858993459) + (zand (zushr (zw (x0 - (zand (zushr x0 1) 1431655765))) 2) 858993459))) 4))) 252645135), vI (zand (zw ((zw ((zand (zw (x0 - (zand (zushr x0 1) 1431655765))) 858993459) + (zand (zushr (zw (x0 - (zand (zushr x0 1) 1431655765))) 2) 858993459))) + (zushr (zw ((zand (zw (x0 - (zand (zushr x0 1) 1431655765))) 858993459) + (zand (zushr (zw (x0 - (zand (zushr x0 1) 1431655765))) 2) 858993459))) 4))) 252645135)]) (h' := h) f85_36 rfl ?_
  refine y_s (pc' := 39) (L' := [some (vI (zand (zw ((zw ((zand (zw (x0 - (zand (zushr x0 1) 1431655765))) 858993459) + (zand (zushr (zw (x0 - (zand (zushr x0 1) 1431655765))) 2) 858993459))) + (zushr (zw ((zand (zw (x0 - (zand (zushr x0 1) 1431655765))) 858993459) + (zand (zushr (zw (x0 - (zand (zushr x0 1) 1431655765))) 2) 858993459))) 4))) 252645135))]) (st' := [vI (zushr (zand (zw ((zw ((zand (zw (x0 - (zand (zushr x0 1) 1431655765))) 858993459) + (zand (zushr (zw (x0 - (zand (zushr x0 1) 1431655765))) 2) 858993459))) + (zushr (zw ((zand (zw (x0 - (zand (zushr x0 1) 1431655765))) 858993459) + (zand (zushr (zw (x0 - (zand (zushr x0 1) 1431655765))) 2) 858993459))) 4))) 252645135) 8), vI (zand (zw ((zw ((zand (zw (x0 - (zand (zushr x0 1) 1431655765))) 858993459) + (zand (zushr (zw (x0 - (zand (zushr x0 1) 1431655765))) 2) 858993459))) + (zushr (zw ((zand (zw (x0 - (zand (zushr x0 1) 1431655765))) 858993459) + (zand (zushr (zw (x0 - (zand (zushr x0 1) 1431655765))) 2) 858993459))) 4))) 252645135)]) (h' := h) f85_38 rfl ?_
  refine y_s (pc' := 40) (L' := [some (vI (zand (zw ((zw ((zand (zw (x0 - (zand (zushr x0 1) 1431655765))) 858993459) + (zand (zushr (zw (x0 - (zand (zushr x0 1) 1431655765))) 2) 858993459))) + (zushr (zw ((zand (zw (x0 - (zand (zushr x0 1) 1431655765))) 858993459) + (zand (zushr (zw (x0 - (zand (zushr x0 1) 1431655765))) 2) 858993459))) 4))) 252645135))]) (st' := [vI (zw ((zand (zw ((zw ((zand (zw (x0 - (zand (zushr x0 1) 1431655765))) 858993459) + (zand (zushr (zw (x0 - (zand (zushr x0 1) 1431655765))) 2) 858993459))) + (zushr (zw ((zand (zw (x0 - (zand (zushr x0 1) 1431655765))) 858993459) + (zand (zushr (zw (x0 - (zand (zushr x0 1) 1431655765))) 2) 858993459))) 4))) 252645135) + (zushr (zand (zw ((zw ((zand (zw (x0 - (zand (zushr x0 1) 1431655765))) 858993459) + (zand (zushr (zw (x0 - (zand (zushr x0 1) 1431655765))) 2) 858993459))) + (zushr (zw ((zand (zw (x0 - (zand (zushr x0 1) 1431655765))) 858993459) + (zand (zushr (zw (x0 - (zand (zushr x0 1) 1431655765))) 2) 858993459))) 4))) 252645135) 8)))]) (h' := h) f85_39 rfl ?_
  refine y_sto (pc' := 41) (k := 0) (L' := [some (vI (zw ((zand (zw ((zw ((zand (zw (x0 - (zand (zushr x0 1) 1431655765))) 858993459) + (zand (zushr (zw (x0 - (zand (zushr x0 1) 1431655765))) 2) 858993459))) + (zushr (zw ((zand (zw (x0 - (zand (zushr x0 1) 1431655765))) 858993459) + (zand (zushr (zw (x0 - (zand (zushr x0 1) 1431655765))) 2) 858993459))) 4))) 252645135) + (zushr (zand (zw ((zw ((zand (zw (x0 - (zand (zushr x0 1) 1431655765))) 858993459) + (zand (zushr (zw (x0 - (zand (zushr x0 1) 1431655765))) 2) 858993459))) + (zushr (zw ((zand (zw (x0 - (zand (zushr x0 1) 1431655765))) 858993459) + (zand (zushr (zw (x0 - (zand (zushr x0 1) 1431655765))) 2) 858993459))) 4))) 252645135) 8))))]) f85_40 rfl rfl rfl rfl rfl rfl ?_
  refine y_s (pc' := 42) (L' := [some (vI (zw ((zand (zw ((zw ((zand (zw (x0 - (zand (zushr x0 1) 1431655765))) 858993459) + (zand (zushr (zw (x0 - (zand (zushr x0 1) 1431655765))) 2) 858993459))) + (zushr (zw ((zand (zw (x0 - (zand (zushr x0 1) 1431655765))) 858993459) + (zand (zushr (zw (x0 - (zand (zushr x0 1) 1431655765))) 2) 858993459))) 4))) 252645135) + (zushr (zand (zw ((zw ((zand (zw (x0 - (zand (zushr x0 1) 1431655765))) 858993459) + (zand (zushr (zw (x0 - (zand (zushr x0 1) 1431655765))) 2) 858993459))) + (zushr (zw ((zand (zw (x0 - (zand (zushr x0 1) 1431655765))) 858993459) + (zand (zushr (zw (x0 - (zand (zushr x0 1) 1431655765))) 2) 858993459))) 4))) 252645135) 8))))]) (st' := [vI (zw ((zand (zw ((zw ((zand (zw (x0 - (zand (zushr x0 1) 1431655765))) 858993459) + (zand (zushr (zw (x0 - (zand (zushr x0 1) 1431655765))) 2) 858993459))) + (zushr (zw ((zand (zw (x0 - (zand (zushr x0 1) 1431655765))) 858993459) + (zand (zushr (zw (x0 - (zand (zushr x0 1) 1431655765))) 2) 858993459))) 4))) 252645135) + (zushr (zand (zw ((zw ((zand (zw (x0 - (zand (zushr x0 1) 1431655765))) 858993459) + (zand (zushr (zw (x0 - (zand (zushr x0 1) 1431655765))) 2) 858993459))) + (zushr (zw ((zand (zw (x0 - (zand (zushr x0 1) 1431655765))) 858993459) + (zand (zushr (zw (x0 - (zand (zushr x0 1) 1431655765))) 2) 858993459))) 4))) 252645135) 8)))]) (h' := h) f85_41 rfl ?_
  refine y_s (pc' := 43) (L' := [some (vI (zw ((zand (zw ((zw ((zand (zw (x0 - (zand (zushr x0 1) 1431655765))) 858993459) + (zand (zushr (zw (x0 - (zand (zushr x0 1) 1431655765))) 2) 858993459))) + (zushr (zw ((zand (zw (x0 - (zand (zushr x0 1) 1431655765))) 858993459) + (zand (zushr (zw (x0 - (zand (zushr x0 1) 1431655765))) 2) 858993459))) 4))) 252645135) + (zushr (zand (zw ((zw ((zand (zw (x0 - (zand (zushr x0 1) 1431655765))) 858993459) + (zand (zushr (zw (x0 - (zand (zushr x0 1) 1431655765))) 2) 858993459))) + (zushr (zw ((zand (zw (x0 - (zand (zushr x0 1) 1431655765))) 858993459) + (zand (zushr (zw (x0 - (zand (zushr x0 1) 1431655765))) 2) 858993459))) 4))) 252645135) 8))))]) (st' := [vI (zw ((zand (zw ((zw ((zand (zw (x0 - (zand (zushr x0 1) 1431655765))) 858993459) + (zand (zushr (zw (x0 - (zand (zushr x0 1) 1431655765))) 2) 858993459))) + (zushr (zw ((zand (zw (x0 - (zand (zushr x0 1) 1431655765))) 858993459) + (zand (zushr (zw (x0 - (zand (zushr x0 1) 1431655765))) 2) 858993459))) 4))) 252645135) + (zushr (zand (zw ((zw ((zand (zw (x0 - (zand (zushr x0 1) 1431655765))) 858993459) + (zand (zushr (zw (x0 - (zand (zushr x0 1) 1431655765))) 2) 858993459))) + (zushr (zw ((zand (zw (x0 - (zand (zushr x0 1) 1431655765))) 858993459) + (zand (zushr (zw (x0 - (zand (zushr x0 1) 1431655765))) 2) 858993459))) 4))) 252645135) 8))), vI (zw ((zand (zw ((zw ((zand (zw (x0 - (zand (zushr x0 1) 1431655765))) 858993459) + (zand (zushr (zw (x0 - (zand (zushr x0 1) 1431655765))) 2) 858993459))) + (zushr (zw ((zand (zw (x0 - (zand (zushr x0 1) 1431655765))) 858993459) + (zand (zushr (zw (x0 - (zand (zushr x0 1) 1431655765))) 2) 858993459))) 4))) 252645135) + (zushr (zand (zw ((zw ((zand (zw (x0 - (zand (zushr x0 1) 1431655765))) 858993459) + (zand (zushr (zw (x0 - (zand (zushr x0 1) 1431655765))) 2) 858993459))) + (zushr (zw ((zand (zw (x0 - (zand (zushr x0 1) 1431655765))) 858993459) + (zand (zushr (zw (x0 - (zand (zushr x0 1) 1431655765))) 2) 858993459))) 4))) 252645135) 8)))]) (h' := h) f85_42 rfl ?_
  refine y_s (pc' := 45) (L' := [some (vI (zw ((zand (zw ((zw ((zand (zw (x0 - (zand (zushr x0 1) 1431655765))) 858993459) + (zand (zushr (zw (x0 - (zand (zushr x0 1) 1431655765))) 2) 858993459))) + (zushr (zw ((zand (zw (x0 - (zand (zushr x0 1) 1431655765))) 858993459) + (zand (zushr (zw (x0 - (zand (zushr x0 1) 1431655765))) 2) 858993459))) 4))) 252645135) + (zushr (zand (zw ((zw ((zand (zw (x0 - (zand (zushr x0 1) 1431655765))) 858993459) + (zand (zushr (zw (x0 - (zand (zushr x0 1) 1431655765))) 2) 858993459))) + (zushr (zw ((zand (zw (x0 - (zand (zushr x0 1) 1431655765))) 858993459) + (zand (zushr (zw (x0 - (zand (zushr x0 1) 1431655765))) 2) 858993459))) 4))) 252645135) 8))))]) (st' := [vI 16, vI (zw ((zand (zw ((zw ((zand (zw (x0 - (zand (zushr x0 1) 1431655765))) 858993459) + (zand (zushr (zw (x0 - (zand (zushr x0 1) 1431655765))) 2) 858993459))) + (zushr (zw ((zand (zw (x0 - (zand (zushr x0 1) 1431655765))) 858993459) + (zand (zushr (zw (x0 - (zand (zushr x0 1) 1431655765))) 2) 858993459))) 4))) 252645135) + (zushr (zand (zw ((zw ((zand (zw (x0 - (zand (zushr x0 1) 1431655765))) 858993459) + (zand (zushr (zw (x0 - (zand (zushr x0 1) 1431655765))) 2) 858993459))) + (zushr (zw ((zand (zw (x0 - (zand (zushr x0 1) 1431655765))) 858993459) + (zand (zushr (zw (x0 - (zand (zushr x0 1) 1431655765))) 2) 858993459))) 4))) 252645135) 8))), vI (zw ((zand (zw ((zw ((zand (zw (x0 - (zand (zushr x0 1) 1431655765))) 858993459) + (zand (zushr (zw (x0 - (zand (zushr x0 1) 1431655765))) 2) 858993459))) + (zushr (zw ((zand (zw (x0 - (zand (zushr x0 1) 1431655765))) 858993459) + (zand (zushr (zw (x0 - (zand (zushr x0 1) 1431655765))) 2) 858993459))) 4))) 252645135) + (zushr (zand (zw ((zw ((zand (zw (x0 - (zand (zushr x0 1) 1431655765))) 858993459) + (zand (zushr (zw (x0 - (zand (zushr x0 1) 1431655765))) 2) 858993459))) + (zushr (zw ((zand (zw (x0 - (zand (zushr x0 1) 1431655765))) 858993459) + (zand (zushr (zw (x0 - (zand (zushr x0 1) 1431655765))) 2) 858993459))) 4))) 252645135) 8)))]) (h' := h) f85_43 rfl ?_
  refine y_s (pc' := 46) (L' := [some (vI (zw ((zand (zw ((zw ((zand (zw (x0 - (zand (zushr x0 1) 1431655765))) 858993459) + (zand (zushr (zw (x0 - (zand (zushr x0 1) 1431655765))) 2) 858993459))) + (zushr (zw ((zand (zw (x0 - (zand (zushr x0 1) 1431655765))) 858993459) + (zand (zushr (zw (x0 - (zand (zushr x0 1) 1431655765))) 2) 858993459))) 4))) 252645135) + (zushr (zand (zw ((zw ((zand (zw (x0 - (zand (zushr x0 1) 1431655765))) 858993459) + (zand (zushr (zw (x0 - (zand (zushr x0 1) 1431655765))) 2) 858993459))) + (zushr (zw ((zand (zw (x0 - (zand (zushr x0 1) 1431655765))) 858993459) + (zand (zushr (zw (x0 - (zand (zushr x0 1) 1431655765))) 2) 858993459))) 4))) 252645135) 8))))]) (st' := [vI (zushr (zw ((zand (zw ((zw ((zand (zw (x0 - (zand (zushr x0 1) 1431655765))) 858993459) + (zand (zushr (zw (x0 - (zand (zushr x0 1) 1431655765))) 2) 858993459))) + (zushr (zw ((zand (zw (x0 - (zand (zushr x0 1) 1431655765))) 858993459) + (zand (zushr (zw (x0 - (zand (zushr x0 1) 1431655765))) 2) 858993459))) 4))) 252645135) + (zushr (zand (zw ((zw ((zand (zw (x0 - (zand (zushr x0 1) 1431655765))) 858993459) + (zand (zushr (zw (x0 - (zand (zushr x0 1) 1431655765))) 2) 858993459))) + (zushr (zw ((zand (zw (x0 - (zand (zushr x0 1) 1431655765))) 858993459) + (zand (zushr (zw (x0 - (zand (zushr x0 1) 1431655765))) 2) 858993459))) 4))) 252645135) 8))) 16), vI (zw ((zand (zw ((zw ((zand (zw (x0 - (zand (zushr x0 1) 1431655765))) 858993459) + (zand (zushr (zw (x0 - (zand (zushr x0 1) 1431655765))) 2) 858993459))) + (zushr (zw ((zand (zw (x0 - (zand (zushr x0 1) 1431655765))) 858993459) + (zand (zushr (zw (x0 - (zand (zushr x0 1) 1431655765))) 2) 858993459))) 4))) 252645135) + (zushr (zand (zw ((zw ((zand (zw (x0 - (zand (zushr x0 1) 1431655765))) 858993459) + (zand (zushr (zw (x0 - (zand (zushr x0 1) 1431655765))) 2) 858993459))) + (zushr (zw ((zand (zw (x0 - (zand (zushr x0 1) 1431655765))) 858993459) + (zand (zushr (zw (x0 - (zand (zushr x0 1) 1431655765))) 2) 858993459))) 4))) 252645135) 8)))]) (h' := h) f85_45 rfl ?_
  refine y_s (pc' := 47) (L' := [some (vI (zw ((zand (zw ((zw ((zand (zw (x0 - (zand (zushr x0 1) 1431655765))) 858993459) + (zand (zushr (zw (x0 - (zand (zushr x0 1) 1431655765))) 2) 858993459))) + (zushr (zw ((zand (zw (x0 - (zand (zushr x0 1) 1431655765))) 858993459) + (zand (zushr (zw (x0 - (zand (zushr x0 1) 1431655765))) 2) 858993459))) 4))) 252645135) + (zushr (zand (zw ((zw ((zand (zw (x0 - (zand (zushr x0 1) 1431655765))) 858993459) + (zand (zushr (zw (x0 - (zand (zushr x0 1) 1431655765))) 2) 858993459))) + (zushr (zw ((zand (zw (x0 - (zand (zushr x0 1) 1431655765))) 858993459) + (zand (zushr (zw (x0 - (zand (zushr x0 1) 1431655765))) 2) 858993459))) 4))) 252645135) 8))))]) (st' := [vI (zw ((zw ((zand (zw ((zw ((zand (zw (x0 - (zand (zushr x0 1) 1431655765))) 858993459) + (zand (zushr (zw (x0 - (zand (zushr x0 1) 1431655765))) 2) 858993459))) + (zushr (zw ((zand (zw (x0 - (zand (zushr x0 1) 1431655765))) 858993459) + (zand (zushr (zw (x0 - (zand (zushr x0 1) 1431655765))) 2) 858993459))) 4))) 252645135) + (zushr (zand (zw ((zw ((zand (zw (x0 - (zand (zushr x0 1) 1431655765))) 858993459) + (zand (zushr (zw (x0 - (zand (zushr x0 1) 1431655765))) 2) 858993459))) + (zushr (zw ((zand (zw (x0 - (zand (zushr x0 1) 1431655765))) 858993459) + (zand (zushr (zw (x0 - (zand (zushr x0 1) 1431655765))) 2) 858993459))) 4))) 252645135) 8))) + (zushr (zw ((zand (zw ((zw ((zand (zw (x0 - (zand (zushr x0 1) 1431655765))) 858993459) + (zand (zushr (zw (x0 - (zand (zushr x0 1) 1431655765))) 2) 858993459))) + (zushr (zw ((zand (zw (x0 - (zand (zushr x0 1) 1431655765))) 858993459) + (zand (zushr (zw (x0 - (zand (zushr x0 1) 1431655765))) 2) 858993459))) 4))) 252645135) + (zushr (zand (zw ((zw ((zand (zw (x0 - (zand (zushr x0 1) 1431655765))) 858993459) + (zand (zushr (zw (x0 - (zand (zushr x0 1) 1431655765))) 2) 858993459))) + (zushr (zw ((zand (zw (x0 - (zand (zushr x0 1) 1431655765))) 858993459) + (zand (zushr (zw (x0 - (zand (zushr x0 1) 1431655765))) 2) 858993459))) 4))) 252645135) 8))) 16)))]) (h' := h) f85_46 rfl ?_
  refine y_sto (pc' := 48) (k := 0) (L' := [some (vI (zw ((zw ((zand (zw ((zw ((zand (zw (x0 - (zand (zushr x0 1) 1431655765))) 858993459) + (zand (zushr (zw (x0 - (zand (zushr x0 1) 1431655765))) 2) 858993459))) + (zushr (zw ((zand (zw (x0 - (zand (zushr x0 1) 1431655765))) 858993459) + (zand (zushr (zw (x0 - (zand (zushr x0 1) 1431655765))) 2) 858993459))) 4))) 252645135) + (zushr (zand (zw ((zw ((zand (zw (x0 - (zand (zushr x0 1) 1431655765))) 858993459) + (zand (zushr (zw (x0 - (zand (zushr x0 1) 1431655765))) 2) 858993459))) + (zushr (zw ((zand (zw (x0 - (zand (zushr x0 1) 1431655765))) 858993459) + (zand (zushr (zw (x0 - (zand (zushr x0 1) 1431655765))) 2) 858993459))) 4))) 252645135) 8))) + (zushr (zw ((zand (zw ((zw ((zand (zw (x0 - (zand (zushr x0 1) 1431655765))) 858993459) + (zand (zushr (zw (x0 - (zand (zushr x0 1) 1431655765))) 2) 858993459))) + (zushr (zw ((zand (zw (x0 - (zand (zushr x0 1) 1431655765))) 858993459) + (zand (zushr (zw (x0 - (zand (zushr x0 1) 1431655765))) 2) 858993459))) 4))) 252645135) + (zushr (zand (zw ((zw ((zand (zw (x0 - (zand (zushr x0 1) 1431655765))) 858993459) + (zand (zushr (zw (x0 - (zand (zushr x0 1) 1431655765))) 2) 858993459))) + (zushr (zw ((zand (zw (x0 - (zand (zushr x0 1) 1431655765))) 858993459) + (zand (zushr (zw (x0 - (zand (zushr x0 1) 1431655765))) 2) 858993459))) 4))) 252645135) 8))) 16))))]) f85_47 rfl rfl rfl rfl rfl rfl ?_
  refine y_s (pc' := 49) (L' := [some (vI (zw ((zw ((zand (zw ((zw ((zand (zw (x0 - (zand (zushr x0 1) 1431655765))) 858993459) + (zand (zushr (zw (x0 - (zand (zushr x0 1) 1431655765))) 2) 858993459))) + (zushr (zw ((zand (zw (x0 - (zand (zushr x0 1) 1431655765))) 858993459) + (zand (zushr (zw (x0 - (zand (zushr x0 1) 1431655765))) 2) 858993459))) 4))) 252645135) + (zushr (zand (zw ((zw ((zand (zw (x0 - (zand (zushr x0 1) 1431655765))) 858993459) + (zand (zushr (zw (x0 - (zand (zushr x0 1) 1431655765))) 2) 858993459))) + (zushr (zw ((zand (zw (x0 - (zand (zushr x0 1) 1431655765))) 858993459) + (zand (zushr (zw (x0 - (zand (zushr x0 1) 1431655765))) 2) 858993459))) 4))) 252645135) 8))) + (zushr (zw ((zand (zw ((zw ((zand (zw (x0 - (zand (zushr x0 1) 1431655765))) 858993459) + (zand (zushr (zw (x0 - (zand (zushr x0 1) 1431655765))) 2) 858993459))) + (zushr (zw ((zand (zw (x0 - (zand (zushr x0 1) 1431655765))) 858993459) + (zand (zushr (zw (x0 - (zand (zushr x0 1) 1431655765))) 2) 858993459))) 4))) 252645135) + (zushr (zand (zw ((zw ((zand (zw (x0 - (zand (zushr x0 1) 1431655765))) 858993459) + (zand (zushr (zw (x0 - (zand (zushr x0 1) 1431655765))) 2) 858993459))) + (zushr (zw ((zand (zw (x0 - (zand (zushr x0 1) 1431655765))) 858993459) + (zand (zushr (zw (x0 - (zand (zushr x0 1) 1431655765))) 2) 858993459))) 4))) 252645135) 8))) 16))))]) (st' := [vI (zw ((zw ((zand (zw ((zw ((zand (zw (x0 - (zand (zushr x0 1) 1431655765))) 858993459) + (zand (zushr (zw (x0 - (zand (zushr x0 1) 1431655765))) 2) 858993459))) + (zushr (zw ((zand (zw (x0 - (zand (zushr x0 1) 1431655765))) 858993459) + (zand (zushr (zw (x0 - (zand (zushr x0 1) 1431655765))) 2) 858993459))) 4))) 252645135) + (zushr (zand (zw ((zw ((zand (zw (x0 - (zand (zushr x0 1) 1431655765))) 858993459) + (zand (zushr (zw (x0 - (zand (zushr x0 1) 1431655765))) 2) 858993459))) + (zushr (zw ((zand (zw (x0 - (zand (zushr x0 1) 1431655765))) 858993459) + (zand (zushr (zw (x0 - (zand (zushr x0 1) 1431655765))) 2) 858993459))) 4))) 252645135) 8))) + (zushr (zw ((zand (zw ((zw ((zand (zw (x0 - (zand (zushr x0 1) 1431655765))) 858993459) + (zand (zushr (zw (x0 - (zand (zushr x0 1) 1431655765))) 2) 858993459))) + (zushr (zw ((zand (zw (x0 - (zand (zushr x0 1) 1431655765))) 858993459) + (zand (zushr (zw (x0 - (zand (zushr x0 1) 1431655765))) 2) 858993459))) 4))) 252645135) + (zushr (zand (zw ((zw ((zand (zw (x0 - (zand (zushr x0 1) 1431655765))) 858993459) + (zand (zushr (zw (x0 - (zand (zushr x0 1) 1431655765))) 2) 858993459))) + (zushr (zw ((zand (zw (x0 - (zand (zushr x0 1) 1431655765))) 858993459) + (zand (zushr (zw (x0 - (zand (zushr x0 1) 1431655765))) 2) 858993459))) 4))) 252645135) 8))) 16)))]) (h' := h) f85_48 rfl ?_
  refine y_s (pc' := 51) (L' := [some (vI (zw ((zw ((zand (zw ((zw ((zand (zw (x0 - (zand (zushr x0 1) 1431655765))) 858993459) + (zand (zushr (zw (x0 - (zand (zushr x0 1) 1431655765))) 2) 858993459))) + (zushr (zw ((zand (zw (x0 - (zand (zushr x0 1) 1431655765))) 858993459) + (zand (zushr (zw (x0 - (zand (zushr x0 1) 1431655765))) 2) 858993459))) 4))) 252645135) + (zushr (zand (zw ((zw ((zand (zw (x0 - (zand (zushr x0 1) 1431655765))) 858993459) + (zand (zushr (zw (x0 - (zand (zushr x0 1) 1431655765))) 2) 858993459))) + (zushr (zw ((zand (zw (x0 - (zand (zushr x0 1) 1431655765))) 858993459) + (zand (zushr (zw (x0 - (zand (zushr x0 1) 1431655765))) 2) 858993459))) 4))) 252645135) 8))) + (zushr (zw ((zand (zw ((zw ((zand (zw (x0 - (zand (zushr x0 1) 1431655765))) 858993459) + (zand (zushr (zw (x0 - (zand (zushr x0 1) 1431655765))) 2) 858993459))) + (zushr (zw ((zand (zw (x0 - (zand (zushr x0 1) 1431655765))) 858993459) + (zand (zushr (zw (x0 - (zand (zushr x0 1) 1431655765))) 2) 858993459))) 4))) 252645135) + (zushr (zand (zw ((zw ((zand (zw (x0 - (zand (zushr x0 1) 1431655765))) 858993459) + (zand (zushr (zw (x0 - (zand (zushr x0 1) 1431655765))) 2) 858993459))) + (zushr (zw ((zand (zw (x0 - (zand (zushr x0 1) 1431655765))) 858993459) + (zand (zushr (zw (x0 - (zand (zushr x0 1) 1431655765))) 2) 858993459))) 4))) 252645135) 8))) 16))))]) (st' := [vI 63, vI (zw ((zw ((zand (zw ((zw ((zand (zw (x0 - (zand (zushr x0 1) 1431655765))) 858993459) + (zand (zushr (zw (x0 - (zand (zushr x0 1) 1431655765))) 2) 858993459))) + (zushr (zw ((zand (zw (x0 - (zand (zushr x0 1) 1431655765))) 858993459) + (zand (zushr (zw (x0 - (zand (zushr x0 1) 1431655765))) 2) 858993459))) 4))) 252645135) + (zushr (zand (zw ((zw ((zand (zw (x0 - (zand (zushr x0 1) 1431655765))) 858993459) + (zand (zushr (zw (x0 - (zand (zushr x0 1) 1431655765))) 2) 858993459))) + (zushr (zw ((zand (zw (x0 - (zand (zushr x0 1) 1431655765))) 858993459) + (zand (zushr (zw (x0 - (zand (zushr x0 1) 1431655765))) 2) 858993459))) 4))) 252645135) 8))) + (zushr (zw ((zand (zw ((zw ((zand (zw (x0 - (zand (zushr x0 1) 1431655765))) 858993459) + (zand (zushr (zw (x0 - (zand (zushr x0 1) 1431655765))) 2) 858993459))) + (zushr (zw ((zand (zw (x0 - (zand (zushr x0 1) 1431655765))) 858993459) + (zand (zushr (zw (x0 - (zand (zushr x0 1) 1431655765))) 2) 858993459))) 4))) 252645135) + (zushr (zand (zw ((zw ((zand (zw (x0 - (zand (zushr x0 1) 1431655765))) 858993459) + (zand (zushr (zw (x0 - (zand (zushr x0 1) 1431655765))) 2) 858993459))) + (zushr (zw ((zand (zw (x0 - (zand (zushr x0 1) 1431655765))) 858993459) + (zand (zushr (zw (x0 - (zand (zushr x0 1) 1431655765))) 2) 858993459))) 4))) 252645135) 8))) 16)))]) (h' := h) f85_49 rfl ?_
  refine y_s (pc' := 52) (L' := [some (vI (zw ((zw ((zand (zw ((zw ((zand (zw (x0 - (zand (zushr x0 1) 1431655765))) 858993459) + (zand (zushr (zw (x0 - (zand (zushr x0 1) 1431655765))) 2) 858993459))) + (zushr (zw ((zand (zw (x0 - (zand (zushr x0 1) 1431655765))) 858993459) + (zand (zushr (zw (x0 - (zand (zushr x0 1) 1431655765))) 2) 858993459))) 4))) 252645135) + (zushr (zand (zw ((zw ((zand (zw (x0 - (zand (zushr x0 1) 1431655765))) 858993459) + (zand (zushr (zw (x0 - (zand (zushr x0 1) 1431655765))) 2) 858993459))) + (zushr (zw ((zand (zw (x0 - (zand (zushr x0 1) 1431655765))) 858993459) + (zand (zushr (zw (x0 - (zand (zushr x0 1) 1431655765))) 2) 858993459))) 4))) 252645135) 8))) + (zushr (zw ((zand (zw ((zw ((zand (zw (x0 - (zand (zushr x0 1) 1431655765))) 858993459) + (zand (zushr (zw (x0 - (zand (zushr x0 1) 1431655765))) 2) 858993459))) + (zushr (zw ((zand (zw (x0 - (zand (zushr x0 1) 1431655765))) 858993459) + (zand (zushr (zw (x0 - (zand (zushr x0 1) 1431655765))) 2) 858993459))) 4))) 252645135) + (zushr (zand (zw ((zw ((zand (zw (x0 - (zand (zushr x0 1) 1431655765))) 858993459) + (zand (zushr (zw (x0 - (zand (zushr x0 1) 1431655765))) 2) 858993459))) + (zushr (zw ((zand (zw (x0 - (zand (zushr x0 1) 1431655765))) 858993459) + (zand (zushr (zw (x0 - (zand (zushr x0 1) 1431655765))) 2) 858993459))) 4))) 252645135) 8))) 16))))]) (st' := [vI (zand (zw ((zw ((zand (zw ((zw ((zand (zw (x0 - (zand (zushr x0 1) 1431655765))) 858993459) + (zand (zushr (zw (x0 - (zand (zushr x0 1) 1431655765))) 2) 858993459))) + (zushr (zw ((zand (zw (x0 - (zand (zushr x0 1) 1431655765))) 858993459) + (zand (zushr (zw (x0 - (zand (zushr x0 1) 1431655765))) 2) 858993459))) 4))) 252645135) + (zushr (zand (zw ((zw ((zand (zw (x0 - (zand (zushr x0 1) 1431655765))) 858993459) + (zand (zushr (zw (x0 - (zand (zushr x0 1) 1431655765))) 2) 858993459))) + (zushr (zw ((zand (zw (x0 - (zand (zushr x0 1) 1431655765))) 858993459) + (zand (zushr (zw (x0 - (zand (zushr x0 1) 1431655765))) 2) 858993459))) 4))) 252645135) 8))) + (zushr (zw ((zand (zw ((zw ((zand (zw (x0 - (zand (zushr x0 1) 1431655765))) 858993459) + (zand (zushr (zw (x0 - (zand (zushr x0 1) 1431655765))) 2) 858993459))) + (zushr (zw ((zand (zw (x0 - (zand (zushr x0 1) 1431655765))) 858993459) + (zand (zushr (zw (x0 - (zand (zushr x0 1) 1431655765))) 2) 858993459))) 4))) 252645135) + (zushr (zand (zw ((zw ((zand (zw (x0 - (zand (zushr x0 1) 1431655765))) 858993459) + (zand (zushr (zw (x0 - (zand (zushr x0 1) 1431655765))) 2) 858993459))) + (zushr (zw ((zand (zw (x0 - (zand (zushr x0 1) 1431655765))) 858993459) + (zand (zushr (zw (x0 - (zand (zushr x0 1) 1431655765))) 2) 858993459))) 4))) 252645135) 8))) 16))) 63)]) (h' := h) f85_51 rfl ?_
  exact y_ri f85_52 ⟨rfl, k⟩
/-- HatterTunes.can(II)I -/
theorem E90 {d : Nat} {K : Int → Hp → Prop} (w : yWF zl nl h) {x0 : Int} {x1 : Int} (hd : 2 ≤ d) (k : ((((0 : Int) ≤ x0 ∧ x0 < zV h 33 10) → ((((0 : Int) ≤ x1 ∧ x1 < 2) → ZW d prog_1_method_21_code 7 28 [some (vR (some 32)), some (vI x0), some (vI x1), some (vI 0), some (vI (-5)), some (vI 9)] [] h (yq 1 (yqI K))) ∧ (¬ (((0 : Int) ≤ x1 ∧ x1 < 2)) → K (-1) h))) ∧ (¬ (((0 : Int) ≤ x0 ∧ x0 < zV h 33 10)) → K (-1) h))) : yI d 90 [vR (some 32), vI x0, vI x1] h K := by
  refine y_en (L := [some (vR (some 32)), some (vI x0), some (vI x1), none, none, none]) rfl rfl ?_
  refine y_s (pc' := 1) (L' := [some (vR (some 32)), some (vI x0), some (vI x1), none, none, none]) (st' := [vR (some 32)]) (h' := h) f90_0 rfl ?_
  refine y_s (pc' := 2) (L' := [some (vR (some 32)), some (vI x0), some (vI x1), none, none, none]) (st' := [vI x0, vR (some 32)]) (h' := h) f90_1 rfl ?_
  refine y_cI (pc' := 5) (as := [vR (some 32), vI x0]) (r := []) f90_2 (yzv ym_7_71 rfl (ys32 w) rfl rfl) (by omega) rfl ?_
  refine sp15 w (by omega) (fun c => ?_) (fun c => ?_)
  · replace k := k.1 c
    refine y_iff (pcT := 16) (pc' := 8) f90_5 rfl rfl rfl ?_
    refine y_s (pc' := 9) (L' := [some (vR (some 32)), some (vI x0), some (vI x1), none, none, none]) (st' := [vI x1]) (h' := h) f90_8 rfl ?_
    refine y_s (pc' := 10) (L' := [some (vR (some 32)), some (vI x0), some (vI x1), none, none, none]) (st' := [vI 2, vI x1]) (h' := h) f90_9 rfl ?_
    refine y_cI (pc' := 13) (as := [vI x1, vI 2]) (r := []) f90_10 rfl (by omega) rfl ?_
    refine sp10 w (fun c => ?_) (fun c => ?_)
    · replace k := k.1 c
      refine y_ift (pcT := 18) f90_13 rfl rfl ?_
      refine y_s (pc' := 19) (L' := [some (vR (some 32)), some (vI x0), some (vI x1), none, none, none]) (st' := [vI 0]) (h' := h) f90_18 rfl ?_
      refine y_sto (pc' := 20) (k := 3) (L' := [some (vR (some 32)), some (vI x0), some (vI x1), some (vI 0), none, none]) f90_19 rfl rfl rfl rfl rfl rfl ?_
      refine y_s (pc' := 22) (L' := [some (vR (some 32)), some (vI x0), some (vI x1), some (vI 0), none, none]) (st' := [vI (-5)]) (h' := h) f90_20 rfl ?_
      refine y_sto (pc' := 24) (k := 4) (L' := [some (vR (some 32)), some (vI x0), some (vI x1), some (vI 0), some (vI (-5)), none]) f90_22 rfl rfl rfl rfl rfl rfl ?_
      refine y_s (pc' := 26) (L' := [some (vR (some 32)), some (vI x0), some (vI x1), some (vI 0), some (vI (-5)), none]) (st' := [vI 9]) (h' := h) f90_24 rfl ?_
      refine y_sto (pc' := 28) (k := 5) (L' := [some (vR (some 32)), some (vI x0), some (vI x1), some (vI 0), some (vI (-5)), some (vI 9)]) f90_26 rfl rfl rfl rfl rfl rfl ?_
      exact k
    · replace k := k.2 c
      refine y_iff (pcT := 18) (pc' := 16) f90_13 rfl rfl rfl ?_
      refine y_s (pc' := 17) (L' := [some (vR (some 32)), some (vI x0), some (vI x1), none, none, none]) (st' := [vI (-1)]) (h' := h) f90_16 rfl ?_
      exact y_ri f90_17 ⟨rfl, k⟩
  · replace k := k.2 c
    refine y_ift (pcT := 16) f90_5 rfl rfl ?_
    refine y_s (pc' := 17) (L' := [some (vR (some 32)), some (vI x0), some (vI x1), none, none, none]) (st' := [vI (-1)]) (h' := h) f90_16 rfl ?_
    exact y_ri f90_17 ⟨rfl, k⟩
theorem W90_28 {d : Nat} {K : Int → Hp → Prop} (w : yWF zl nl h) {l1 : Int} {l2 : Int} {l3 : Int} {l4 : Int} {l5 : Int} (hd : 1 ≤ d) (k : ((l5 < 0 → ((l2 ≠ 0 → K l4 h) ∧ (¬ (l2 ≠ 0) → K l3 h))) ∧ (¬ (l5 < 0) → yU (d - 1) 28 [vR (some 52), vR (some 33)] h (fun h' => ZW d prog_1_method_21_code 7 44 [some (vR (some 32)), some (vI l1), some (vI l2), some (vI l3), some (vI l4), some (vI l5)] [] h' (yq 1 (yqI K)))))) : ZW d prog_1_method_21_code 7 28 [some (vR (some 32)), some (vI l1), some (vI l2), some (vI l3), some (vI l4), some (vI l5)] [] h (yq 1 (yqI K)) := by
  refine y_s (pc' := 30) (L' := [some (vR (some 32)), some (vI l1), some (vI l2), some (vI l3), some (vI l4), some (vI l5)]) (st' := [vI l5]) (h' := h) f90_28 rfl ?_
  refine y_if (pcT := 79) (pc' := 33) (P := l5 < 0) f90_30 rfl rfl rfl (fun c => ?_) (fun c => ?_)
  · replace k := k.1 c
    refine y_s (pc' := 80) (L' := [some (vR (some 32)), some (vI l1), some (vI l2), some (vI l3), some (vI l4), some (vI l5)]) (st' := [vI l2]) (h' := h) f90_79 rfl ?_
    refine y_if (pcT := 87) (pc' := 83) (P := l2 ≠ 0) f90_80 rfl rfl rfl (fun c => ?_) (fun c => ?_)
    · replace k := k.1 c
      refine y_s (pc' := 89) (L' := [some (vR (some 32)), some (vI l1), some (vI l2), some (vI l3), some (vI l4), some (vI l5)]) (st' := [vI l4]) (h' := h) f90_87 rfl ?_
      exact y_ri f90_89 ⟨rfl, k⟩
    · replace k := k.2 c
      refine y_s (pc' := 84) (L' := [some (vR (some 32)), some (vI l1), some (vI l2), some (vI l3), some (vI l4), some (vI l5)]) (st' := [vI l3]) (h' := h) f90_83 rfl ?_
      refine y_go (pc' := 89) f90_84 rfl ?_
      exact y_ri f90_89 ⟨rfl, k⟩
  · replace k := k.2 c
    refine y_s (pc' := 34) (L' := [some (vR (some 32)), some (vI l1), some (vI l2), some (vI l3), some (vI l4), some (vI l5)]) (st' := [vR (some 32)]) (h' := h) f90_33 rfl ?_
    refine y_gr (pc' := 37) f90_34 yf_7_18 rfl rfl (ys32 w) (yp32_1 w) rfl ?_
    refine y_s (pc' := 38) (L' := [some (vR (some 32)), some (vI l1), some (vI l2), some (vI l3), some (vI l4), some (vI l5)]) (st' := [vR (some 32), vR (some 52)]) (h' := h) f90_37 rfl ?_
    refine y_gr (pc' := 41) f90_38 yf_7_14 rfl rfl (ys32 w) (yp32_0 w) rfl ?_
    refine y_cU (pc' := 44) (as := [vR (some 52), vR (some 33)]) (r := []) f90_41 (yzv ym_7_114 rfl (ys52 w) rfl rfl) (by omega) rfl ?_
    exact k
theorem W90_44 {d : Nat} {K : Int → Hp → Prop} (w : yWF zl nl h) {l1 : Int} {l2 : Int} {l3 : Int} {l4 : Int} {l5 : Int} (hd : 1 ≤ d) (k : ((0 ≤ l1 ∧ l1 < 6) ∧ yI (d - 1) 36 [vR (some 52), vI l1] (zsetV h 54 (l1).toNat l5) (fun x h' => ZW d prog_1_method_21_code 7 63 [some (vR (some 32)), some (vI l1), some (vI l2), some (vI l3), some (vI l4), some (vI l5)] [vI x] h' (yq 1 (yqI K))))) : ZW d prog_1_method_21_code 7 44 [some (vR (some 32)), some (vI l1), some (vI l2), some (vI l3), some (vI l4), some (vI l5)] [] h (yq 1 (yqI K)) := by
  refine y_s (pc' := 45) (L' := [some (vR (some 32)), some (vI l1), some (vI l2), some (vI l3), some (vI l4), some (vI l5)]) (st' := [vR (some 32)]) (h' := h) f90_44 rfl ?_
  refine y_gr (pc' := 48) f90_45 yf_7_18 rfl rfl (ys32 w) (yp32_1 w) rfl ?_
  refine y_gr (pc' := 51) f90_48 yf_7_79 rfl rfl (ys52 w) (yp52_1 w) rfl ?_
  refine y_s (pc' := 52) (L' := [some (vR (some 32)), some (vI l1), some (vI l2), some (vI l3), some (vI l4), some (vI l5)]) (st' := [vI l1, vR (some 54)]) (h' := h) f90_51 rfl ?_
  refine y_s (pc' := 54) (L' := [some (vR (some 32)), some (vI l1), some (vI l2), some (vI l3), some (vI l4), some (vI l5)]) (st' := [vI l5, vI l1, vR (some 54)]) (h' := h) f90_52 rfl ?_
  refine y_is (pc' := 55) (h' := (zsetV h 54 (l1).toNat l5)) f90_54 (ys54 w) (by decide) k.1 rfl rfl ?_
  replace k := k.2
  refine y_s (pc' := 56) (L' := [some (vR (some 32)), some (vI l1), some (vI l2), some (vI l3), some (vI l4), some (vI l5)]) (st' := [vR (some 32)]) (h' := (zsetV h 54 (l1).toNat l5)) f90_55 rfl ?_
  refine y_gr (pc' := 59) f90_56 yf_7_18 rfl rfl (ys32 w) (yp32_1 w) rfl ?_
  refine y_s (pc' := 60) (L' := [some (vR (some 32)), some (vI l1), some (vI l2), some (vI l3), some (vI l4), some (vI l5)]) (st' := [vI l1, vR (some 52)]) (h' := (zsetV h 54 (l1).toNat l5)) f90_59 rfl ?_
  refine y_cI (pc' := 63) (as := [vR (some 52), vI l1]) (r := []) f90_60 (yzv ym_7_128 rfl (ys52 w) rfl rfl) (by omega) rfl ?_
  exact k
theorem W90_63 {d : Nat} {K : Int → Hp → Prop} (w : yWF zl nl h) {l1 : Int} {l2 : Int} {l3 : Int} {l4 : Int} {l5 : Int} {s0 : Int} (k : ((s0 = 0 → ZW d prog_1_method_21_code 7 28 [some (vR (some 32)), some (vI l1), some (vI l2), some (vI l3), some (vI l4), some (vI (zw (l5 + (-1))))] [] h (yq 1 (yqI K))) ∧ (¬ (s0 = 0) → ZW d prog_1_method_21_code 7 28 [some (vR (some 32)), some (vI l1), some (vI l2), some (vI (zw (l3 + 1))), some (vI l5), some (vI (zw (l5 + (-1))))] [] h (yq 1 (yqI K))))) : ZW d prog_1_method_21_code 7 63 [some (vR (some 32)), some (vI l1), some (vI l2), some (vI l3), some (vI l4), some (vI l5)] [vI s0] h (yq 1 (yqI K)) := by
  refine y_if (pcT := 73) (pc' := 66) (P := s0 = 0) f90_63 rfl rfl rfl (fun c => ?_) (fun c => ?_)
  · replace k := k.1 c
    refine y_inc (pc' := 76) (L' := [some (vR (some 32)), some (vI l1), some (vI l2), some (vI l3), some (vI l4), some (vI (zw (l5 + (-1))))]) f90_73 rfl rfl rfl rfl ?_
    refine y_go (pc' := 28) f90_76 rfl ?_
    exact k
  · replace k := k.2 c
    refine y_inc (pc' := 69) (L' := [some (vR (some 32)), some (vI l1), some (vI l2), some (vI (zw (l3 + 1))), some (vI l4), some (vI l5)]) f90_66 rfl rfl rfl rfl ?_
    refine y_s (pc' := 71) (L' := [some (vR (some 32)), some (vI l1), some (vI l2), some (vI (zw (l3 + 1))), some (vI l4), some (vI l5)]) (st' := [vI l5]) (h' := h) f90_69 rfl ?_
    refine y_sto (pc' := 73) (k := 4) (L' := [some (vR (some 32)), some (vI l1), some (vI l2), some (vI (zw (l3 + 1))), some (vI l5), some (vI l5)]) f90_71 rfl rfl rfl rfl rfl rfl ?_
    refine y_inc (pc' := 76) (L' := [some (vR (some 32)), some (vI l1), some (vI l2), some (vI (zw (l3 + 1))), some (vI l5), some (vI (zw (l5 + (-1))))]) f90_73 rfl rfl rfl rfl ?_
    refine y_go (pc' := 28) f90_76 rfl ?_
    exact k
/-- HatterTunes.odds(II)J -/
theorem E91 {d : Nat} {K : Int64 → Hp → Prop} (w : yWF zl nl h) {x0 : Int} {x1 : Int} (hd : 2 ≤ d) (k : ((((0 : Int) ≤ x0 ∧ x0 < zV h 33 10) → ((((0 : Int) ≤ x1 ∧ x1 < 2) → yI (d - 1) 92 [vR (some 32), vI x0] h (fun x h' => ZW d prog_1_method_22_code 7 25 [some (vR (some 32)), some (vI x0), some (vI x1)] [vI x] h' (yq 4 (yqJ K)))) ∧ (¬ (((0 : Int) ≤ x1 ∧ x1 < 2)) → K (-9223372036854775808 : Int64) h))) ∧ (¬ (((0 : Int) ≤ x0 ∧ x0 < zV h 33 10)) → K (-9223372036854775808 : Int64) h))) : yJ d 91 [vR (some 32), vI x0, vI x1] h K := by
  refine y_en (L := [some (vR (some 32)), some (vI x0), some (vI x1)]) rfl rfl ?_
  refine y_s (pc' := 1) (L' := [some (vR (some 32)), some (vI x0), some (vI x1)]) (st' := [vR (some 32)]) (h' := h) f91_0 rfl ?_
  refine y_s (pc' := 2) (L' := [some (vR (some 32)), some (vI x0), some (vI x1)]) (st' := [vI x0, vR (some 32)]) (h' := h) f91_1 rfl ?_
  refine y_cI (pc' := 5) (as := [vR (some 32), vI x0]) (r := []) f91_2 (yzv ym_7_71 rfl (ys32 w) rfl rfl) (by omega) rfl ?_
  refine sp15 w (by omega) (fun c => ?_) (fun c => ?_)
  · replace k := k.1 c
    refine y_iff (pcT := 16) (pc' := 8) f91_5 rfl rfl rfl ?_
    refine y_s (pc' := 9) (L' := [some (vR (some 32)), some (vI x0), some (vI x1)]) (st' := [vI x1]) (h' := h) f91_8 rfl ?_
    refine y_s (pc' := 10) (L' := [some (vR (some 32)), some (vI x0), some (vI x1)]) (st' := [vI 2, vI x1]) (h' := h) f91_9 rfl ?_
    refine y_cI (pc' := 13) (as := [vI x1, vI 2]) (r := []) f91_10 rfl (by omega) rfl ?_
    refine sp10 w (fun c => ?_) (fun c => ?_)
    · replace k := k.1 c
      refine y_ift (pcT := 20) f91_13 rfl rfl ?_
      refine y_s (pc' := 21) (L' := [some (vR (some 32)), some (vI x0), some (vI x1)]) (st' := [vR (some 32)]) (h' := h) f91_20 rfl ?_
      refine y_s (pc' := 22) (L' := [some (vR (some 32)), some (vI x0), some (vI x1)]) (st' := [vI x0, vR (some 32)]) (h' := h) f91_21 rfl ?_
      refine y_cI (pc' := 25) (as := [vR (some 32), vI x0]) (r := []) f91_22 (yzv ym_7_208 rfl (ys32 w) rfl rfl) (by omega) rfl ?_
      exact k
    · replace k := k.2 c
      refine y_iff (pcT := 20) (pc' := 16) f91_13 rfl rfl rfl ?_
      refine y_s (pc' := 19) (L' := [some (vR (some 32)), some (vI x0), some (vI x1)]) (st' := [vJ (-9223372036854775808 : Int64)]) (h' := h) f91_16 rfl ?_
      exact y_rj f91_19 ⟨rfl, k⟩
  · replace k := k.2 c
    refine y_ift (pcT := 16) f91_5 rfl rfl ?_
    refine y_s (pc' := 19) (L' := [some (vR (some 32)), some (vI x0), some (vI x1)]) (st' := [vJ (-9223372036854775808 : Int64)]) (h' := h) f91_16 rfl ?_
    exact y_rj f91_19 ⟨rfl, k⟩
theorem W91_25 {d : Nat} {K : Int64 → Hp → Prop} (w : yWF zl nl h) {l1 : Int} {l2 : Int} {s0 : Int} (hd : 1 ≤ d) (k : yJ (d - 1) 93 [vI s0, vI 60, vI l2] h (fun x h' => ZW d prog_1_method_22_code 7 31 [some (vR (some 32)), some (vI l1), some (vI l2)] [vJ x] h' (yq 4 (yqJ K)))) : ZW d prog_1_method_22_code 7 25 [some (vR (some 32)), some (vI l1), some (vI l2)] [vI s0] h (yq 4 (yqJ K)) := by
  refine y_s (pc' := 27) (L' := [some (vR (some 32)), some (vI l1), some (vI l2)]) (st' := [vI 60, vI s0]) (h' := h) f91_25 rfl ?_
  refine y_s (pc' := 28) (L' := [some (vR (some 32)), some (vI l1), some (vI l2)]) (st' := [vI l2, vI 60, vI s0]) (h' := h) f91_27 rfl ?_
  refine y_cJ (pc' := 31) (as := [vI s0, vI 60, vI l2]) (r := []) f91_28 rfl (by omega) rfl ?_
  exact k
theorem W91_31 {d : Nat} {K : Int64 → Hp → Prop} (w : yWF zl nl h) {l1 : Int} {l2 : Int} {s0 : Int64} (k : K s0 h) : ZW d prog_1_method_22_code 7 31 [some (vR (some 32)), some (vI l1), some (vI l2)] [vJ s0] h (yq 4 (yqJ K)) := by
  exact y_rj f91_31 ⟨rfl, k⟩
/-- HatterTunes.pressesHeard(I)I -/
theorem E92 {d : Nat} {K : Int → Hp → Prop} (w : yWF zl nl h) {x0 : Int} (hd : 1 ≤ d) (k : yU (d - 1) 28 [vR (some 52), vR (some 33)] h (fun h' => ZW d prog_1_method_23_code 7 13 [some (vR (some 32)), some (vI x0), some (vI 0), none] [] h' (yq 1 (yqI K)))) : yI d 92 [vR (some 32), vI x0] h K := by
  refine y_en (L := [some (vR (some 32)), some (vI x0), none, none]) rfl rfl ?_
  refine y_s (pc' := 1) (L' := [some (vR (some 32)), some (vI x0), none, none]) (st' := [vI 0]) (h' := h) f92_0 rfl ?_
  refine y_sto (pc' := 2) (k := 2) (L' := [some (vR (some 32)), some (vI x0), some (vI 0), none]) f92_1 rfl rfl rfl rfl rfl rfl ?_
  refine y_s (pc' := 3) (L' := [some (vR (some 32)), some (vI x0), some (vI 0), none]) (st' := [vR (some 32)]) (h' := h) f92_2 rfl ?_
  refine y_gr (pc' := 6) f92_3 yf_7_18 rfl rfl (ys32 w) (yp32_1 w) rfl ?_
  refine y_s (pc' := 7) (L' := [some (vR (some 32)), some (vI x0), some (vI 0), none]) (st' := [vR (some 32), vR (some 52)]) (h' := h) f92_6 rfl ?_
  refine y_gr (pc' := 10) f92_7 yf_7_14 rfl rfl (ys32 w) (yp32_0 w) rfl ?_
  refine y_cU (pc' := 13) (as := [vR (some 52), vR (some 33)]) (r := []) f92_10 (yzv ym_7_114 rfl (ys52 w) rfl rfl) (by omega) rfl ?_
  exact k
theorem W92_13 {d : Nat} {K : Int → Hp → Prop} (w : yWF zl nl h) {l1 : Int} {l2 : Int} (k : ZW d prog_1_method_23_code 7 15 [some (vR (some 32)), some (vI l1), some (vI l2), some (vI 0)] [] h (yq 1 (yqI K))) : ZW d prog_1_method_23_code 7 13 [some (vR (some 32)), some (vI l1), some (vI l2), none] [] h (yq 1 (yqI K)) := by
  refine y_s (pc' := 14) (L' := [some (vR (some 32)), some (vI l1), some (vI l2), none]) (st' := [vI 0]) (h' := h) f92_13 rfl ?_
  refine y_sto (pc' := 15) (k := 3) (L' := [some (vR (some 32)), some (vI l1), some (vI l2), some (vI 0)]) f92_14 rfl rfl rfl rfl rfl rfl ?_
  exact k
theorem W92_15 {d : Nat} {K : Int → Hp → Prop} (w : yWF zl nl h) {l1 : Int} {l2 : Int} {l3 : Int} (hd : 1 ≤ d) (k : ((60 ≤ l3 → K l2 h) ∧ (¬ (60 ≤ l3) → yI (d - 1) 33 [vR (some 32), vI l1, vI l3] h (fun x h' => ZW d prog_1_method_23_code 7 27 [some (vR (some 32)), some (vI l1), some (vI l2), some (vI l3)] [vI x] h' (yq 1 (yqI K)))))) : ZW d prog_1_method_23_code 7 15 [some (vR (some 32)), some (vI l1), some (vI l2), some (vI l3)] [] h (yq 1 (yqI K)) := by
  refine y_s (pc' := 16) (L' := [some (vR (some 32)), some (vI l1), some (vI l2), some (vI l3)]) (st' := [vI l3]) (h' := h) f92_15 rfl ?_
  refine y_s (pc' := 18) (L' := [some (vR (some 32)), some (vI l1), some (vI l2), some (vI l3)]) (st' := [vI 60, vI l3]) (h' := h) f92_16 rfl ?_
  refine y_ic (pcT := 39) (pc' := 21) (P := 60 ≤ l3) f92_18 rfl rfl rfl (fun c => ?_) (fun c => ?_)
  · replace k := k.1 c
    refine y_s (pc' := 40) (L' := [some (vR (some 32)), some (vI l1), some (vI l2), some (vI l3)]) (st' := [vI l2]) (h' := h) f92_39 rfl ?_
    exact y_ri f92_40 ⟨rfl, k⟩
  · replace k := k.2 c
    refine y_s (pc' := 22) (L' := [some (vR (some 32)), some (vI l1), some (vI l2), some (vI l3)]) (st' := [vR (some 32)]) (h' := h) f92_21 rfl ?_
    refine y_s (pc' := 23) (L' := [some (vR (some 32)), some (vI l1), some (vI l2), some (vI l3)]) (st' := [vI l1, vR (some 32)]) (h' := h) f92_22 rfl ?_
    refine y_s (pc' := 24) (L' := [some (vR (some 32)), some (vI l1), some (vI l2), some (vI l3)]) (st' := [vI l3, vI l1, vR (some 32)]) (h' := h) f92_23 rfl ?_
    refine y_cI (pc' := 27) (as := [vR (some 32), vI l1, vI l3]) (r := []) f92_24 (yzv ym_7_121 rfl (ys32 w) rfl rfl) (by omega) rfl ?_
    exact k
theorem W92_27 {d : Nat} {K : Int → Hp → Prop} (w : yWF zl nl h) {l1 : Int} {l2 : Int} {l3 : Int} {s0 : Int} (k : ((s0 = 0 → ZW d prog_1_method_23_code 7 15 [some (vR (some 32)), some (vI l1), some (vI l2), some (vI (zw (l3 + 1)))] [] h (yq 1 (yqI K))) ∧ (¬ (s0 = 0) → ZW d prog_1_method_23_code 7 15 [some (vR (some 32)), some (vI l1), some (vI (zw (l2 + 1))), some (vI (zw (l3 + 1)))] [] h (yq 1 (yqI K))))) : ZW d prog_1_method_23_code 7 27 [some (vR (some 32)), some (vI l1), some (vI l2), some (vI l3)] [vI s0] h (yq 1 (yqI K)) := by
  refine y_if (pcT := 33) (pc' := 30) (P := s0 = 0) f92_27 rfl rfl rfl (fun c => ?_) (fun c => ?_)
  · replace k := k.1 c
    refine y_inc (pc' := 36) (L' := [some (vR (some 32)), some (vI l1), some (vI l2), some (vI (zw (l3 + 1)))]) f92_33 rfl rfl rfl rfl ?_
    refine y_go (pc' := 15) f92_36 rfl ?_
    exact k
  · replace k := k.2 c
    refine y_inc (pc' := 33) (L' := [some (vR (some 32)), some (vI l1), some (vI (zw (l2 + 1))), some (vI l3)]) f92_30 rfl rfl rfl rfl ?_
    refine y_inc (pc' := 36) (L' := [some (vR (some 32)), some (vI l1), some (vI (zw (l2 + 1))), some (vI (zw (l3 + 1)))]) f92_33 rfl rfl rfl rfl ?_
    refine y_go (pc' := 15) f92_36 rfl ?_
    exact k
/-- HatterTunes.lowestTerm(III)J -/
theorem E93 {d : Nat} {K : Int64 → Hp → Prop} (w : yWF zl nl h) {x0 : Int} {x1 : Int} {x2 : Int} (hd : 1 ≤ d) (k : yI (d - 1) 94 [vI x0, vI x1] h (fun x h' => ZW d prog_1_method_25_code 7 5 [some (vI x0), some (vI x1), some (vI x2), none, none] [vI x] h' (yq 4 (yqJ K)))) : yJ d 93 [vI x0, vI x1, vI x2] h K := by
  refine y_en (L := [some (vI x0), some (vI x1), some (vI x2), none, none]) rfl rfl ?_
  refine y_s (pc' := 1) (L' := [some (vI x0), some (vI x1), some (vI x2), none, none]) (st' := [vI x0]) (h' := h) f93_0 rfl ?_
  refine y_s (pc' := 2) (L' := [some (vI x0), some (vI x1), some (vI x2), none, none]) (st' := [vI x1, vI x0]) (h' := h) f93_1 rfl ?_
  refine y_cI (pc' := 5) (as := [vI x0, vI x1]) (r := []) f93_2 rfl (by omega) rfl ?_
  exact k
theorem W93_5 {d : Nat} {K : Int64 → Hp → Prop} (w : yWF zl nl h) {l0 : Int} {l1 : Int} {l2 : Int} {s0 : Int} (k : ((l2 ≠ 0 → ((s0 ≠ 0 → (s0 ≠ 0 ∧ K ((zi (zdiv l1 s0)).toInt64) h)) ∧ (¬ (s0 ≠ 0) → K ((zi l1).toInt64) h))) ∧ (¬ (l2 ≠ 0) → ((s0 ≠ 0 → (s0 ≠ 0 ∧ K ((zi (zdiv l0 s0)).toInt64) h)) ∧ (¬ (s0 ≠ 0) → K ((zi l0).toInt64) h))))) : ZW d prog_1_method_25_code 7 5 [some (vI l0), some (vI l1), some (vI l2), none, none] [vI s0] h (yq 4 (yqJ K)) := by
  refine y_sto (pc' := 6) (k := 3) (L' := [some (vI l0), some (vI l1), some (vI l2), some (vI s0), none]) f93_5 rfl rfl rfl rfl rfl rfl ?_
  refine y_s (pc' := 7) (L' := [some (vI l0), some (vI l1), some (vI l2), some (vI s0), none]) (st' := [vI l2]) (h' := h) f93_6 rfl ?_
  refine y_if (pcT := 14) (pc' := 10) (P := l2 ≠ 0) f93_7 rfl rfl rfl (fun c => ?_) (fun c => ?_)
  · replace k := k.1 c
    refine y_s (pc' := 15) (L' := [some (vI l0), some (vI l1), some (vI l2), some (vI s0), none]) (st' := [vI l1]) (h' := h) f93_14 rfl ?_
    refine y_sto (pc' := 17) (k := 4) (L' := [some (vI l0), some (vI l1), some (vI l2), some (vI s0), some (vI l1)]) f93_15 rfl rfl rfl rfl rfl rfl ?_
    refine y_s (pc' := 18) (L' := [some (vI l0), some (vI l1), some (vI l2), some (vI s0), some (vI l1)]) (st' := [vI s0]) (h' := h) f93_17 rfl ?_
    refine y_if (pcT := 27) (pc' := 21) (P := s0 ≠ 0) f93_18 rfl rfl rfl (fun c => ?_) (fun c => ?_)
    · replace k := k.1 c
      refine y_s (pc' := 29) (L' := [some (vI l0), some (vI l1), some (vI l2), some (vI s0), some (vI l1)]) (st' := [vI l1]) (h' := h) f93_27 rfl ?_
      refine y_s (pc' := 30) (L' := [some (vI l0), some (vI l1), some (vI l2), some (vI s0), some (vI l1)]) (st' := [vI s0, vI l1]) (h' := h) f93_29 rfl ?_
      refine y_dv (pc' := 31) f93_30 k.1 rfl ?_
      replace k := k.2
      refine y_s (pc' := 32) (L' := [some (vI l0), some (vI l1), some (vI l2), some (vI s0), some (vI l1)]) (st' := [vJ ((zi (zdiv l1 s0)).toInt64)]) (h' := h) f93_31 rfl ?_
      exact y_rj f93_32 ⟨rfl, k⟩
    · replace k := k.2 c
      refine y_s (pc' := 23) (L' := [some (vI l0), some (vI l1), some (vI l2), some (vI s0), some (vI l1)]) (st' := [vI l1]) (h' := h) f93_21 rfl ?_
      refine y_s (pc' := 24) (L' := [some (vI l0), some (vI l1), some (vI l2), some (vI s0), some (vI l1)]) (st' := [vJ ((zi l1).toInt64)]) (h' := h) f93_23 rfl ?_
      refine y_go (pc' := 32) f93_24 rfl ?_
      exact y_rj f93_32 ⟨rfl, k⟩
  · replace k := k.2 c
    refine y_s (pc' := 11) (L' := [some (vI l0), some (vI l1), some (vI l2), some (vI s0), none]) (st' := [vI l0]) (h' := h) f93_10 rfl ?_
    refine y_go (pc' := 15) f93_11 rfl ?_
    refine y_sto (pc' := 17) (k := 4) (L' := [some (vI l0), some (vI l1), some (vI l2), some (vI s0), some (vI l0)]) f93_15 rfl rfl rfl rfl rfl rfl ?_
    refine y_s (pc' := 18) (L' := [some (vI l0), some (vI l1), some (vI l2), some (vI s0), some (vI l0)]) (st' := [vI s0]) (h' := h) f93_17 rfl ?_
    refine y_if (pcT := 27) (pc' := 21) (P := s0 ≠ 0) f93_18 rfl rfl rfl (fun c => ?_) (fun c => ?_)
    · replace k := k.1 c
      refine y_s (pc' := 29) (L' := [some (vI l0), some (vI l1), some (vI l2), some (vI s0), some (vI l0)]) (st' := [vI l0]) (h' := h) f93_27 rfl ?_
      refine y_s (pc' := 30) (L' := [some (vI l0), some (vI l1), some (vI l2), some (vI s0), some (vI l0)]) (st' := [vI s0, vI l0]) (h' := h) f93_29 rfl ?_
      refine y_dv (pc' := 31) f93_30 k.1 rfl ?_
      replace k := k.2
      refine y_s (pc' := 32) (L' := [some (vI l0), some (vI l1), some (vI l2), some (vI s0), some (vI l0)]) (st' := [vJ ((zi (zdiv l0 s0)).toInt64)]) (h' := h) f93_31 rfl ?_
      exact y_rj f93_32 ⟨rfl, k⟩
    · replace k := k.2 c
      refine y_s (pc' := 23) (L' := [some (vI l0), some (vI l1), some (vI l2), some (vI s0), some (vI l0)]) (st' := [vI l0]) (h' := h) f93_21 rfl ?_
      refine y_s (pc' := 24) (L' := [some (vI l0), some (vI l1), some (vI l2), some (vI s0), some (vI l0)]) (st' := [vJ ((zi l0).toInt64)]) (h' := h) f93_23 rfl ?_
      refine y_go (pc' := 32) f93_24 rfl ?_
      exact y_rj f93_32 ⟨rfl, k⟩
/-- HatterTunes.mean(II)J -/
theorem E95 {d : Nat} {K : Int64 → Hp → Prop} (w : yWF zl nl h) {x0 : Int} {x1 : Int} (hd : 1 ≤ d) (k : ((((0 : Int) ≤ x0 ∧ x0 < 61) → ((((0 : Int) ≤ x1 ∧ x1 < 2) → (((zV h 33 10) ≠ 0 → yU (d - 1) 28 [vR (some 52), vR (some 33)] h (fun h' => ZW d prog_1_method_24_code 7 42 [some (vR (some 32)), some (vI x0), some (vI x1)] [] h' (yq 4 (yqJ K)))) ∧ (¬ ((zV h 33 10) ≠ 0) → K (-9223372036854775808 : Int64) h))) ∧ (¬ (((0 : Int) ≤ x1 ∧ x1 < 2)) → K (-9223372036854775808 : Int64) h))) ∧ (¬ (((0 : Int) ≤ x0 ∧ x0 < 61)) → K (-9223372036854775808 : Int64) h))) : yJ d 95 [vR (some 32), vI x0, vI x1] h K := by
  refine y_en (L := [some (vR (some 32)), some (vI x0), some (vI x1)]) rfl rfl ?_
  refine y_s (pc' := 1) (L' := [some (vR (some 32)), some (vI x0), some (vI x1)]) (st' := [vI x0]) (h' := h) f95_0 rfl ?_
  refine y_s (pc' := 3) (L' := [some (vR (some 32)), some (vI x0), some (vI x1)]) (st' := [vI 61, vI x0]) (h' := h) f95_1 rfl ?_
  refine y_cI (pc' := 6) (as := [vI x0, vI 61]) (r := []) f95_3 rfl (by omega) rfl ?_
  refine sp10 w (fun c => ?_) (fun c => ?_)
  · replace k := k.1 c
    refine y_iff (pcT := 27) (pc' := 9) f95_6 rfl rfl rfl ?_
    refine y_s (pc' := 10) (L' := [some (vR (some 32)), some (vI x0), some (vI x1)]) (st' := [vI x1]) (h' := h) f95_9 rfl ?_
    refine y_s (pc' := 11) (L' := [some (vR (some 32)), some (vI x0), some (vI x1)]) (st' := [vI 2, vI x1]) (h' := h) f95_10 rfl ?_
    refine y_cI (pc' := 14) (as := [vI x1, vI 2]) (r := []) f95_11 rfl (by omega) rfl ?_
    refine sp10 w (fun c => ?_) (fun c => ?_)
    · replace k := k.1 c
      refine y_iff (pcT := 27) (pc' := 17) f95_14 rfl rfl rfl ?_
      refine y_s (pc' := 18) (L' := [some (vR (some 32)), some (vI x0), some (vI x1)]) (st' := [vR (some 32)]) (h' := h) f95_17 rfl ?_
      refine y_gr (pc' := 21) f95_18 yf_7_14 rfl rfl (ys32 w) (yp32_0 w) rfl ?_
      refine y_gi (pc' := 24) f95_21 yf_7_63 rfl rfl (ys33 w) rfl ?_
      refine y_if (pcT := 31) (pc' := 27) (P := (zV h 33 10) ≠ 0) f95_24 rfl rfl rfl (fun c => ?_) (fun c => ?_)
      · replace k := k.1 c
        refine y_s (pc' := 32) (L' := [some (vR (some 32)), some (vI x0), some (vI x1)]) (st' := [vR (some 32)]) (h' := h) f95_31 rfl ?_
        refine y_gr (pc' := 35) f95_32 yf_7_18 rfl rfl (ys32 w) (yp32_1 w) rfl ?_
        refine y_s (pc' := 36) (L' := [some (vR (some 32)), some (vI x0), some (vI x1)]) (st' := [vR (some 32), vR (some 52)]) (h' := h) f95_35 rfl ?_
        refine y_gr (pc' := 39) f95_36 yf_7_14 rfl rfl (ys32 w) (yp32_0 w) rfl ?_
        refine y_cU (pc' := 42) (as := [vR (some 52), vR (some 33)]) (r := []) f95_39 (yzv ym_7_114 rfl (ys52 w) rfl rfl) (by omega) rfl ?_
        exact k
      · replace k := k.2 c
        refine y_s (pc' := 30) (L' := [some (vR (some 32)), some (vI x0), some (vI x1)]) (st' := [vJ (-9223372036854775808 : Int64)]) (h' := h) f95_27 rfl ?_
        exact y_rj f95_30 ⟨rfl, k⟩
    · replace k := k.2 c
      refine y_ift (pcT := 27) f95_14 rfl rfl ?_
      refine y_s (pc' := 30) (L' := [some (vR (some 32)), some (vI x0), some (vI x1)]) (st' := [vJ (-9223372036854775808 : Int64)]) (h' := h) f95_27 rfl ?_
      exact y_rj f95_30 ⟨rfl, k⟩
  · replace k := k.2 c
    refine y_ift (pcT := 27) f95_6 rfl rfl ?_
    refine y_s (pc' := 30) (L' := [some (vR (some 32)), some (vI x0), some (vI x1)]) (st' := [vJ (-9223372036854775808 : Int64)]) (h' := h) f95_27 rfl ?_
    exact y_rj f95_30 ⟨rfl, k⟩
theorem W95_42 {d : Nat} {K : Int64 → Hp → Prop} (w : yWF zl nl h) {l1 : Int} {l2 : Int} (hd : 1 ≤ d) (k : yU (d - 1) 79 [vR (some 52), vI l1] h (fun h' => ZW d prog_1_method_24_code 7 50 [some (vR (some 32)), some (vI l1), some (vI l2)] [] h' (yq 4 (yqJ K)))) : ZW d prog_1_method_24_code 7 42 [some (vR (some 32)), some (vI l1), some (vI l2)] [] h (yq 4 (yqJ K)) := by
  refine y_s (pc' := 43) (L' := [some (vR (some 32)), some (vI l1), some (vI l2)]) (st' := [vR (some 32)]) (h' := h) f95_42 rfl ?_
  refine y_gr (pc' := 46) f95_43 yf_7_18 rfl rfl (ys32 w) (yp32_1 w) rfl ?_
  refine y_s (pc' := 47) (L' := [some (vR (some 32)), some (vI l1), some (vI l2)]) (st' := [vI l1, vR (some 52)]) (h' := h) f95_46 rfl ?_
  refine y_cU (pc' := 50) (as := [vR (some 52), vI l1]) (r := []) f95_47 (yzv ym_7_182 rfl (ys52 w) rfl rfl) (by omega) rfl ?_
  exact k
theorem W95_50 {d : Nat} {K : Int64 → Hp → Prop} (w : yWF zl nl h) {l1 : Int} {l2 : Int} (hd : 1 ≤ d) (k : yI (d - 1) 77 [vR (some 52)] h (fun x h' => ZW d prog_1_method_24_code 7 57 [some (vR (some 32)), some (vI l1), some (vI l2)] [vI x] h' (yq 4 (yqJ K)))) : ZW d prog_1_method_24_code 7 50 [some (vR (some 32)), some (vI l1), some (vI l2)] [] h (yq 4 (yqJ K)) := by
  refine y_s (pc' := 51) (L' := [some (vR (some 32)), some (vI l1), some (vI l2)]) (st' := [vR (some 32)]) (h' := h) f95_50 rfl ?_
  refine y_gr (pc' := 54) f95_51 yf_7_18 rfl rfl (ys32 w) (yp32_1 w) rfl ?_
  refine y_cI (pc' := 57) (as := [vR (some 52)]) (r := []) f95_54 (yzv ym_7_175 rfl (ys52 w) rfl rfl) (by omega) rfl ?_
  exact k
theorem W95_57 {d : Nat} {K : Int64 → Hp → Prop} (w : yWF zl nl h) {l1 : Int} {l2 : Int} {s0 : Int} (hd : 1 ≤ d) (k : yJ (d - 1) 93 [vI s0, vI (zw ((zV h 33 10) * 6)), vI l2] h (fun x h' => ZW d prog_1_method_24_code 7 71 [some (vR (some 32)), some (vI l1), some (vI l2)] [vJ x] h' (yq 4 (yqJ K)))) : ZW d prog_1_method_24_code 7 57 [some (vR (some 32)), some (vI l1), some (vI l2)] [vI s0] h (yq 4 (yqJ K)) := by
  refine y_s (pc' := 58) (L' := [some (vR (some 32)), some (vI l1), some (vI l2)]) (st' := [vR (some 32), vI s0]) (h' := h) f95_57 rfl ?_
  refine y_gr (pc' := 61) f95_58 yf_7_14 rfl rfl (ys32 w) (yp32_0 w) rfl ?_
  refine y_gi (pc' := 64) f95_61 yf_7_63 rfl rfl (ys33 w) rfl ?_
  refine y_s (pc' := 66) (L' := [some (vR (some 32)), some (vI l1), some (vI l2)]) (st' := [vI 6, vI (zV h 33 10), vI s0]) (h' := h) f95_64 rfl ?_
  refine y_s (pc' := 67) (L' := [some (vR (some 32)), some (vI l1), some (vI l2)]) (st' := [vI (zw ((zV h 33 10) * 6)), vI s0]) (h' := h) f95_66 rfl ?_
  refine y_s (pc' := 68) (L' := [some (vR (some 32)), some (vI l1), some (vI l2)]) (st' := [vI l2, vI (zw ((zV h 33 10) * 6)), vI s0]) (h' := h) f95_67 rfl ?_
  refine y_cJ (pc' := 71) (as := [vI s0, vI (zw ((zV h 33 10) * 6)), vI l2]) (r := []) f95_68 rfl (by omega) rfl ?_
  exact k
theorem W95_71 {d : Nat} {K : Int64 → Hp → Prop} (w : yWF zl nl h) {l1 : Int} {l2 : Int} {s0 : Int64} (k : K s0 h) : ZW d prog_1_method_24_code 7 71 [some (vR (some 32)), some (vI l1), some (vI l2)] [vJ s0] h (yq 4 (yqJ K)) := by
  exact y_rj f95_71 ⟨rfl, k⟩
/-- HatterTunes.ends(I)I -/
theorem E97 {d : Nat} {K : Int → Hp → Prop} (w : yWF zl nl h) {x0 : Int} (hd : 1 ≤ d) (k : ((((0 : Int) ≤ x0 ∧ x0 < 2) → yU (d - 1) 28 [vR (some 52), vR (some 33)] h (fun h' => ZW d prog_1_method_28_code 7 21 [some (vR (some 32)), some (vI x0)] [] h' (yq 1 (yqI K)))) ∧ (¬ (((0 : Int) ≤ x0 ∧ x0 < 2)) → K (-1) h))) : yI d 97 [vR (some 32), vI x0] h K := by
  refine y_en (L := [some (vR (some 32)), some (vI x0)]) rfl rfl ?_
  refine y_s (pc' := 1) (L' := [some (vR (some 32)), some (vI x0)]) (st' := [vI x0]) (h' := h) f97_0 rfl ?_
  refine y_s (pc' := 2) (L' := [some (vR (some 32)), some (vI x0)]) (st' := [vI 2, vI x0]) (h' := h) f97_1 rfl ?_
  refine y_cI (pc' := 5) (as := [vI x0, vI 2]) (r := []) f97_2 rfl (by omega) rfl ?_
  refine sp10 w (fun c => ?_) (fun c => ?_)
  · replace k := k.1 c
    refine y_ift (pcT := 10) f97_5 rfl rfl ?_
    refine y_s (pc' := 11) (L' := [some (vR (some 32)), some (vI x0)]) (st' := [vR (some 32)]) (h' := h) f97_10 rfl ?_
    refine y_gr (pc' := 14) f97_11 yf_7_18 rfl rfl (ys32 w) (yp32_1 w) rfl ?_
    refine y_s (pc' := 15) (L' := [some (vR (some 32)), some (vI x0)]) (st' := [vR (some 32), vR (some 52)]) (h' := h) f97_14 rfl ?_
    refine y_gr (pc' := 18) f97_15 yf_7_14 rfl rfl (ys32 w) (yp32_0 w) rfl ?_
    refine y_cU (pc' := 21) (as := [vR (some 52), vR (some 33)]) (r := []) f97_18 (yzv ym_7_114 rfl (ys52 w) rfl rfl) (by omega) rfl ?_
    exact k
  · replace k := k.2 c
    refine y_iff (pcT := 10) (pc' := 8) f97_5 rfl rfl rfl ?_
    refine y_s (pc' := 9) (L' := [some (vR (some 32)), some (vI x0)]) (st' := [vI (-1)]) (h' := h) f97_8 rfl ?_
    exact y_ri f97_9 ⟨rfl, k⟩
theorem W97_21 {d : Nat} {K : Int → Hp → Prop} (w : yWF zl nl h) {l1 : Int} (hd : 1 ≤ d) (k : yU (d - 1) 98 [vR (some 52)] h (fun h' => ZW d prog_1_method_28_code 7 28 [some (vR (some 32)), some (vI l1)] [] h' (yq 1 (yqI K)))) : ZW d prog_1_method_28_code 7 21 [some (vR (some 32)), some (vI l1)] [] h (yq 1 (yqI K)) := by
  refine y_s (pc' := 22) (L' := [some (vR (some 32)), some (vI l1)]) (st' := [vR (some 32)]) (h' := h) f97_21 rfl ?_
  refine y_gr (pc' := 25) f97_22 yf_7_18 rfl rfl (ys32 w) (yp32_1 w) rfl ?_
  refine y_cU (pc' := 28) (as := [vR (some 52)]) (r := []) f97_25 (yzv ym_7_221 rfl (ys52 w) rfl rfl) (by omega) rfl ?_
  exact k
theorem W97_28 {d : Nat} {K : Int → Hp → Prop} (w : yWF zl nl h) {l1 : Int} (hd : 1 ≤ d) (k : ((l1 ≠ 0 → yI (d - 1) 76 [vR (some 52)] h (fun x h' => ZW d prog_1_method_28_code 7 49 [some (vR (some 32)), some (vI l1)] [vI x] h' (yq 1 (yqI K)))) ∧ (¬ (l1 ≠ 0) → yI (d - 1) 77 [vR (some 52)] h (fun x h' => ZW d prog_1_method_28_code 7 39 [some (vR (some 32)), some (vI l1)] [vI x] h' (yq 1 (yqI K)))))) : ZW d prog_1_method_28_code 7 28 [some (vR (some 32)), some (vI l1)] [] h (yq 1 (yqI K)) := by
  refine y_s (pc' := 29) (L' := [some (vR (some 32)), some (vI l1)]) (st' := [vI l1]) (h' := h) f97_28 rfl ?_
  refine y_if (pcT := 42) (pc' := 32) (P := l1 ≠ 0) f97_29 rfl rfl rfl (fun c => ?_) (fun c => ?_)
  · replace k := k.1 c
    refine y_s (pc' := 43) (L' := [some (vR (some 32)), some (vI l1)]) (st' := [vR (some 32)]) (h' := h) f97_42 rfl ?_
    refine y_gr (pc' := 46) f97_43 yf_7_18 rfl rfl (ys32 w) (yp32_1 w) rfl ?_
    refine y_cI (pc' := 49) (as := [vR (some 52)]) (r := []) f97_46 (yzv ym_7_172 rfl (ys52 w) rfl rfl) (by omega) rfl ?_
    exact k
  · replace k := k.2 c
    refine y_s (pc' := 33) (L' := [some (vR (some 32)), some (vI l1)]) (st' := [vR (some 32)]) (h' := h) f97_32 rfl ?_
    refine y_gr (pc' := 36) f97_33 yf_7_18 rfl rfl (ys32 w) (yp32_1 w) rfl ?_
    refine y_cI (pc' := 39) (as := [vR (some 52)]) (r := []) f97_36 (yzv ym_7_175 rfl (ys52 w) rfl rfl) (by omega) rfl ?_
    exact k
theorem W97_39 {d : Nat} {K : Int → Hp → Prop} (w : yWF zl nl h) {l1 : Int} {s0 : Int} (k : K s0 h) : ZW d prog_1_method_28_code 7 39 [some (vR (some 32)), some (vI l1)] [vI s0] h (yq 1 (yqI K)) := by
  refine y_go (pc' := 49) f97_39 rfl ?_
  exact y_ri f97_49 ⟨rfl, k⟩
theorem W97_49 {d : Nat} {K : Int → Hp → Prop} (w : yWF zl nl h) {l1 : Int} {s0 : Int} (k : K s0 h) : ZW d prog_1_method_28_code 7 49 [some (vR (some 32)), some (vI l1)] [vI s0] h (yq 1 (yqI K)) := by
  exact y_ri f97_49 ⟨rfl, k⟩
end YD
